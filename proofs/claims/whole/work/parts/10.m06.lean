def p_X10_isChannel (a1 : Int32) (M : Mem) (Q : Int32 → Mem → Prop) : Prop := ((a1 < 0 → (Q 0 M)) ∧ (¬ a1 < 0 → (((M.1 27 0 1) ≤ a1 → (Q 0 M)) ∧ (¬ (M.1 27 0 1) ≤ a1 → (Q 1 M)))))
set_option maxRecDepth 100000 in
set_option maxHeartbeats 4000000 in
theorem c_X10_isChannel (l : Launch) (g : Geo) (gi : GI g) (a1 : Int32) (M : Mem) (Q : Int32 → Mem → Prop) (hw : p_X10_isChannel a1 M Q) : Met l yX10_isChannel (Cond.code yX10_isChannel cX10_isChannel 2 (some .boolean) :: bg) ({ frames := 0, cells := 0, slots := 0, locals := 0 } : Room) (va_Pc [.ref (g.2.1 (0 + 0)), .int a1] (PW g (xw g M))) (va_Qi (fun r M => Q r M ∧ narrow .boolean (.int r) = .int r) (PB g (xw g)) (Af 0 g)) 0 0 (Af 0 g) := by
  refine Met.ofW (cc := cX10_isChannel) (maxL := 2) (ret := (some .boolean)) (by decide +kernel) rfl ?_
  intro p e s m args below meth c s₁ B hml hv
  obtain ⟨rfl, hv⟩ := hv
  have C := CX.start (own := RX10) B hml rfl gi hv
  have hP := hv.1
  have hS : va_S (Af 0 g) s.heap s.heap [] := va_S.rf
  have hl := lv_entry ([.ref (g.2.1 (0 + 0)), .int a1]) (n := 2) (Nat.le_of_ble_eq_true rfl)
  rw [lg_entry_eq]
  generalize (lg_sl ([.ref (g.2.1 (0 + 0)), .int a1]) ++ List.replicate (2 - (lg_sl ([.ref (g.2.1 (0 + 0)), .int a1])).length) Slot.unset).toArray = ls at hl ⊢
  have hl : lv_has ls 2 [(0, .ref (g.2.1 (0 + 0))), (1, .int a1)] := hl
  unfold p_X10_isChannel at hw
  refine lv_iload_n C.1 C.2.1 dX10_isChannel_0 rfl (lv_at hl 1 rfl) ?_
  refine lv_if_lt (tgt := 19) C.1 C.2.1 dX10_isChannel_1 (by decide) (fun h1 => ?_) (fun h1 => ?_)
  · have hw := hw.1 h1
    refine lv_iconst (v := 0) C.1 C.2.1 dX10_isChannel_19 (by decide) ?_
    exact retZ (wf := (xw g)) C hP hS rfl hw dX10_isChannel_20
  · have hw := hw.2 h1
    refine lv_iload_n C.1 C.2.1 dX10_isChannel_4 rfl (lv_at hl 1 rfl) ?_
    refine lv_aload_n C.1 C.2.1 dX10_isChannel_5 rfl (lv_at hl 0 rfl) ?_
    refine gX10_47 C hP Nat.zero_lt_one dX10_isChannel_6 ?_
    refine gX10_274 C hP (Nat.le_of_ble_eq_true rfl) dX10_isChannel_9 ?_
    refine lv_icmp_ge (tgt := 19) C.1 C.2.1 dX10_isChannel_12 (by decide) (fun h2 => ?_) (fun h2 => ?_)
    · have hw := hw.1 h2
      refine lv_iconst (v := 0) C.1 C.2.1 dX10_isChannel_19 (by decide) ?_
      exact retZ (wf := (xw g)) C hP hS rfl hw dX10_isChannel_20
    · have hw := hw.2 h2
      refine lv_iconst (v := 1) C.1 C.2.1 dX10_isChannel_15 (by decide) ?_
      refine lv_goto (tgt := 20) C.1 C.2.1 dX10_isChannel_16 (by decide) ?_
      exact retZ (wf := (xw g)) C hP hS rfl hw dX10_isChannel_20
def p_X10_lock (a1 : Int32) (a2 : Int32) (M : Mem) (Q : Int32 → Mem → Prop) : Prop := (p_X10_isBird a1 M (fun r1 M1 => ((r1 = 0 → (Q (-1) M1)) ∧ (¬ r1 = 0 → ((a2 < 0 → (Q (-1) M1)) ∧ (¬ a2 < 0 → ((a2 < 199 → (p_X10_huntOver a1 a2 1 M1 (fun M5 => (∃ w6 : Nat, M5.2.2 0 0 3 = some (23 + w6) ∧ w6 < 2 ∧ (p_X4_isAcquired ((M5.1 23 w6 9)) M5 (fun r7 M7 => ((¬ r7 = 0 → (((M7.1 27 0 1) < 4 → (p_X5_push 0 M7 (fun M10 => (∀ x11 : Int32, x11 = (M10.1 27 0 1) → (vp_in x11 4 ∧ (p_X1_begin ((4 * 0 + (x11 : Int32).toNatClampNeg)) a1 ((M10.1 11 0 1)) ((M10.1 11 0 2)) ((a2 + 1)) M10 (fun M13 => (∀ M14 : Mem, M14 = sI M13 27 0 1 (x11 + 1) → (Q x11 M14))))))))) ∧ (¬ (M7.1 27 0 1) < 4 → (Q (-3) M7)))) ∧ (r7 = 0 → (Q (-2) M7))))))))) ∧ (¬ a2 < 199 → (Q (-1) M1)))))))))
set_option maxRecDepth 100000 in
set_option maxHeartbeats 4000000 in
theorem c_X10_lock (l : Launch) (g : Geo) (gi : GI g) (a1 : Int32) (a2 : Int32) (M : Mem) (Q : Int32 → Mem → Prop) (hw : p_X10_lock a1 a2 M Q) : Met l yX10_lock (Cond.code yX10_lock cX10_lock 4 (some .int) :: bg) ({ frames := 5, cells := 0, slots := 0, locals := 123 } : Room) (va_Pc [.ref (g.2.1 (0 + 0)), .int a1, .int a2] (PW g (xw g M))) (va_Qi Q (PB g (xw g)) (Af 0 g)) 0 0 (Af 0 g) := by
  refine Met.ofW (cc := cX10_lock) (maxL := 4) (ret := (some .int)) (by decide +kernel) rfl ?_
  intro p e s m args below meth c s₁ B hml hv
  obtain ⟨rfl, hv⟩ := hv
  have C := CX.start (own := RX10) B hml rfl gi hv
  have hP := hv.1
  have hS : va_S (Af 0 g) s.heap s.heap [] := va_S.rf
  have hl := lv_entry ([.ref (g.2.1 (0 + 0)), .int a1, .int a2]) (n := 4) (Nat.le_of_ble_eq_true rfl)
  rw [lg_entry_eq]
  generalize (lg_sl ([.ref (g.2.1 (0 + 0)), .int a1, .int a2]) ++ List.replicate (4 - (lg_sl ([.ref (g.2.1 (0 + 0)), .int a1, .int a2])).length) Slot.unset).toArray = ls at hl ⊢
  have hl : lv_has ls 4 [(0, .ref (g.2.1 (0 + 0))), (1, .int a1), (2, .int a2)] := hl
  unfold p_X10_lock at hw
  refine lv_aload_n C.1 C.2.1 dX10_lock_0 rfl (lv_at hl 0 rfl) ?_
  refine lv_iload_n C.1 C.2.1 dX10_lock_1 rfl (lv_at hl 1 rfl) ?_
  refine goI (wf := (xw g)) (runV (w := xw g M) (As := [.int a1]) (rest := []) C lkX10_111 (c_X10_isBird l g C.2.2.2.2.2.2.2.2.2.2 a1  M _ hw) hP hS rfl rfl ⟨Nat.le_of_ble_eq_true rfl, Nat.le_of_ble_eq_true rfl⟩ (xx_0 Nat.zero_lt_one) rfl rfl hl.1 rfl (Nat.le_of_ble_eq_true rfl) dX10_lock_2) hS (fun r1 M1 hw H locs hP hS => ?_)
  obtain ⟨hw, hz1⟩ := hw
  refine lv_if_eq (tgt := 19) C.1 C.2.1 dX10_lock_5 (by decide) (fun h2 => ?_) (fun h2 => ?_)
  · have hw := hw.1 h2
    refine lv_iconst (v := (-1)) C.1 C.2.1 dX10_lock_19 (by decide) ?_
    exact retI (wf := (xw g)) C hP hS hw dX10_lock_20
  · have hw := hw.2 h2
    refine lv_iload_n C.1 C.2.1 dX10_lock_8 rfl (lv_at hl 2 rfl) ?_
    refine lv_if_lt (tgt := 19) C.1 C.2.1 dX10_lock_9 (by decide) (fun h3 => ?_) (fun h3 => ?_)
    · have hw := hw.1 h3
      refine lv_iconst (v := (-1)) C.1 C.2.1 dX10_lock_19 (by decide) ?_
      exact retI (wf := (xw g)) C hP hS hw dX10_lock_20
    · have hw := hw.2 h3
      refine lv_iload_n C.1 C.2.1 dX10_lock_12 rfl (lv_at hl 2 rfl) ?_
      refine lv_sipush (v := 199) C.1 C.2.1 dX10_lock_13 (by decide) ?_
      refine lv_icmp_lt (tgt := 21) C.1 C.2.1 dX10_lock_16 (by decide) (fun h4 => ?_) (fun h4 => ?_)
      · have hw := hw.1 h4
        refine lv_aload_n C.1 C.2.1 dX10_lock_21 rfl (lv_at hl 0 rfl) ?_
        refine lv_iload_n C.1 C.2.1 dX10_lock_22 rfl (lv_at hl 1 rfl) ?_
        refine lv_iload_n C.1 C.2.1 dX10_lock_23 rfl (lv_at hl 2 rfl) ?_
        refine lv_iconst (v := 1) C.1 C.2.1 dX10_lock_24 (by decide) ?_
        refine goV (wf := (xw g)) (runV (w := xw g M1) (As := [.int a1, .int a2, .int 1]) (rest := []) C lkX10_245 (c_X10_huntOver l g C.2.2.2.2.2.2.2.2.2.2 a1 a2 1  M1 _ hw) hP hS rfl rfl ⟨Nat.le_of_ble_eq_true rfl, Nat.le_of_ble_eq_true rfl⟩ (xx_0 Nat.zero_lt_one) rfl rfl hl.1 rfl (Nat.le_of_ble_eq_true rfl) dX10_lock_25) hS (fun M5 hw H locs hP hS => ?_)
        refine lv_aload_n C.1 C.2.1 dX10_lock_28 rfl (lv_at hl 0 rfl) ?_
        refine gX10_40 C hP Nat.zero_lt_one dX10_lock_29 ?_
        refine lv_aload_n C.1 C.2.1 dX10_lock_32 rfl (lv_at hl 0 rfl) ?_
        obtain ⟨w6, h6, hb6, hw⟩ := hw
        refine gX10_23f C hP Nat.zero_lt_one h6 dX10_lock_33 ?_
        refine gX10_222 C hP hb6 dX10_lock_36 ?_
        refine goI (wf := (xw g)) (runV (w := xw g M5) (As := [.int (M5.1 23 w6 9)]) (rest := []) C lkX10_225 (c_X4_isAcquired l g C.2.2.2.2.2.2.2.2.2.2 ((M5.1 23 w6 9))  M5 _ hw) hP hS rfl rfl ⟨Nat.le_of_ble_eq_true rfl, Nat.le_of_ble_eq_true rfl⟩ (xx_11 Nat.zero_lt_one) rfl rfl hl.1 rfl (Nat.le_of_ble_eq_true rfl) dX10_lock_39) hS (fun r7 M7 hw H locs hP hS => ?_)
        obtain ⟨hw, hz7⟩ := hw
        refine lv_if_ne (tgt := 48) C.1 C.2.1 dX10_lock_42 (by decide) (fun h8 => ?_) (fun h8 => ?_)
        · have hw := hw.1 h8
          refine lv_aload_n C.1 C.2.1 dX10_lock_48 rfl (lv_at hl 0 rfl) ?_
          refine gX10_47 C hP Nat.zero_lt_one dX10_lock_49 ?_
          refine gX10_274 C hP (Nat.le_of_ble_eq_true rfl) dX10_lock_52 ?_
          refine lv_iconst (v := 4) C.1 C.2.1 dX10_lock_55 (by decide) ?_
          refine lv_icmp_lt (tgt := 62) C.1 C.2.1 dX10_lock_56 (by decide) (fun h9 => ?_) (fun h9 => ?_)
          · have hw := hw.1 h9
            refine lv_aload_n C.1 C.2.1 dX10_lock_62 rfl (lv_at hl 0 rfl) ?_
            refine gX10_60 C hP Nat.zero_lt_one dX10_lock_63 ?_
            refine lv_aload_n C.1 C.2.1 dX10_lock_66 rfl (lv_at hl 0 rfl) ?_
            refine gX10_47 C hP Nat.zero_lt_one dX10_lock_67 ?_
            refine goV (wf := (xw g)) (runV (w := xw g M7) (As := [.ref (g.2.1 (47 + 0))]) (rest := []) C lkX10_277 (c_X5_push l g C.2.2.2.2.2.2.2.2.2.2 0 (Nat.le_of_ble_eq_true rfl) M7 _ hw) hP hS rfl rfl ⟨Nat.le_of_ble_eq_true rfl, Nat.le_of_ble_eq_true rfl⟩ (xx_21 Nat.zero_lt_one) rfl rfl hl.1 rfl (Nat.le_of_ble_eq_true rfl) dX10_lock_70) hS (fun M10 hw H locs hP hS => ?_)
            refine lv_aload_n C.1 C.2.1 dX10_lock_73 rfl (lv_at hl 0 rfl) ?_
            refine gX10_47 C hP Nat.zero_lt_one dX10_lock_74 ?_
            refine gX10_274 C hP (Nat.le_of_ble_eq_true rfl) dX10_lock_77 ?_
            refine lv_topi (fun x11 e11 => ?_)
            have hw := hw x11 e11
            refine lv_istore_n (lv' := [(3, .int x11), (0, .ref (g.2.1 (0 + 0))), (1, .int a1), (2, .int a2)]) C.1 C.2.1 dX10_lock_80 rfl hl (by decide) rfl (fun ls hl => ?_)
            refine lv_aload_n C.1 C.2.1 dX10_lock_81 rfl (lv_at hl 1 rfl) ?_
            refine gX10_47 C hP Nat.zero_lt_one dX10_lock_82 ?_
            refine gX10_281 C hP (Nat.le_of_ble_eq_true rfl) dX10_lock_85 ?_
            refine lv_iload_n C.1 C.2.1 dX10_lock_88 rfl (lv_at hl 0 rfl) ?_
            obtain ⟨h12, hw⟩ := hw
            have hb12 : (4 * 0 + (x11 : Int32).toNatClampNeg) < 52 := by have h9 := vp_lt h12; have h8 := (rfl : 0 = 0); omega
            refine al_28 C hP (Nat.le_of_ble_eq_true rfl) h12 dX10_lock_89 ?_
            refine lv_iload_n C.1 C.2.1 dX10_lock_90 rfl (lv_at hl 2 rfl) ?_
            refine lv_aload_n C.1 C.2.1 dX10_lock_91 rfl (lv_at hl 1 rfl) ?_
            refine gX10_40 C hP Nat.zero_lt_one dX10_lock_92 ?_
            refine gX10_232 C hP Nat.zero_lt_one dX10_lock_95 ?_
            refine lv_aload_n C.1 C.2.1 dX10_lock_98 rfl (lv_at hl 1 rfl) ?_
            refine gX10_40 C hP Nat.zero_lt_one dX10_lock_99 ?_
            refine gX10_248 C hP Nat.zero_lt_one dX10_lock_102 ?_
            refine lv_iload_n C.1 C.2.1 dX10_lock_105 rfl (lv_at hl 3 rfl) ?_
            refine lv_iconst (v := 1) C.1 C.2.1 dX10_lock_106 (by decide) ?_
            refine lv_iadd C.1 C.2.1 dX10_lock_107 ?_
            refine goV (wf := (xw g)) (runV (w := xw g M10) (As := [.int a1, .int (M10.1 11 0 1), .int (M10.1 11 0 2), .int (a2 + 1)]) (rest := []) C lkX10_285 (c_X1_begin l g C.2.2.2.2.2.2.2.2.2.2 ((4 * 0 + (x11 : Int32).toNatClampNeg)) a1 ((M10.1 11 0 1)) ((M10.1 11 0 2)) ((a2 + 1)) hb12 M10 _ hw) hP hS rfl rfl ⟨Nat.le_of_ble_eq_true rfl, Nat.le_of_ble_eq_true rfl⟩ (xx_30 hb12) rfl rfl hl.1 rfl (Nat.le_of_ble_eq_true rfl) dX10_lock_108) hS (fun M13 hw H locs hP hS => ?_)
            refine lv_aload_n C.1 C.2.1 dX10_lock_111 rfl (lv_at hl 1 rfl) ?_
            refine gX10_47 C hP Nat.zero_lt_one dX10_lock_112 ?_
            refine lv_iload_n C.1 C.2.1 dX10_lock_115 rfl (lv_at hl 0 rfl) ?_
            refine lv_iconst (v := 1) C.1 C.2.1 dX10_lock_116 (by decide) ?_
            refine lv_iadd C.1 C.2.1 dX10_lock_117 ?_
            refine pX10_274 C hP hS (Nat.le_of_ble_eq_true rfl) dX10_lock_118 (fun M14 e14 H locs hP hS => ?_)
            have hw := hw M14 e14
            refine lv_iload_n C.1 C.2.1 dX10_lock_121 rfl (lv_at hl 0 rfl) ?_
            exact retI (wf := (xw g)) C hP hS hw dX10_lock_122
          · have hw := hw.2 h9
            refine lv_bipush (v := (-3)) C.1 C.2.1 dX10_lock_59 (by decide) ?_
            exact retI (wf := (xw g)) C hP hS hw dX10_lock_61
        · have hw := hw.2 h8
          refine lv_bipush (v := (-2)) C.1 C.2.1 dX10_lock_45 (by decide) ?_
          exact retI (wf := (xw g)) C hP hS hw dX10_lock_47
      · have hw := hw.2 h4
        refine lv_iconst (v := (-1)) C.1 C.2.1 dX10_lock_19 (by decide) ?_
        exact retI (wf := (xw g)) C hP hS hw dX10_lock_20
def p_X10_drop (M : Mem) (Q : Int32 → Mem → Prop) : Prop := ((¬ (M.1 27 0 1) = 0 → (p_X5_push 0 M (fun M2 => (∀ M3 : Mem, M3 = sI M2 27 0 1 ((M2.1 27 0 1) - 1) → (Q (M3.1 27 0 1) M3))))) ∧ ((M.1 27 0 1) = 0 → (Q (-1) M)))
set_option maxRecDepth 100000 in
set_option maxHeartbeats 4000000 in
theorem c_X10_drop (l : Launch) (g : Geo) (gi : GI g) (M : Mem) (Q : Int32 → Mem → Prop) (hw : p_X10_drop  M Q) : Met l yX10_drop (Cond.code yX10_drop cX10_drop 1 (some .int) :: bg) ({ frames := 3, cells := 0, slots := 0, locals := 64 } : Room) (va_Pc [.ref (g.2.1 (0 + 0))] (PW g (xw g M))) (va_Qi Q (PB g (xw g)) (Af 0 g)) 0 0 (Af 0 g) := by
  refine Met.ofW (cc := cX10_drop) (maxL := 1) (ret := (some .int)) (by decide +kernel) rfl ?_
  intro p e s m args below meth c s₁ B hml hv
  obtain ⟨rfl, hv⟩ := hv
  have C := CX.start (own := RX10) B hml rfl gi hv
  have hP := hv.1
  have hS : va_S (Af 0 g) s.heap s.heap [] := va_S.rf
  have hl := lv_entry ([.ref (g.2.1 (0 + 0))]) (n := 1) (Nat.le_of_ble_eq_true rfl)
  rw [lg_entry_eq]
  generalize (lg_sl ([.ref (g.2.1 (0 + 0))]) ++ List.replicate (1 - (lg_sl ([.ref (g.2.1 (0 + 0))])).length) Slot.unset).toArray = ls at hl ⊢
  have hl : lv_has ls 1 [(0, .ref (g.2.1 (0 + 0)))] := hl
  unfold p_X10_drop at hw
  refine lv_aload_n C.1 C.2.1 dX10_drop_0 rfl (lv_at hl 0 rfl) ?_
  refine gX10_47 C hP Nat.zero_lt_one dX10_drop_1 ?_
  refine gX10_274 C hP (Nat.le_of_ble_eq_true rfl) dX10_drop_4 ?_
  refine lv_if_ne (tgt := 12) C.1 C.2.1 dX10_drop_7 (by decide) (fun h1 => ?_) (fun h1 => ?_)
  · have hw := hw.1 h1
    refine lv_aload_n C.1 C.2.1 dX10_drop_12 rfl (lv_at hl 0 rfl) ?_
    refine gX10_60 C hP Nat.zero_lt_one dX10_drop_13 ?_
    refine lv_aload_n C.1 C.2.1 dX10_drop_16 rfl (lv_at hl 0 rfl) ?_
    refine gX10_47 C hP Nat.zero_lt_one dX10_drop_17 ?_
    refine goV (wf := (xw g)) (runV (w := xw g M) (As := [.ref (g.2.1 (47 + 0))]) (rest := []) C lkX10_277 (c_X5_push l g C.2.2.2.2.2.2.2.2.2.2 0 (Nat.le_of_ble_eq_true rfl) M _ hw) hP hS rfl rfl ⟨Nat.le_of_ble_eq_true rfl, Nat.le_of_ble_eq_true rfl⟩ (xx_21 Nat.zero_lt_one) rfl rfl hl.1 rfl (Nat.le_of_ble_eq_true rfl) dX10_drop_20) hS (fun M2 hw H locs hP hS => ?_)
    refine lv_aload_n C.1 C.2.1 dX10_drop_23 rfl (lv_at hl 0 rfl) ?_
    refine gX10_47 C hP Nat.zero_lt_one dX10_drop_24 ?_
    refine lv_dup C.1 C.2.1 dX10_drop_27 rfl ?_
    refine gX10_274 C hP (Nat.le_of_ble_eq_true rfl) dX10_drop_28 ?_
    refine lv_iconst (v := 1) C.1 C.2.1 dX10_drop_31 (by decide) ?_
    refine lv_isub C.1 C.2.1 dX10_drop_32 ?_
    refine pX10_274 C hP hS (Nat.le_of_ble_eq_true rfl) dX10_drop_33 (fun M3 e3 H locs hP hS => ?_)
    have hw := hw M3 e3
    refine lv_aload_n C.1 C.2.1 dX10_drop_36 rfl (lv_at hl 0 rfl) ?_
    refine gX10_47 C hP Nat.zero_lt_one dX10_drop_37 ?_
    refine gX10_274 C hP (Nat.le_of_ble_eq_true rfl) dX10_drop_40 ?_
    exact retI (wf := (xw g)) C hP hS hw dX10_drop_43
  · have hw := hw.2 h1
    refine lv_iconst (v := (-1)) C.1 C.2.1 dX10_drop_10 (by decide) ?_
    exact retI (wf := (xw g)) C hP hS hw dX10_drop_11
def b_X10_followOne_162 (Q : Mem → Prop) (v1 : Nat) (s0 : Nat) (s1 : Int32) (M : Mem) : Prop := (p_X1_write s0 s1 M (fun M18 => (p_X2_power  M18 (fun r19 M19 => (p_X1_hold v1 r19 M19 (fun M20 => (Q M20)))))))
set_option maxRecDepth 100000 in
set_option maxHeartbeats 4000000 in
theorem k_X10_followOne_162 {p : Program} {l : Launch} {e : Env} {s : State} {m : MethodId} {args : Array Value} {below : List Frame} {meth : Method} {c : Code} {g : Geo} (C : CX g p s m args meth c cX10_followOne 5 none RX10) {Q : Mem → Prop} (v1 : Nat) (s0 : Nat) (s1 : Int32) (hv1 : v1 < 52) (hs0 : s0 < 52) (M : Mem) (hw : b_X10_followOne_162 Q v1 s0 s1 M) {H : Heap} {locs : List Loc} {ls : Array Slot} (hl : lv_has ls 5 [(0, .ref (g.2.1 (0 + 0))), (1, .ref (g.2.1 (86 + v1)))]) (hP : va_P g.1 clz (xw g M) H) (hS : va_S (Af 0 g) s.heap H locs) : W p l e ({ frames := 4, cells := 0, slots := 0, locals := 99 } : Room) s m args below meth c H locs 0 0 (MQ below (va_Qv Q (PB g (xw g)) (Af 0 g)) args s 0 0 (Af 0 g)) (F0 m 162 ls [.int s1, .ref (g.2.1 (86 + s0))]) := by
  unfold b_X10_followOne_162 at hw
  refine goV (wf := (xw g)) (runV (w := xw g M) (As := [.int s1]) (rest := []) C lkX10_324 (c_X1_write l g C.2.2.2.2.2.2.2.2.2.2 s0 s1 hs0 M _ hw) hP hS rfl rfl ⟨Nat.le_of_ble_eq_true rfl, Nat.le_of_ble_eq_true rfl⟩ (xx_30 hs0) rfl rfl hl.1 rfl (Nat.le_of_ble_eq_true rfl) dX10_followOne_162) hS (fun M18 hw H locs hP hS => ?_)
  refine lv_aload_n C.1 C.2.1 dX10_followOne_165 rfl (lv_at hl 1 rfl) ?_
  refine lv_aload_n C.1 C.2.1 dX10_followOne_166 rfl (lv_at hl 0 rfl) ?_
  refine gX10_33 C hP Nat.zero_lt_one dX10_followOne_167 ?_
  refine goI (wf := (xw g)) (runV (w := xw g M18) (As := []) (rest := [.ref (g.2.1 (86 + v1))]) C lkX10_204 (c_X2_power l g C.2.2.2.2.2.2.2.2.2.2   M18 _ hw) hP hS rfl rfl ⟨Nat.le_of_ble_eq_true rfl, Nat.le_of_ble_eq_true rfl⟩ (xx_5 Nat.zero_lt_one) rfl rfl hl.1 rfl (Nat.le_of_ble_eq_true rfl) dX10_followOne_170) hS (fun r19 M19 hw H locs hP hS => ?_)
  refine goV (wf := (xw g)) (runV (w := xw g M19) (As := [.int r19]) (rest := []) C lkX10_327 (c_X1_hold l g C.2.2.2.2.2.2.2.2.2.2 v1 r19 hv1 M19 _ hw) hP hS rfl rfl ⟨Nat.le_of_ble_eq_true rfl, Nat.le_of_ble_eq_true rfl⟩ (xx_30 hv1) rfl rfl hl.1 rfl (Nat.le_of_ble_eq_true rfl) dX10_followOne_173) hS (fun M20 hw H locs hP hS => ?_)
  exact retV (wf := (xw g)) C hP hS hw dX10_followOne_176
def b_X10_followOne_101 (Q : Mem → Prop) (v1 : Nat) (v2 : Int32) (v3 : Int32) (s1 : Int32) (M : Mem) : Prop := (p_X2_sumAt s1 M (fun M12 => (p_X2_power  M12 (fun r13 M13 => (p_X2_sumAt v2 M13 (fun M14 => (p_X1_movePoint v1 v3 r13 M14 (fun M15 => (p_X1_moveTurn v1 ((M15.1 5 0 2)) ((M15.1 5 0 3)) M15 (fun M16 => ((0 ≤ (M16.1 5 0 2) → (b_X10_followOne_162 Q v1 v1 0 M16)) ∧ (¬ 0 ≤ (M16.1 5 0 2) → (b_X10_followOne_162 Q v1 v1 1 M16)))))))))))))
set_option maxRecDepth 100000 in
set_option maxHeartbeats 4000000 in
theorem k_X10_followOne_101 {p : Program} {l : Launch} {e : Env} {s : State} {m : MethodId} {args : Array Value} {below : List Frame} {meth : Method} {c : Code} {g : Geo} (C : CX g p s m args meth c cX10_followOne 5 none RX10) {Q : Mem → Prop} (v1 : Nat) (v2 : Int32) (v3 : Int32) (s1 : Int32) (hv1 : v1 < 52) (M : Mem) (hw : b_X10_followOne_101 Q v1 v2 v3 s1 M) {H : Heap} {locs : List Loc} {ls : Array Slot} (hl : lv_has ls 5 [(0, .ref (g.2.1 (0 + 0))), (1, .ref (g.2.1 (86 + v1))), (2, .int v2), (3, .int v3)]) (hP : va_P g.1 clz (xw g M) H) (hS : va_S (Af 0 g) s.heap H locs) : W p l e ({ frames := 4, cells := 0, slots := 0, locals := 99 } : Room) s m args below meth c H locs 0 0 (MQ below (va_Qv Q (PB g (xw g)) (Af 0 g)) args s 0 0 (Af 0 g)) (F0 m 101 ls [.int s1, .ref (g.2.1 (5 + 0))]) := by
  unfold b_X10_followOne_101 at hw
  refine goV (wf := (xw g)) (runV (w := xw g M) (As := [.int s1]) (rest := []) C lkX10_195 (c_X2_sumAt l g C.2.2.2.2.2.2.2.2.2.2 s1  M _ hw) hP hS rfl rfl ⟨Nat.le_of_ble_eq_true rfl, Nat.le_of_ble_eq_true rfl⟩ (xx_5 Nat.zero_lt_one) rfl rfl hl.1 rfl (Nat.le_of_ble_eq_true rfl) dX10_followOne_101) hS (fun M12 hw H locs hP hS => ?_)
  refine lv_aload_n C.1 C.2.1 dX10_followOne_104 rfl (lv_at hl 0 rfl) ?_
  refine gX10_33 C hP Nat.zero_lt_one dX10_followOne_105 ?_
  refine goI (wf := (xw g)) (runV (w := xw g M12) (As := []) (rest := []) C lkX10_204 (c_X2_power l g C.2.2.2.2.2.2.2.2.2.2   M12 _ hw) hP hS rfl rfl ⟨Nat.le_of_ble_eq_true rfl, Nat.le_of_ble_eq_true rfl⟩ (xx_5 Nat.zero_lt_one) rfl rfl hl.1 rfl (Nat.le_of_ble_eq_true rfl) dX10_followOne_108) hS (fun r13 M13 hw H locs hP hS => ?_)
  refine lv_istore (lv' := [(4, .int r13), (0, .ref (g.2.1 (0 + 0))), (1, .ref (g.2.1 (86 + v1))), (2, .int v2), (3, .int v3)]) C.1 C.2.1 dX10_followOne_111 hl (by decide) rfl (fun ls hl => ?_)
  refine lv_aload_n C.1 C.2.1 dX10_followOne_113 rfl (lv_at hl 1 rfl) ?_
  refine gX10_33 C hP Nat.zero_lt_one dX10_followOne_114 ?_
  refine lv_iload_n C.1 C.2.1 dX10_followOne_117 rfl (lv_at hl 3 rfl) ?_
  refine goV (wf := (xw g)) (runV (w := xw g M13) (As := [.int v2]) (rest := []) C lkX10_195 (c_X2_sumAt l g C.2.2.2.2.2.2.2.2.2.2 v2  M13 _ hw) hP hS rfl rfl ⟨Nat.le_of_ble_eq_true rfl, Nat.le_of_ble_eq_true rfl⟩ (xx_5 Nat.zero_lt_one) rfl rfl hl.1 rfl (Nat.le_of_ble_eq_true rfl) dX10_followOne_118) hS (fun M14 hw H locs hP hS => ?_)
  refine lv_aload_n C.1 C.2.1 dX10_followOne_121 rfl (lv_at hl 2 rfl) ?_
  refine lv_iload_n C.1 C.2.1 dX10_followOne_122 rfl (lv_at hl 4 rfl) ?_
  refine lv_iload C.1 C.2.1 dX10_followOne_123 (lv_at hl 0 rfl) ?_
  refine goV (wf := (xw g)) (runV (w := xw g M14) (As := [.int v3, .int r13]) (rest := []) C lkX10_317 (c_X1_movePoint l g C.2.2.2.2.2.2.2.2.2.2 v1 v3 r13 hv1 M14 _ hw) hP hS rfl rfl ⟨Nat.le_of_ble_eq_true rfl, Nat.le_of_ble_eq_true rfl⟩ (xx_30 hv1) rfl rfl hl.1 rfl (Nat.le_of_ble_eq_true rfl) dX10_followOne_125) hS (fun M15 hw H locs hP hS => ?_)
  refine lv_aload_n C.1 C.2.1 dX10_followOne_128 rfl (lv_at hl 2 rfl) ?_
  refine lv_aload_n C.1 C.2.1 dX10_followOne_129 rfl (lv_at hl 1 rfl) ?_
  refine gX10_33 C hP Nat.zero_lt_one dX10_followOne_130 ?_
  refine gX10_198 C hP Nat.zero_lt_one dX10_followOne_133 ?_
  refine lv_aload_n C.1 C.2.1 dX10_followOne_136 rfl (lv_at hl 1 rfl) ?_
  refine gX10_33 C hP Nat.zero_lt_one dX10_followOne_137 ?_
  refine gX10_201 C hP Nat.zero_lt_one dX10_followOne_140 ?_
  refine goV (wf := (xw g)) (runV (w := xw g M15) (As := [.int (M15.1 5 0 2), .int (M15.1 5 0 3)]) (rest := []) C lkX10_321 (c_X1_moveTurn l g C.2.2.2.2.2.2.2.2.2.2 v1 ((M15.1 5 0 2)) ((M15.1 5 0 3)) hv1 M15 _ hw) hP hS rfl rfl ⟨Nat.le_of_ble_eq_true rfl, Nat.le_of_ble_eq_true rfl⟩ (xx_30 hv1) rfl rfl hl.1 rfl (Nat.le_of_ble_eq_true rfl) dX10_followOne_143) hS (fun M16 hw H locs hP hS => ?_)
  refine lv_aload_n C.1 C.2.1 dX10_followOne_146 rfl (lv_at hl 2 rfl) ?_
  refine lv_aload_n C.1 C.2.1 dX10_followOne_147 rfl (lv_at hl 1 rfl) ?_
  refine gX10_33 C hP Nat.zero_lt_one dX10_followOne_148 ?_
  refine gX10_198 C hP Nat.zero_lt_one dX10_followOne_151 ?_
  refine lv_if_ge (tgt := 161) C.1 C.2.1 dX10_followOne_154 (by decide) (fun h17 => ?_) (fun h17 => ?_)
  · have hw := hw.1 h17
    refine lv_iconst (v := 0) C.1 C.2.1 dX10_followOne_161 (by decide) ?_
    exact k_X10_followOne_162 (Q := Q) C v1 v1 0 hv1 hv1 _ hw (lv_sub hl [1, 2] rfl) hP hS
  · have hw := hw.2 h17
    refine lv_iconst (v := 1) C.1 C.2.1 dX10_followOne_157 (by decide) ?_
    refine lv_goto (tgt := 162) C.1 C.2.1 dX10_followOne_158 (by decide) ?_
    exact k_X10_followOne_162 (Q := Q) C v1 v1 1 hv1 hv1 _ hw (lv_sub hl [1, 2] rfl) hP hS
def b_X10_followOne_73 (Q : Mem → Prop) (v1 : Nat) (v2 : Int32) (s1 : Int32) (M : Mem) : Prop := (p_X2_sumAt s1 M (fun M9 => (p_X2_power  M9 (fun r10 M10 => ((¬ v2 = 61 → (b_X10_followOne_101 Q v1 v2 r10 ((v2 + 1)) M10)) ∧ (v2 = 61 → (b_X10_followOne_101 Q v1 v2 r10 0 M10)))))))
set_option maxRecDepth 100000 in
set_option maxHeartbeats 4000000 in
theorem k_X10_followOne_73 {p : Program} {l : Launch} {e : Env} {s : State} {m : MethodId} {args : Array Value} {below : List Frame} {meth : Method} {c : Code} {g : Geo} (C : CX g p s m args meth c cX10_followOne 5 none RX10) {Q : Mem → Prop} (v1 : Nat) (v2 : Int32) (s1 : Int32) (hv1 : v1 < 52) (M : Mem) (hw : b_X10_followOne_73 Q v1 v2 s1 M) {H : Heap} {locs : List Loc} {ls : Array Slot} (hl : lv_has ls 5 [(0, .ref (g.2.1 (0 + 0))), (1, .ref (g.2.1 (86 + v1))), (2, .int v2)]) (hP : va_P g.1 clz (xw g M) H) (hS : va_S (Af 0 g) s.heap H locs) : W p l e ({ frames := 4, cells := 0, slots := 0, locals := 99 } : Room) s m args below meth c H locs 0 0 (MQ below (va_Qv Q (PB g (xw g)) (Af 0 g)) args s 0 0 (Af 0 g)) (F0 m 73 ls [.int s1, .ref (g.2.1 (5 + 0))]) := by
  unfold b_X10_followOne_73 at hw
  refine goV (wf := (xw g)) (runV (w := xw g M) (As := [.int s1]) (rest := []) C lkX10_195 (c_X2_sumAt l g C.2.2.2.2.2.2.2.2.2.2 s1  M _ hw) hP hS rfl rfl ⟨Nat.le_of_ble_eq_true rfl, Nat.le_of_ble_eq_true rfl⟩ (xx_5 Nat.zero_lt_one) rfl rfl hl.1 rfl (Nat.le_of_ble_eq_true rfl) dX10_followOne_73) hS (fun M9 hw H locs hP hS => ?_)
  refine lv_aload_n C.1 C.2.1 dX10_followOne_76 rfl (lv_at hl 0 rfl) ?_
  refine gX10_33 C hP Nat.zero_lt_one dX10_followOne_77 ?_
  refine goI (wf := (xw g)) (runV (w := xw g M9) (As := []) (rest := []) C lkX10_204 (c_X2_power l g C.2.2.2.2.2.2.2.2.2.2   M9 _ hw) hP hS rfl rfl ⟨Nat.le_of_ble_eq_true rfl, Nat.le_of_ble_eq_true rfl⟩ (xx_5 Nat.zero_lt_one) rfl rfl hl.1 rfl (Nat.le_of_ble_eq_true rfl) dX10_followOne_80) hS (fun r10 M10 hw H locs hP hS => ?_)
  refine lv_istore_n (lv' := [(3, .int r10), (0, .ref (g.2.1 (0 + 0))), (1, .ref (g.2.1 (86 + v1))), (2, .int v2)]) C.1 C.2.1 dX10_followOne_83 rfl hl (by decide) rfl (fun ls hl => ?_)
  refine lv_aload_n C.1 C.2.1 dX10_followOne_84 rfl (lv_at hl 1 rfl) ?_
  refine gX10_33 C hP Nat.zero_lt_one dX10_followOne_85 ?_
  refine lv_iload_n C.1 C.2.1 dX10_followOne_88 rfl (lv_at hl 3 rfl) ?_
  refine lv_bipush (v := 61) C.1 C.2.1 dX10_followOne_89 (by decide) ?_
  refine lv_icmp_ne (tgt := 98) C.1 C.2.1 dX10_followOne_91 (by decide) (fun h11 => ?_) (fun h11 => ?_)
  · have hw := hw.1 h11
    refine lv_iload_n C.1 C.2.1 dX10_followOne_98 rfl (lv_at hl 3 rfl) ?_
    refine lv_iconst (v := 1) C.1 C.2.1 dX10_followOne_99 (by decide) ?_
    refine lv_iadd C.1 C.2.1 dX10_followOne_100 ?_
    exact k_X10_followOne_101 (Q := Q) C v1 v2 r10 ((v2 + 1)) hv1 _ hw (lv_sub hl [1, 2, 3, 0] rfl) hP hS
  · have hw := hw.2 h11
    refine lv_iconst (v := 0) C.1 C.2.1 dX10_followOne_94 (by decide) ?_
    refine lv_goto (tgt := 101) C.1 C.2.1 dX10_followOne_95 (by decide) ?_
    exact k_X10_followOne_101 (Q := Q) C v1 v2 r10 0 hv1 _ hw (lv_sub hl [1, 2, 3, 0] rfl) hP hS
def p_X10_followOne (a1 : Nat) (M : Mem) (Q : Mem → Prop) : Prop := (p_X1_startOfPoint a1 M (fun r1 M1 => (∃ w2 : Nat, M1.2.2 0 0 3 = some (23 + w2) ∧ w2 < 2 ∧ (p_X2_hear w2 ((M1.1 30 a1 5)) M1 (fun M3 => (∃ w4 : Nat, M3.2.2 0 0 3 = some (23 + w4) ∧ w4 < 2 ∧ (p_X9_codeOfBird w4 ((M3.1 30 a1 0)) M3 (fun r5 M5 => (p_X2_takeCode r5 M5 (fun M6 => (p_X2_turnBack ((M6.1 30 a1 5)) ((M6.1 30 a1 2)) ((M6.1 30 a1 3)) M6 (fun M7 => ((¬ r1 = 0 → (b_X10_followOne_73 Q a1 r1 ((r1 - 1)) M7)) ∧ (r1 = 0 → (b_X10_followOne_73 Q a1 r1 61 M7)))))))))))))))
set_option maxRecDepth 100000 in
set_option maxHeartbeats 4000000 in
theorem c_X10_followOne (l : Launch) (g : Geo) (gi : GI g) (a1 : Nat) (ha1 : a1 < 52) (M : Mem) (Q : Mem → Prop) (hw : p_X10_followOne a1 M Q) : Met l yX10_followOne (Cond.code yX10_followOne cX10_followOne 5 none :: bg) ({ frames := 4, cells := 0, slots := 0, locals := 99 } : Room) (va_Pc [.ref (g.2.1 (0 + 0)), .ref (g.2.1 (86 + a1))] (PW g (xw g M))) (va_Qv Q (PB g (xw g)) (Af 0 g)) 0 0 (Af 0 g) := by
  refine Met.ofW (cc := cX10_followOne) (maxL := 5) (ret := none) (by decide +kernel) rfl ?_
  intro p e s m args below meth c s₁ B hml hv
  obtain ⟨rfl, hv⟩ := hv
  have C := CX.start (own := RX10) B hml rfl gi hv
  have hP := hv.1
  have hS : va_S (Af 0 g) s.heap s.heap [] := va_S.rf
  have hl := lv_entry ([.ref (g.2.1 (0 + 0)), .ref (g.2.1 (86 + a1))]) (n := 5) (Nat.le_of_ble_eq_true rfl)
  rw [lg_entry_eq]
  generalize (lg_sl ([.ref (g.2.1 (0 + 0)), .ref (g.2.1 (86 + a1))]) ++ List.replicate (5 - (lg_sl ([.ref (g.2.1 (0 + 0)), .ref (g.2.1 (86 + a1))])).length) Slot.unset).toArray = ls at hl ⊢
  have hl : lv_has ls 5 [(0, .ref (g.2.1 (0 + 0))), (1, .ref (g.2.1 (86 + a1)))] := hl
  unfold p_X10_followOne at hw
  refine lv_aload_n C.1 C.2.1 dX10_followOne_0 rfl (lv_at hl 1 rfl) ?_
  refine goI (wf := (xw g)) (runV (w := xw g M) (As := []) (rest := []) C lkX10_301 (c_X1_startOfPoint l g C.2.2.2.2.2.2.2.2.2.2 a1 ha1 M _ hw) hP hS rfl rfl ⟨Nat.le_of_ble_eq_true rfl, Nat.le_of_ble_eq_true rfl⟩ (xx_30 ha1) rfl rfl hl.1 rfl (Nat.le_of_ble_eq_true rfl) dX10_followOne_1) hS (fun r1 M1 hw H locs hP hS => ?_)
  refine lv_istore_n (lv' := [(2, .int r1), (0, .ref (g.2.1 (0 + 0))), (1, .ref (g.2.1 (86 + a1)))]) C.1 C.2.1 dX10_followOne_4 rfl hl (by decide) rfl (fun ls hl => ?_)
  refine lv_aload_n C.1 C.2.1 dX10_followOne_5 rfl (lv_at hl 1 rfl) ?_
  refine gX10_33 C hP Nat.zero_lt_one dX10_followOne_6 ?_
  refine lv_aload_n C.1 C.2.1 dX10_followOne_9 rfl (lv_at hl 1 rfl) ?_
  obtain ⟨w2, h2, hb2, hw⟩ := hw
  refine gX10_23f C hP Nat.zero_lt_one h2 dX10_followOne_10 ?_
  refine lv_aload_n C.1 C.2.1 dX10_followOne_13 rfl (lv_at hl 2 rfl) ?_
  refine gX10_304 C hP ha1 dX10_followOne_14 ?_
  refine goV (wf := (xw g)) (runV (w := xw g M1) (As := [.ref (g.2.1 (23 + w2)), .int (M1.1 30 a1 5)]) (rest := []) C lkX10_175 (c_X2_hear l g C.2.2.2.2.2.2.2.2.2.2 w2 ((M1.1 30 a1 5)) hb2 M1 _ hw) hP hS rfl rfl ⟨Nat.le_of_ble_eq_true rfl, Nat.le_of_ble_eq_true rfl⟩ (xx_5 Nat.zero_lt_one) rfl rfl hl.1 rfl (Nat.le_of_ble_eq_true rfl) dX10_followOne_17) hS (fun M3 hw H locs hP hS => ?_)
  refine lv_aload_n C.1 C.2.1 dX10_followOne_20 rfl (lv_at hl 1 rfl) ?_
  refine gX10_33 C hP Nat.zero_lt_one dX10_followOne_21 ?_
  refine lv_aload_n C.1 C.2.1 dX10_followOne_24 rfl (lv_at hl 1 rfl) ?_
  obtain ⟨w4, h4, hb4, hw⟩ := hw
  refine gX10_23f C hP Nat.zero_lt_one h4 dX10_followOne_25 ?_
  refine lv_aload_n C.1 C.2.1 dX10_followOne_28 rfl (lv_at hl 2 rfl) ?_
  refine gX10_307 C hP ha1 dX10_followOne_29 ?_
  refine goI (wf := (xw g)) (runV (w := xw g M3) (As := [.int (M3.1 30 a1 0)]) (rest := [.ref (g.2.1 (5 + 0))]) C lkX10_310 (c_X9_codeOfBird l g C.2.2.2.2.2.2.2.2.2.2 w4 ((M3.1 30 a1 0)) hb4 M3 _ hw) hP hS rfl rfl ⟨Nat.le_of_ble_eq_true rfl, Nat.le_of_ble_eq_true rfl⟩ (xx_23 hb4) rfl rfl hl.1 rfl (Nat.le_of_ble_eq_true rfl) dX10_followOne_32) hS (fun r5 M5 hw H locs hP hS => ?_)
  refine goV (wf := (xw g)) (runV (w := xw g M5) (As := [.int r5]) (rest := []) C lkX10_188 (c_X2_takeCode l g C.2.2.2.2.2.2.2.2.2.2 r5  M5 _ hw) hP hS rfl rfl ⟨Nat.le_of_ble_eq_true rfl, Nat.le_of_ble_eq_true rfl⟩ (xx_5 Nat.zero_lt_one) rfl rfl hl.1 rfl (Nat.le_of_ble_eq_true rfl) dX10_followOne_35) hS (fun M6 hw H locs hP hS => ?_)
  refine lv_aload_n C.1 C.2.1 dX10_followOne_38 rfl (lv_at hl 1 rfl) ?_
  refine gX10_33 C hP Nat.zero_lt_one dX10_followOne_39 ?_
  refine lv_aload_n C.1 C.2.1 dX10_followOne_42 rfl (lv_at hl 2 rfl) ?_
  refine gX10_304 C hP ha1 dX10_followOne_43 ?_
  refine lv_aload_n C.1 C.2.1 dX10_followOne_46 rfl (lv_at hl 2 rfl) ?_
  refine gX10_313 C hP ha1 dX10_followOne_47 ?_
  refine lv_aload_n C.1 C.2.1 dX10_followOne_50 rfl (lv_at hl 2 rfl) ?_
  refine gX10_314 C hP ha1 dX10_followOne_51 ?_
  refine goV (wf := (xw g)) (runV (w := xw g M6) (As := [.int (M6.1 30 a1 5), .int (M6.1 30 a1 2), .int (M6.1 30 a1 3)]) (rest := []) C lkX10_191 (c_X2_turnBack l g C.2.2.2.2.2.2.2.2.2.2 ((M6.1 30 a1 5)) ((M6.1 30 a1 2)) ((M6.1 30 a1 3))  M6 _ hw) hP hS rfl rfl ⟨Nat.le_of_ble_eq_true rfl, Nat.le_of_ble_eq_true rfl⟩ (xx_5 Nat.zero_lt_one) rfl rfl hl.1 rfl (Nat.le_of_ble_eq_true rfl) dX10_followOne_54) hS (fun M7 hw H locs hP hS => ?_)
  refine lv_aload_n C.1 C.2.1 dX10_followOne_57 rfl (lv_at hl 1 rfl) ?_
  refine gX10_33 C hP Nat.zero_lt_one dX10_followOne_58 ?_
  refine lv_iload_n C.1 C.2.1 dX10_followOne_61 rfl (lv_at hl 0 rfl) ?_
  refine lv_if_ne (tgt := 70) C.1 C.2.1 dX10_followOne_62 (by decide) (fun h8 => ?_) (fun h8 => ?_)
  · have hw := hw.1 h8
    refine lv_iload_n C.1 C.2.1 dX10_followOne_70 rfl (lv_at hl 0 rfl) ?_
    refine lv_iconst (v := 1) C.1 C.2.1 dX10_followOne_71 (by decide) ?_
    refine lv_isub C.1 C.2.1 dX10_followOne_72 ?_
    exact k_X10_followOne_73 (Q := Q) C a1 r1 ((r1 - 1)) ha1 _ hw (lv_sub hl [1, 2, 0] rfl) hP hS
  · have hw := hw.2 h8
    refine lv_bipush (v := 61) C.1 C.2.1 dX10_followOne_65 (by decide) ?_
    refine lv_goto (tgt := 73) C.1 C.2.1 dX10_followOne_67 (by decide) ?_
    exact k_X10_followOne_73 (Q := Q) C a1 r1 61 ha1 _ hw (lv_sub hl [1, 2, 0] rfl) hP hS
def b_X10_followAll_56 (Q : Int32 → Mem → Prop) (k5 : Nat → Int32 → Int32 → Int32 → Mem → Prop) (v1 : Nat) (v2 : Int32) (v3 : Int32) (v4 : Int32) (M : Mem) : Prop := (∀ x3 : Int32, x3 = (v4 + 1) → (k5 v1 v2 v3 x3 M))
set_option maxRecDepth 100000 in
set_option maxHeartbeats 4000000 in
theorem k_X10_followAll_56 {p : Program} {l : Launch} {e : Env} {s : State} {m : MethodId} {args : Array Value} {below : List Frame} {meth : Method} {c : Code} {g : Geo} (C : CX g p s m args meth c cX10_followAll 6 (some .int) RX10) {Q : Int32 → Mem → Prop} {k5 : Nat → Int32 → Int32 → Int32 → Mem → Prop} (hk5 : ∀ (v1 : Nat) (v2 : Int32) (v3 : Int32) (v4 : Int32) (hv1 : v1 < 13) (M : Mem), k5 v1 v2 v3 v4 M → ∀ (H : Heap) (locs : List Loc) (ls : Array Slot), lv_has ls 6 [(0, .ref (g.2.1 (0 + 0))), (1, .ref (g.2.1 (47 + v1))), (2, .int v2), (3, .int v3), (4, .int v4)] → va_P g.1 clz (xw g M) H → va_S (Af 0 g) s.heap H locs → W p l e ({ frames := 5, cells := 0, slots := 0, locals := 123 } : Room) s m args below meth c H locs 0 0 (MQ below (va_Qi Q (PB g (xw g)) (Af 0 g)) args s 0 0 (Af 0 g)) (F0 m 5 ls [])) (v1 : Nat) (v2 : Int32) (v3 : Int32) (v4 : Int32) (hv1 : v1 < 13) (M : Mem) (hw : b_X10_followAll_56 Q k5 v1 v2 v3 v4 M) {H : Heap} {locs : List Loc} {ls : Array Slot} (hl : lv_has ls 6 [(0, .ref (g.2.1 (0 + 0))), (1, .ref (g.2.1 (47 + v1))), (2, .int v2), (3, .int v3), (4, .int v4)]) (hP : va_P g.1 clz (xw g M) H) (hS : va_S (Af 0 g) s.heap H locs) : W p l e ({ frames := 5, cells := 0, slots := 0, locals := 123 } : Room) s m args below meth c H locs 0 0 (MQ below (va_Qi Q (PB g (xw g)) (Af 0 g)) args s 0 0 (Af 0 g)) (F0 m 56 ls []) := by
  unfold b_X10_followAll_56 at hw
  obtain ⟨x3, e3⟩ : ∃ y : Int32, y = (v4 + 1) := ⟨_, rfl⟩
  have hw := hw x3 e3
  refine lv_iinc (v := x3) (lv' := [(4, .int x3), (0, .ref (g.2.1 (0 + 0))), (1, .ref (g.2.1 (47 + v1))), (2, .int v2), (3, .int v3)]) C.1 C.2.1 dX10_followAll_56 hl (k := 4) rfl (by rw [e3]; rfl) (by decide) rfl (fun ls hl => ?_)
  refine lv_goto (tgt := 5) C.1 C.2.1 dX10_followAll_59 (by decide) ?_
  exact hk5 v1 v2 v3 x3 hv1 _ hw _ _ _ (lv_sub hl [1, 2, 3, 4, 0] rfl) hP hS
def b_X10_followAll_50 (Q : Int32 → Mem → Prop) (k14 : Nat → Int32 → Int32 → Int32 → Int32 → Mem → Prop) (v1 : Nat) (v2 : Int32) (v3 : Int32) (v4 : Int32) (v5 : Int32) (M : Mem) : Prop := (∀ x7 : Int32, x7 = (v5 + 1) → (k14 v1 v2 v3 v4 x7 M))
set_option maxRecDepth 100000 in
set_option maxHeartbeats 4000000 in
theorem k_X10_followAll_50 {p : Program} {l : Launch} {e : Env} {s : State} {m : MethodId} {args : Array Value} {below : List Frame} {meth : Method} {c : Code} {g : Geo} (C : CX g p s m args meth c cX10_followAll 6 (some .int) RX10) {Q : Int32 → Mem → Prop} {k14 : Nat → Int32 → Int32 → Int32 → Int32 → Mem → Prop} (hk14 : ∀ (v1 : Nat) (v2 : Int32) (v3 : Int32) (v4 : Int32) (v5 : Int32) (hv1 : v1 < 13) (M : Mem), k14 v1 v2 v3 v4 v5 M → ∀ (H : Heap) (locs : List Loc) (ls : Array Slot), lv_has ls 6 [(0, .ref (g.2.1 (0 + 0))), (1, .ref (g.2.1 (47 + v1))), (2, .int v2), (3, .int v3), (4, .int v4), (5, .int v5)] → va_P g.1 clz (xw g M) H → va_S (Af 0 g) s.heap H locs → W p l e ({ frames := 5, cells := 0, slots := 0, locals := 123 } : Room) s m args below meth c H locs 0 0 (MQ below (va_Qi Q (PB g (xw g)) (Af 0 g)) args s 0 0 (Af 0 g)) (F0 m 14 ls [])) (v1 : Nat) (v2 : Int32) (v3 : Int32) (v4 : Int32) (v5 : Int32) (hv1 : v1 < 13) (M : Mem) (hw : b_X10_followAll_50 Q k14 v1 v2 v3 v4 v5 M) {H : Heap} {locs : List Loc} {ls : Array Slot} (hl : lv_has ls 6 [(0, .ref (g.2.1 (0 + 0))), (1, .ref (g.2.1 (47 + v1))), (2, .int v2), (3, .int v3), (4, .int v4), (5, .int v5)]) (hP : va_P g.1 clz (xw g M) H) (hS : va_S (Af 0 g) s.heap H locs) : W p l e ({ frames := 5, cells := 0, slots := 0, locals := 123 } : Room) s m args below meth c H locs 0 0 (MQ below (va_Qi Q (PB g (xw g)) (Af 0 g)) args s 0 0 (Af 0 g)) (F0 m 50 ls []) := by
  unfold b_X10_followAll_50 at hw
  obtain ⟨x7, e7⟩ : ∃ y : Int32, y = (v5 + 1) := ⟨_, rfl⟩
  have hw := hw x7 e7
  refine lv_iinc (v := x7) (lv' := [(5, .int x7), (0, .ref (g.2.1 (0 + 0))), (1, .ref (g.2.1 (47 + v1))), (2, .int v2), (3, .int v3), (4, .int v4)]) C.1 C.2.1 dX10_followAll_50 hl (k := 5) rfl (by rw [e7]; rfl) (by decide) rfl (fun ls hl => ?_)
  refine lv_goto (tgt := 14) C.1 C.2.1 dX10_followAll_53 (by decide) ?_
  exact hk14 v1 v2 v3 v4 x7 hv1 _ hw _ _ _ (lv_sub hl [1, 2, 3, 4, 5, 0] rfl) hP hS
def b_X10_followAll_14 (Q : Int32 → Mem → Prop) (k5 : Nat → Int32 → Int32 → Int32 → Mem → Prop) : Nat → Nat → Int32 → Int32 → Int32 → Int32 → Mem → Prop
  | 0, _, _, _, _, _, _ => False
  | n + 1, v1, v2, v3, v4, v5, M => (((M.1 27 v1 1) ≤ v5 → (b_X10_followAll_56 Q k5 v1 v2 v3 v4 M)) ∧ (¬ (M.1 27 v1 1) ≤ v5 → (vp_in v5 4 ∧ (p_X1_canFollow ((4 * v1 + (v5 : Int32).toNatClampNeg)) M (fun r5 M5 => ((r5 = 0 → (b_X10_followAll_50 Q (fun v1 v2 v3 v4 v5 M => b_X10_followAll_14 Q k5 n v1 v2 v3 v4 v5 M) v1 v2 v3 v4 v5 M5)) ∧ (¬ r5 = 0 → (vp_in v5 4 ∧ (p_X10_followOne ((4 * v1 + (v5 : Int32).toNatClampNeg)) M5 (fun M9 => (∀ x10 : Int32, x10 = (v3 + 1) → (b_X10_followAll_50 Q (fun v1 v2 v3 v4 v5 M => b_X10_followAll_14 Q k5 n v1 v2 v3 v4 v5 M) v1 v2 x10 v4 v5 M9))))))))))))
set_option maxRecDepth 100000 in
set_option maxHeartbeats 4000000 in
theorem k_X10_followAll_14 {p : Program} {l : Launch} {e : Env} {s : State} {m : MethodId} {args : Array Value} {below : List Frame} {meth : Method} {c : Code} {g : Geo} (C : CX g p s m args meth c cX10_followAll 6 (some .int) RX10) {Q : Int32 → Mem → Prop} {k5 : Nat → Int32 → Int32 → Int32 → Mem → Prop} (hk5 : ∀ (v1 : Nat) (v2 : Int32) (v3 : Int32) (v4 : Int32) (hv1 : v1 < 13) (M : Mem), k5 v1 v2 v3 v4 M → ∀ (H : Heap) (locs : List Loc) (ls : Array Slot), lv_has ls 6 [(0, .ref (g.2.1 (0 + 0))), (1, .ref (g.2.1 (47 + v1))), (2, .int v2), (3, .int v3), (4, .int v4)] → va_P g.1 clz (xw g M) H → va_S (Af 0 g) s.heap H locs → W p l e ({ frames := 5, cells := 0, slots := 0, locals := 123 } : Room) s m args below meth c H locs 0 0 (MQ below (va_Qi Q (PB g (xw g)) (Af 0 g)) args s 0 0 (Af 0 g)) (F0 m 5 ls [])) : ∀ (n : Nat) (v1 : Nat) (v2 : Int32) (v3 : Int32) (v4 : Int32) (v5 : Int32) (hv1 : v1 < 13) (M : Mem) (hw : b_X10_followAll_14 Q k5 n v1 v2 v3 v4 v5 M) {H : Heap} {locs : List Loc} {ls : Array Slot} (hl : lv_has ls 6 [(0, .ref (g.2.1 (0 + 0))), (1, .ref (g.2.1 (47 + v1))), (2, .int v2), (3, .int v3), (4, .int v4), (5, .int v5)]) (hP : va_P g.1 clz (xw g M) H) (hS : va_S (Af 0 g) s.heap H locs), W p l e ({ frames := 5, cells := 0, slots := 0, locals := 123 } : Room) s m args below meth c H locs 0 0 (MQ below (va_Qi Q (PB g (xw g)) (Af 0 g)) args s 0 0 (Af 0 g)) (F0 m 14 ls []) := by
  intro n
  induction n with
  | zero => intro v1 v2 v3 v4 v5 hv1 M hw H locs ls hl hP hS; exact absurd hw (by rw [b_X10_followAll_14]; exact fun h => h)
  | succ n ih =>
    intro v1 v2 v3 v4 v5 hv1 M hw H locs ls hl hP hS
    rw [b_X10_followAll_14] at hw
    refine lv_iload C.1 C.2.1 dX10_followAll_14 (lv_at hl 5 rfl) ?_
    refine lv_aload_n C.1 C.2.1 dX10_followAll_16 rfl (lv_at hl 1 rfl) ?_
    refine gX10_274 C hP hv1 dX10_followAll_17 ?_
    refine lv_icmp_ge (tgt := 56) C.1 C.2.1 dX10_followAll_20 (by decide) (fun h2 => ?_) (fun h2 => ?_)
    · have hw := hw.1 h2
      exact k_X10_followAll_56 (Q := Q) C hk5 v1 v2 v3 v4 hv1 _ hw (lv_sub hl [0, 1, 2, 3, 4] rfl) hP hS
    · have hw := hw.2 h2
      refine lv_aload_n C.1 C.2.1 dX10_followAll_23 rfl (lv_at hl 1 rfl) ?_
      refine gX10_281 C hP hv1 dX10_followAll_24 ?_
      refine lv_iload C.1 C.2.1 dX10_followAll_27 (lv_at hl 5 rfl) ?_
      obtain ⟨h4, hw⟩ := hw
      have hb4 : (4 * v1 + (v5 : Int32).toNatClampNeg) < 52 := by have h9 := vp_lt h4; have h8 := hv1; omega
      refine al_28 C hP hv1 h4 dX10_followAll_29 ?_
      refine goI (wf := (xw g)) (runV (w := xw g M) (As := []) (rest := []) C lkX10_294 (c_X1_canFollow l g C.2.2.2.2.2.2.2.2.2.2 ((4 * v1 + (v5 : Int32).toNatClampNeg)) hb4 M _ hw) hP hS rfl rfl ⟨Nat.le_of_ble_eq_true rfl, Nat.le_of_ble_eq_true rfl⟩ (xx_30 hb4) rfl rfl hl.1 rfl (Nat.le_of_ble_eq_true rfl) dX10_followAll_30) hS (fun r5 M5 hw H locs hP hS => ?_)
      obtain ⟨hw, hz5⟩ := hw
      refine lv_if_eq (tgt := 50) C.1 C.2.1 dX10_followAll_33 (by decide) (fun h6 => ?_) (fun h6 => ?_)
      · have hw := hw.1 h6
        exact k_X10_followAll_50 (Q := Q) C (fun v1 v2 v3 v4 v5 hv1 M hw H locs ls hl hP hS => ih v1 v2 v3 v4 v5 hv1 M hw hl hP hS) v1 v2 v3 v4 v5 hv1 _ hw (lv_sub hl [0, 1, 2, 3, 4, 5] rfl) hP hS
      · have hw := hw.2 h6
        refine lv_aload_n C.1 C.2.1 dX10_followAll_36 rfl (lv_at hl 0 rfl) ?_
        refine lv_aload_n C.1 C.2.1 dX10_followAll_37 rfl (lv_at hl 1 rfl) ?_
        refine gX10_281 C hP hv1 dX10_followAll_38 ?_
        refine lv_iload C.1 C.2.1 dX10_followAll_41 (lv_at hl 5 rfl) ?_
        obtain ⟨h8, hw⟩ := hw
        have hb8 : (4 * v1 + (v5 : Int32).toNatClampNeg) < 52 := by have h9 := vp_lt h8; have h8 := hv1; omega
        refine al_28 C hP hv1 h8 dX10_followAll_43 ?_
        refine goV (wf := (xw g)) (runV (w := xw g M5) (As := [.ref (g.2.1 (86 + (4 * v1 + (v5 : Int32).toNatClampNeg)))]) (rest := []) C lkX10_297 (c_X10_followOne l g C.2.2.2.2.2.2.2.2.2.2 ((4 * v1 + (v5 : Int32).toNatClampNeg)) hb8 M5 _ hw) hP hS rfl rfl ⟨Nat.le_of_ble_eq_true rfl, Nat.le_of_ble_eq_true rfl⟩ (xx_0 Nat.zero_lt_one) rfl rfl hl.1 rfl (Nat.le_of_ble_eq_true rfl) dX10_followAll_44) hS (fun M9 hw H locs hP hS => ?_)
        obtain ⟨x10, e10⟩ : ∃ y : Int32, y = (v3 + 1) := ⟨_, rfl⟩
        have hw := hw x10 e10
        refine lv_iinc (v := x10) (lv' := [(3, .int x10), (0, .ref (g.2.1 (0 + 0))), (1, .ref (g.2.1 (47 + v1))), (2, .int v2), (4, .int v4), (5, .int v5)]) C.1 C.2.1 dX10_followAll_47 hl (k := 3) rfl (by rw [e10]; rfl) (by decide) rfl (fun ls hl => ?_)
        exact k_X10_followAll_50 (Q := Q) C (fun v1 v2 v3 v4 v5 hv1 M hw H locs ls hl hP hS => ih v1 v2 v3 v4 v5 hv1 M hw hl hP hS) v1 v2 x10 v4 v5 hv1 _ hw (lv_sub hl [1, 2, 3, 0, 4, 5] rfl) hP hS
def b_X10_followAll_5 (Q : Int32 → Mem → Prop) : Nat → Nat → Int32 → Int32 → Int32 → Mem → Prop
  | 0, _, _, _, _, _ => False
  | n + 1, v1, v2, v3, v4, M => ((v2 ≤ v4 → (Q v3 M)) ∧ (¬ v2 ≤ v4 → (∃ n14 : Nat, b_X10_followAll_14 Q (fun v1 v2 v3 v4 M => b_X10_followAll_5 Q n v1 v2 v3 v4 M) n14 v1 v2 v3 v4 0 M)))
set_option maxRecDepth 100000 in
set_option maxHeartbeats 4000000 in
theorem k_X10_followAll_5 {p : Program} {l : Launch} {e : Env} {s : State} {m : MethodId} {args : Array Value} {below : List Frame} {meth : Method} {c : Code} {g : Geo} (C : CX g p s m args meth c cX10_followAll 6 (some .int) RX10) {Q : Int32 → Mem → Prop} : ∀ (n : Nat) (v1 : Nat) (v2 : Int32) (v3 : Int32) (v4 : Int32) (hv1 : v1 < 13) (M : Mem) (hw : b_X10_followAll_5 Q n v1 v2 v3 v4 M) {H : Heap} {locs : List Loc} {ls : Array Slot} (hl : lv_has ls 6 [(0, .ref (g.2.1 (0 + 0))), (1, .ref (g.2.1 (47 + v1))), (2, .int v2), (3, .int v3), (4, .int v4)]) (hP : va_P g.1 clz (xw g M) H) (hS : va_S (Af 0 g) s.heap H locs), W p l e ({ frames := 5, cells := 0, slots := 0, locals := 123 } : Room) s m args below meth c H locs 0 0 (MQ below (va_Qi Q (PB g (xw g)) (Af 0 g)) args s 0 0 (Af 0 g)) (F0 m 5 ls []) := by
  intro n
  induction n with
  | zero => intro v1 v2 v3 v4 hv1 M hw H locs ls hl hP hS; exact absurd hw (by rw [b_X10_followAll_5]; exact fun h => h)
  | succ n ih =>
    intro v1 v2 v3 v4 hv1 M hw H locs ls hl hP hS
    rw [b_X10_followAll_5] at hw
    refine lv_iload C.1 C.2.1 dX10_followAll_5 (lv_at hl 4 rfl) ?_
    refine lv_iload_n C.1 C.2.1 dX10_followAll_7 rfl (lv_at hl 2 rfl) ?_
    refine lv_icmp_ge (tgt := 62) C.1 C.2.1 dX10_followAll_8 (by decide) (fun h1 => ?_) (fun h1 => ?_)
    · have hw := hw.1 h1
      refine lv_iload_n C.1 C.2.1 dX10_followAll_62 rfl (lv_at hl 3 rfl) ?_
      exact retI (wf := (xw g)) C hP hS hw dX10_followAll_63
    · have hw := hw.2 h1
      refine lv_iconst (v := 0) C.1 C.2.1 dX10_followAll_11 (by decide) ?_
      refine lv_istore (lv' := [(5, .int 0), (0, .ref (g.2.1 (0 + 0))), (1, .ref (g.2.1 (47 + v1))), (2, .int v2), (3, .int v3), (4, .int v4)]) C.1 C.2.1 dX10_followAll_12 hl (by decide) rfl (fun ls hl => ?_)
      obtain ⟨n9, hw⟩ := hw
      exact k_X10_followAll_14 (Q := Q) C (fun v1 v2 v3 v4 hv1 M hw H locs ls hl hP hS => ih v1 v2 v3 v4 hv1 M hw hl hP hS) n9 v1 v2 v3 v4 0 hv1 _ hw (lv_sub hl [1, 2, 3, 4, 5, 0] rfl) hP hS
def p_X10_followAll (a1 : Nat) (a2 : Int32) (M : Mem) (Q : Int32 → Mem → Prop) : Prop := (∃ n5 : Nat, b_X10_followAll_5 Q n5 a1 a2 0 0 M)
set_option maxRecDepth 100000 in
set_option maxHeartbeats 4000000 in
theorem c_X10_followAll (l : Launch) (g : Geo) (gi : GI g) (a1 : Nat) (a2 : Int32) (ha1 : a1 < 13) (M : Mem) (Q : Int32 → Mem → Prop) (hw : p_X10_followAll a1 a2 M Q) : Met l yX10_followAll (Cond.code yX10_followAll cX10_followAll 6 (some .int) :: bg) ({ frames := 5, cells := 0, slots := 0, locals := 123 } : Room) (va_Pc [.ref (g.2.1 (0 + 0)), .ref (g.2.1 (47 + a1)), .int a2] (PW g (xw g M))) (va_Qi Q (PB g (xw g)) (Af 0 g)) 0 0 (Af 0 g) := by
  refine Met.ofW (cc := cX10_followAll) (maxL := 6) (ret := (some .int)) (by decide +kernel) rfl ?_
  intro p e s m args below meth c s₁ B hml hv
  obtain ⟨rfl, hv⟩ := hv
  have C := CX.start (own := RX10) B hml rfl gi hv
  have hP := hv.1
  have hS : va_S (Af 0 g) s.heap s.heap [] := va_S.rf
  have hl := lv_entry ([.ref (g.2.1 (0 + 0)), .ref (g.2.1 (47 + a1)), .int a2]) (n := 6) (Nat.le_of_ble_eq_true rfl)
  rw [lg_entry_eq]
  generalize (lg_sl ([.ref (g.2.1 (0 + 0)), .ref (g.2.1 (47 + a1)), .int a2]) ++ List.replicate (6 - (lg_sl ([.ref (g.2.1 (0 + 0)), .ref (g.2.1 (47 + a1)), .int a2])).length) Slot.unset).toArray = ls at hl ⊢
  have hl : lv_has ls 6 [(0, .ref (g.2.1 (0 + 0))), (1, .ref (g.2.1 (47 + a1))), (2, .int a2)] := hl
  unfold p_X10_followAll at hw
  refine lv_iconst (v := 0) C.1 C.2.1 dX10_followAll_0 (by decide) ?_
  refine lv_istore_n (lv' := [(3, .int 0), (0, .ref (g.2.1 (0 + 0))), (1, .ref (g.2.1 (47 + a1))), (2, .int a2)]) C.1 C.2.1 dX10_followAll_1 rfl hl (by decide) rfl (fun ls hl => ?_)
  refine lv_iconst (v := 0) C.1 C.2.1 dX10_followAll_2 (by decide) ?_
  refine lv_istore (lv' := [(4, .int 0), (3, .int 0), (0, .ref (g.2.1 (0 + 0))), (1, .ref (g.2.1 (47 + a1))), (2, .int a2)]) C.1 C.2.1 dX10_followAll_3 hl (by decide) rfl (fun ls hl => ?_)
  obtain ⟨n9, hw⟩ := hw
  exact k_X10_followAll_5 (Q := Q) C n9 a1 a2 0 0 ha1 _ hw (lv_sub hl [2, 3, 4, 1, 0] rfl) hP hS
def p_X10_follow (a1 : Int32) (M : Mem) (Q : Int32 → Mem → Prop) : Prop := ((a1 < 1 → (Q (-1) M)) ∧ (¬ a1 < 1 → ((a1 ≤ 64 → (p_X5_push 0 M (fun M3 => (p_X10_followAll 0 a1 M3 (fun r4 M4 => (Q r4 M4)))))) ∧ (¬ a1 ≤ 64 → (Q (-1) M)))))
set_option maxRecDepth 100000 in
set_option maxHeartbeats 4000000 in
theorem c_X10_follow (l : Launch) (g : Geo) (gi : GI g) (a1 : Int32) (M : Mem) (Q : Int32 → Mem → Prop) (hw : p_X10_follow a1 M Q) : Met l yX10_follow (Cond.code yX10_follow cX10_follow 2 (some .int) :: bg) ({ frames := 6, cells := 0, slots := 0, locals := 148 } : Room) (va_Pc [.ref (g.2.1 (0 + 0)), .int a1] (PW g (xw g M))) (va_Qi Q (PB g (xw g)) (Af 0 g)) 0 0 (Af 0 g) := by
  refine Met.ofW (cc := cX10_follow) (maxL := 2) (ret := (some .int)) (by decide +kernel) rfl ?_
  intro p e s m args below meth c s₁ B hml hv
  obtain ⟨rfl, hv⟩ := hv
  have C := CX.start (own := RX10) B hml rfl gi hv
  have hP := hv.1
  have hS : va_S (Af 0 g) s.heap s.heap [] := va_S.rf
  have hl := lv_entry ([.ref (g.2.1 (0 + 0)), .int a1]) (n := 2) (Nat.le_of_ble_eq_true rfl)
  rw [lg_entry_eq]
  generalize (lg_sl ([.ref (g.2.1 (0 + 0)), .int a1]) ++ List.replicate (2 - (lg_sl ([.ref (g.2.1 (0 + 0)), .int a1])).length) Slot.unset).toArray = ls at hl ⊢
  have hl : lv_has ls 2 [(0, .ref (g.2.1 (0 + 0))), (1, .int a1)] := hl
  unfold p_X10_follow at hw
  refine lv_iload_n C.1 C.2.1 dX10_follow_0 rfl (lv_at hl 1 rfl) ?_
  refine lv_iconst (v := 1) C.1 C.2.1 dX10_follow_1 (by decide) ?_
  refine lv_icmp_lt (tgt := 11) C.1 C.2.1 dX10_follow_2 (by decide) (fun h1 => ?_) (fun h1 => ?_)
  · have hw := hw.1 h1
    refine lv_iconst (v := (-1)) C.1 C.2.1 dX10_follow_11 (by decide) ?_
    exact retI (wf := (xw g)) C hP hS hw dX10_follow_12
  · have hw := hw.2 h1
    refine lv_iload_n C.1 C.2.1 dX10_follow_5 rfl (lv_at hl 1 rfl) ?_
    refine lv_bipush (v := 64) C.1 C.2.1 dX10_follow_6 (by decide) ?_
    refine lv_icmp_le (tgt := 13) C.1 C.2.1 dX10_follow_8 (by decide) (fun h2 => ?_) (fun h2 => ?_)
    · have hw := hw.1 h2
      refine lv_aload_n C.1 C.2.1 dX10_follow_13 rfl (lv_at hl 0 rfl) ?_
      refine gX10_60 C hP Nat.zero_lt_one dX10_follow_14 ?_
      refine lv_aload_n C.1 C.2.1 dX10_follow_17 rfl (lv_at hl 0 rfl) ?_
      refine gX10_47 C hP Nat.zero_lt_one dX10_follow_18 ?_
      refine goV (wf := (xw g)) (runV (w := xw g M) (As := [.ref (g.2.1 (47 + 0))]) (rest := []) C lkX10_277 (c_X5_push l g C.2.2.2.2.2.2.2.2.2.2 0 (Nat.le_of_ble_eq_true rfl) M _ hw) hP hS rfl rfl ⟨Nat.le_of_ble_eq_true rfl, Nat.le_of_ble_eq_true rfl⟩ (xx_21 Nat.zero_lt_one) rfl rfl hl.1 rfl (Nat.le_of_ble_eq_true rfl) dX10_follow_21) hS (fun M3 hw H locs hP hS => ?_)
      refine lv_aload_n C.1 C.2.1 dX10_follow_24 rfl (lv_at hl 0 rfl) ?_
      refine lv_aload_n C.1 C.2.1 dX10_follow_25 rfl (lv_at hl 0 rfl) ?_
      refine gX10_47 C hP Nat.zero_lt_one dX10_follow_26 ?_
      refine lv_iload_n C.1 C.2.1 dX10_follow_29 rfl (lv_at hl 1 rfl) ?_
      refine goI (wf := (xw g)) (runV (w := xw g M3) (As := [.ref (g.2.1 (47 + 0)), .int a1]) (rest := []) C lkX10_290 (c_X10_followAll l g C.2.2.2.2.2.2.2.2.2.2 0 a1 (Nat.le_of_ble_eq_true rfl) M3 _ hw) hP hS rfl rfl ⟨Nat.le_of_ble_eq_true rfl, Nat.le_of_ble_eq_true rfl⟩ (xx_0 Nat.zero_lt_one) rfl rfl hl.1 rfl (Nat.le_of_ble_eq_true rfl) dX10_follow_30) hS (fun r4 M4 hw H locs hP hS => ?_)
      exact retI (wf := (xw g)) C hP hS hw dX10_follow_33
    · have hw := hw.2 h2
      refine lv_iconst (v := (-1)) C.1 C.2.1 dX10_follow_11 (by decide) ?_
      exact retI (wf := (xw g)) C hP hS hw dX10_follow_12
def p_X10_channel (a1 : Int32) (a2 : Int32) (M : Mem) (Q : Int32 → Mem → Prop) : Prop := (p_X10_isChannel a1 M (fun r1 M1 => ((¬ r1 = 0 → (vp_in a1 4 ∧ (p_X1_told ((4 * 0 + (a1 : Int32).toNatClampNeg)) a2 M1 (fun r4 M4 => (Q r4 M4))))) ∧ (r1 = 0 → (Q (-1) M1)))))
set_option maxRecDepth 100000 in
set_option maxHeartbeats 4000000 in
theorem c_X10_channel (l : Launch) (g : Geo) (gi : GI g) (a1 : Int32) (a2 : Int32) (M : Mem) (Q : Int32 → Mem → Prop) (hw : p_X10_channel a1 a2 M Q) : Met l yX10_channel (Cond.code yX10_channel cX10_channel 3 (some .int) :: bg) ({ frames := 1, cells := 0, slots := 0, locals := 21 } : Room) (va_Pc [.ref (g.2.1 (0 + 0)), .int a1, .int a2] (PW g (xw g M))) (va_Qi Q (PB g (xw g)) (Af 0 g)) 0 0 (Af 0 g) := by
  refine Met.ofW (cc := cX10_channel) (maxL := 3) (ret := (some .int)) (by decide +kernel) rfl ?_
  intro p e s m args below meth c s₁ B hml hv
  obtain ⟨rfl, hv⟩ := hv
  have C := CX.start (own := RX10) B hml rfl gi hv
  have hP := hv.1
  have hS : va_S (Af 0 g) s.heap s.heap [] := va_S.rf
  have hl := lv_entry ([.ref (g.2.1 (0 + 0)), .int a1, .int a2]) (n := 3) (Nat.le_of_ble_eq_true rfl)
  rw [lg_entry_eq]
  generalize (lg_sl ([.ref (g.2.1 (0 + 0)), .int a1, .int a2]) ++ List.replicate (3 - (lg_sl ([.ref (g.2.1 (0 + 0)), .int a1, .int a2])).length) Slot.unset).toArray = ls at hl ⊢
  have hl : lv_has ls 3 [(0, .ref (g.2.1 (0 + 0))), (1, .int a1), (2, .int a2)] := hl
  unfold p_X10_channel at hw
  refine lv_aload_n C.1 C.2.1 dX10_channel_0 rfl (lv_at hl 0 rfl) ?_
  refine lv_iload_n C.1 C.2.1 dX10_channel_1 rfl (lv_at hl 1 rfl) ?_
  refine goI (wf := (xw g)) (runV (w := xw g M) (As := [.int a1]) (rest := []) C lkX10_330 (c_X10_isChannel l g C.2.2.2.2.2.2.2.2.2.2 a1  M _ hw) hP hS rfl rfl ⟨Nat.le_of_ble_eq_true rfl, Nat.le_of_ble_eq_true rfl⟩ (xx_0 Nat.zero_lt_one) rfl rfl hl.1 rfl (Nat.le_of_ble_eq_true rfl) dX10_channel_2) hS (fun r1 M1 hw H locs hP hS => ?_)
  obtain ⟨hw, hz1⟩ := hw
  refine lv_if_ne (tgt := 10) C.1 C.2.1 dX10_channel_5 (by decide) (fun h2 => ?_) (fun h2 => ?_)
  · have hw := hw.1 h2
    refine lv_aload_n C.1 C.2.1 dX10_channel_10 rfl (lv_at hl 0 rfl) ?_
    refine gX10_47 C hP Nat.zero_lt_one dX10_channel_11 ?_
    refine gX10_281 C hP (Nat.le_of_ble_eq_true rfl) dX10_channel_14 ?_
    refine lv_iload_n C.1 C.2.1 dX10_channel_17 rfl (lv_at hl 1 rfl) ?_
    obtain ⟨h3, hw⟩ := hw
    have hb3 : (4 * 0 + (a1 : Int32).toNatClampNeg) < 52 := by have h9 := vp_lt h3; have h8 := (rfl : 0 = 0); omega
    refine al_28 C hP (Nat.le_of_ble_eq_true rfl) h3 dX10_channel_18 ?_
    refine lv_iload_n C.1 C.2.1 dX10_channel_19 rfl (lv_at hl 2 rfl) ?_
    refine goI (wf := (xw g)) (runV (w := xw g M1) (As := [.int a2]) (rest := []) C lkX10_333 (c_X1_told l g C.2.2.2.2.2.2.2.2.2.2 ((4 * 0 + (a1 : Int32).toNatClampNeg)) a2 hb3 M1 _ hw) hP hS rfl rfl ⟨Nat.le_of_ble_eq_true rfl, Nat.le_of_ble_eq_true rfl⟩ (xx_30 hb3) rfl rfl hl.1 rfl (Nat.le_of_ble_eq_true rfl) dX10_channel_20) hS (fun r4 M4 hw H locs hP hS => ?_)
    exact retI (wf := (xw g)) C hP hS hw dX10_channel_23
  · have hw := hw.2 h2
    refine lv_iconst (v := (-1)) C.1 C.2.1 dX10_channel_8 (by decide) ?_
    exact retI (wf := (xw g)) C hP hS hw dX10_channel_9
def p_X10_logged (a1 : Int32) (a2 : Int32) (M : Mem) (Q : Int32 → Mem → Prop) : Prop := (p_X10_isChannel a1 M (fun r1 M1 => ((r1 = 0 → (Q (-1) M1)) ∧ (¬ r1 = 0 → ((a2 < 0 → (Q (-1) M1)) ∧ (¬ a2 < 0 → (vp_in a1 4 ∧ ((a2 < (M1.1 30 (4 * 0 + (a1 : Int32).toNatClampNeg) 9) → (vp_in a1 4 ∧ (p_X1_logBit ((4 * 0 + (a1 : Int32).toNatClampNeg)) a2 M1 (fun r7 M7 => (Q r7 M7))))) ∧ (¬ a2 < (M1.1 30 (4 * 0 + (a1 : Int32).toNatClampNeg) 9) → (Q (-1) M1))))))))))
set_option maxRecDepth 100000 in
set_option maxHeartbeats 4000000 in
theorem c_X10_logged (l : Launch) (g : Geo) (gi : GI g) (a1 : Int32) (a2 : Int32) (M : Mem) (Q : Int32 → Mem → Prop) (hw : p_X10_logged a1 a2 M Q) : Met l yX10_logged (Cond.code yX10_logged cX10_logged 3 (some .int) :: bg) ({ frames := 1, cells := 0, slots := 0, locals := 21 } : Room) (va_Pc [.ref (g.2.1 (0 + 0)), .int a1, .int a2] (PW g (xw g M))) (va_Qi Q (PB g (xw g)) (Af 0 g)) 0 0 (Af 0 g) := by
  refine Met.ofW (cc := cX10_logged) (maxL := 3) (ret := (some .int)) (by decide +kernel) rfl ?_
  intro p e s m args below meth c s₁ B hml hv
  obtain ⟨rfl, hv⟩ := hv
  have C := CX.start (own := RX10) B hml rfl gi hv
  have hP := hv.1
  have hS : va_S (Af 0 g) s.heap s.heap [] := va_S.rf
  have hl := lv_entry ([.ref (g.2.1 (0 + 0)), .int a1, .int a2]) (n := 3) (Nat.le_of_ble_eq_true rfl)
  rw [lg_entry_eq]
  generalize (lg_sl ([.ref (g.2.1 (0 + 0)), .int a1, .int a2]) ++ List.replicate (3 - (lg_sl ([.ref (g.2.1 (0 + 0)), .int a1, .int a2])).length) Slot.unset).toArray = ls at hl ⊢
  have hl : lv_has ls 3 [(0, .ref (g.2.1 (0 + 0))), (1, .int a1), (2, .int a2)] := hl
  unfold p_X10_logged at hw
  refine lv_aload_n C.1 C.2.1 dX10_logged_0 rfl (lv_at hl 0 rfl) ?_
  refine lv_iload_n C.1 C.2.1 dX10_logged_1 rfl (lv_at hl 1 rfl) ?_
  refine goI (wf := (xw g)) (runV (w := xw g M) (As := [.int a1]) (rest := []) C lkX10_330 (c_X10_isChannel l g C.2.2.2.2.2.2.2.2.2.2 a1  M _ hw) hP hS rfl rfl ⟨Nat.le_of_ble_eq_true rfl, Nat.le_of_ble_eq_true rfl⟩ (xx_0 Nat.zero_lt_one) rfl rfl hl.1 rfl (Nat.le_of_ble_eq_true rfl) dX10_logged_2) hS (fun r1 M1 hw H locs hP hS => ?_)
  obtain ⟨hw, hz1⟩ := hw
  refine lv_if_eq (tgt := 28) C.1 C.2.1 dX10_logged_5 (by decide) (fun h2 => ?_) (fun h2 => ?_)
  · have hw := hw.1 h2
    refine lv_iconst (v := (-1)) C.1 C.2.1 dX10_logged_28 (by decide) ?_
    exact retI (wf := (xw g)) C hP hS hw dX10_logged_29
  · have hw := hw.2 h2
    refine lv_iload_n C.1 C.2.1 dX10_logged_8 rfl (lv_at hl 2 rfl) ?_
    refine lv_if_lt (tgt := 28) C.1 C.2.1 dX10_logged_9 (by decide) (fun h3 => ?_) (fun h3 => ?_)
    · have hw := hw.1 h3
      refine lv_iconst (v := (-1)) C.1 C.2.1 dX10_logged_28 (by decide) ?_
      exact retI (wf := (xw g)) C hP hS hw dX10_logged_29
    · have hw := hw.2 h3
      refine lv_iload_n C.1 C.2.1 dX10_logged_12 rfl (lv_at hl 2 rfl) ?_
      refine lv_aload_n C.1 C.2.1 dX10_logged_13 rfl (lv_at hl 0 rfl) ?_
      refine gX10_47 C hP Nat.zero_lt_one dX10_logged_14 ?_
      refine gX10_281 C hP (Nat.le_of_ble_eq_true rfl) dX10_logged_17 ?_
      refine lv_iload_n C.1 C.2.1 dX10_logged_20 rfl (lv_at hl 1 rfl) ?_
      obtain ⟨h4, hw⟩ := hw
      have hb4 : (4 * 0 + (a1 : Int32).toNatClampNeg) < 52 := by have h9 := vp_lt h4; have h8 := (rfl : 0 = 0); omega
      refine al_28 C hP (Nat.le_of_ble_eq_true rfl) h4 dX10_logged_21 ?_
      refine gX10_334 C hP hb4 dX10_logged_22 ?_
      refine lv_icmp_lt (tgt := 30) C.1 C.2.1 dX10_logged_25 (by decide) (fun h5 => ?_) (fun h5 => ?_)
      · have hw := hw.1 h5
        refine lv_aload_n C.1 C.2.1 dX10_logged_30 rfl (lv_at hl 0 rfl) ?_
        refine gX10_47 C hP Nat.zero_lt_one dX10_logged_31 ?_
        refine gX10_281 C hP (Nat.le_of_ble_eq_true rfl) dX10_logged_34 ?_
        refine lv_iload_n C.1 C.2.1 dX10_logged_37 rfl (lv_at hl 1 rfl) ?_
        obtain ⟨h6, hw⟩ := hw
        have hb6 : (4 * 0 + (a1 : Int32).toNatClampNeg) < 52 := by have h9 := vp_lt h6; have h8 := (rfl : 0 = 0); omega
        refine al_28 C hP (Nat.le_of_ble_eq_true rfl) h6 dX10_logged_38 ?_
        refine lv_iload_n C.1 C.2.1 dX10_logged_39 rfl (lv_at hl 2 rfl) ?_
        refine goI (wf := (xw g)) (runV (w := xw g M1) (As := [.int a2]) (rest := []) C lkX10_337 (c_X1_logBit l g C.2.2.2.2.2.2.2.2.2.2 ((4 * 0 + (a1 : Int32).toNatClampNeg)) a2 hb6 M1 _ hw) hP hS rfl rfl ⟨Nat.le_of_ble_eq_true rfl, Nat.le_of_ble_eq_true rfl⟩ (xx_30 hb6) rfl rfl hl.1 rfl (Nat.le_of_ble_eq_true rfl) dX10_logged_40) hS (fun r7 M7 hw H locs hP hS => ?_)
        exact retI (wf := (xw g)) C hP hS hw dX10_logged_43
      · have hw := hw.2 h5
        refine lv_iconst (v := (-1)) C.1 C.2.1 dX10_logged_28 (by decide) ?_
        exact retI (wf := (xw g)) C hP hS hw dX10_logged_29
def p_X10_readFrames (a1 : Nat) (M : Mem) (Q : Mem → Prop) : Prop := (p_X3_read ((M.2.1 30 a1 8)) ((M.1 30 a1 9)) M (fun M1 => (Q M1)))
set_option maxRecDepth 100000 in
set_option maxHeartbeats 4000000 in
theorem c_X10_readFrames (l : Launch) (g : Geo) (gi : GI g) (a1 : Nat) (ha1 : a1 < 52) (M : Mem) (Q : Mem → Prop) (hw : p_X10_readFrames a1 M Q) : Met l yX10_readFrames (Cond.code yX10_readFrames cX10_readFrames 2 none :: bg) ({ frames := 3, cells := 0, slots := 0, locals := 74 } : Room) (va_Pc [.ref (g.2.1 (0 + 0)), .ref (g.2.1 (86 + a1))] (PW g (xw g M))) (va_Qv Q (PB g (xw g)) (Af 0 g)) 0 0 (Af 0 g) := by
  refine Met.ofW (cc := cX10_readFrames) (maxL := 2) (ret := none) (by decide +kernel) rfl ?_
  intro p e s m args below meth c s₁ B hml hv
  obtain ⟨rfl, hv⟩ := hv
  have C := CX.start (own := RX10) B hml rfl gi hv
  have hP := hv.1
  have hS : va_S (Af 0 g) s.heap s.heap [] := va_S.rf
  have hl := lv_entry ([.ref (g.2.1 (0 + 0)), .ref (g.2.1 (86 + a1))]) (n := 2) (Nat.le_of_ble_eq_true rfl)
  rw [lg_entry_eq]
  generalize (lg_sl ([.ref (g.2.1 (0 + 0)), .ref (g.2.1 (86 + a1))]) ++ List.replicate (2 - (lg_sl ([.ref (g.2.1 (0 + 0)), .ref (g.2.1 (86 + a1))])).length) Slot.unset).toArray = ls at hl ⊢
  have hl : lv_has ls 2 [(0, .ref (g.2.1 (0 + 0))), (1, .ref (g.2.1 (86 + a1)))] := hl
  unfold p_X10_readFrames at hw
  refine lv_aload_n C.1 C.2.1 dX10_readFrames_0 rfl (lv_at hl 0 rfl) ?_
  refine gX10_67 C hP Nat.zero_lt_one dX10_readFrames_1 ?_
  refine lv_aload_n C.1 C.2.1 dX10_readFrames_4 rfl (lv_at hl 1 rfl) ?_
  refine gX10_340 C hP ha1 dX10_readFrames_5 ?_
  refine lv_aload_n C.1 C.2.1 dX10_readFrames_8 rfl (lv_at hl 1 rfl) ?_
  refine gX10_334 C hP ha1 dX10_readFrames_9 ?_
  refine goV (wf := (xw g)) (runV (w := xw g M) (As := [.long (M.2.1 30 a1 8), .int (M.1 30 a1 9)]) (rest := []) C lkX10_344 (c_X3_read l g C.2.2.2.2.2.2.2.2.2.2 ((M.2.1 30 a1 8)) ((M.1 30 a1 9))  M _ hw) hP hS rfl rfl ⟨Nat.le_of_ble_eq_true rfl, Nat.le_of_ble_eq_true rfl⟩ (xx_13 Nat.zero_lt_one) rfl rfl hl.1 rfl (Nat.le_of_ble_eq_true rfl) dX10_readFrames_12) hS (fun M1 hw H locs hP hS => ?_)
  exact retV (wf := (xw g)) C hP hS hw dX10_readFrames_15
def b_X10_frame_31 (Q : Int32 → Mem → Prop) (v1 : Int32) (v2 : Int32) (v3 : Int32) (M : Mem) : Prop := (vp_in v1 4 ∧ (p_X10_readFrames ((4 * 0 + (v1 : Int32).toNatClampNeg)) M (fun M6 => ((¬ v2 = (-1) → (((M6.1 13 0 0) ≤ v2 → (Q (-2) M6)) ∧ (¬ (M6.1 13 0 0) ≤ v2 → (p_X3_told v2 v3 M6 (fun r9 M9 => (Q r9 M9)))))) ∧ (v2 = (-1) → (Q (M6.1 13 0 0) M6))))))
set_option maxRecDepth 100000 in
set_option maxHeartbeats 4000000 in
theorem k_X10_frame_31 {p : Program} {l : Launch} {e : Env} {s : State} {m : MethodId} {args : Array Value} {below : List Frame} {meth : Method} {c : Code} {g : Geo} (C : CX g p s m args meth c cX10_frame 4 (some .int) RX10) {Q : Int32 → Mem → Prop} (v1 : Int32) (v2 : Int32) (v3 : Int32) (M : Mem) (hw : b_X10_frame_31 Q v1 v2 v3 M) {H : Heap} {locs : List Loc} {ls : Array Slot} (hl : lv_has ls 4 [(0, .ref (g.2.1 (0 + 0))), (1, .int v1), (2, .int v2), (3, .int v3)]) (hP : va_P g.1 clz (xw g M) H) (hS : va_S (Af 0 g) s.heap H locs) : W p l e ({ frames := 4, cells := 0, slots := 0, locals := 95 } : Room) s m args below meth c H locs 0 0 (MQ below (va_Qi Q (PB g (xw g)) (Af 0 g)) args s 0 0 (Af 0 g)) (F0 m 31 ls []) := by
  unfold b_X10_frame_31 at hw
  refine lv_aload_n C.1 C.2.1 dX10_frame_31 rfl (lv_at hl 0 rfl) ?_
  refine lv_aload_n C.1 C.2.1 dX10_frame_32 rfl (lv_at hl 0 rfl) ?_
  refine gX10_47 C hP Nat.zero_lt_one dX10_frame_33 ?_
  refine gX10_281 C hP (Nat.le_of_ble_eq_true rfl) dX10_frame_36 ?_
  refine lv_iload_n C.1 C.2.1 dX10_frame_39 rfl (lv_at hl 1 rfl) ?_
  obtain ⟨h5, hw⟩ := hw
  have hb5 : (4 * 0 + (v1 : Int32).toNatClampNeg) < 52 := by have h9 := vp_lt h5; have h8 := (rfl : 0 = 0); omega
  refine al_28 C hP (Nat.le_of_ble_eq_true rfl) h5 dX10_frame_40 ?_
  refine goV (wf := (xw g)) (runV (w := xw g M) (As := [.ref (g.2.1 (86 + (4 * 0 + (v1 : Int32).toNatClampNeg)))]) (rest := []) C lkX10_348 (c_X10_readFrames l g C.2.2.2.2.2.2.2.2.2.2 ((4 * 0 + (v1 : Int32).toNatClampNeg)) hb5 M _ hw) hP hS rfl rfl ⟨Nat.le_of_ble_eq_true rfl, Nat.le_of_ble_eq_true rfl⟩ (xx_0 Nat.zero_lt_one) rfl rfl hl.1 rfl (Nat.le_of_ble_eq_true rfl) dX10_frame_41) hS (fun M6 hw H locs hP hS => ?_)
  refine lv_iload_n C.1 C.2.1 dX10_frame_44 rfl (lv_at hl 2 rfl) ?_
  refine lv_iconst (v := (-1)) C.1 C.2.1 dX10_frame_45 (by decide) ?_
  refine lv_icmp_ne (tgt := 57) C.1 C.2.1 dX10_frame_46 (by decide) (fun h7 => ?_) (fun h7 => ?_)
  · have hw := hw.1 h7
    refine lv_iload_n C.1 C.2.1 dX10_frame_57 rfl (lv_at hl 2 rfl) ?_
    refine lv_aload_n C.1 C.2.1 dX10_frame_58 rfl (lv_at hl 0 rfl) ?_
    refine gX10_67 C hP Nat.zero_lt_one dX10_frame_59 ?_
    refine gX10_351 C hP Nat.zero_lt_one dX10_frame_62 ?_
    refine lv_icmp_ge (tgt := 80) C.1 C.2.1 dX10_frame_65 (by decide) (fun h8 => ?_) (fun h8 => ?_)
    · have hw := hw.1 h8
      refine lv_bipush (v := (-2)) C.1 C.2.1 dX10_frame_80 (by decide) ?_
      exact retI (wf := (xw g)) C hP hS hw dX10_frame_82
    · have hw := hw.2 h8
      refine lv_aload_n C.1 C.2.1 dX10_frame_68 rfl (lv_at hl 0 rfl) ?_
      refine gX10_67 C hP Nat.zero_lt_one dX10_frame_69 ?_
      refine lv_iload_n C.1 C.2.1 dX10_frame_72 rfl (lv_at hl 2 rfl) ?_
      refine lv_iload_n C.1 C.2.1 dX10_frame_73 rfl (lv_at hl 3 rfl) ?_
      refine goI (wf := (xw g)) (runV (w := xw g M6) (As := [.int v2, .int v3]) (rest := []) C lkX10_354 (c_X3_told l g C.2.2.2.2.2.2.2.2.2.2 v2 v3  M6 _ hw) hP hS rfl rfl ⟨Nat.le_of_ble_eq_true rfl, Nat.le_of_ble_eq_true rfl⟩ (xx_13 Nat.zero_lt_one) rfl rfl hl.1 rfl (Nat.le_of_ble_eq_true rfl) dX10_frame_74) hS (fun r9 M9 hw H locs hP hS => ?_)
      refine lv_goto (tgt := 82) C.1 C.2.1 dX10_frame_77 (by decide) ?_
      exact retI (wf := (xw g)) C hP hS hw dX10_frame_82
  · have hw := hw.2 h7
    refine lv_aload_n C.1 C.2.1 dX10_frame_49 rfl (lv_at hl 0 rfl) ?_
    refine gX10_67 C hP Nat.zero_lt_one dX10_frame_50 ?_
    refine gX10_351 C hP Nat.zero_lt_one dX10_frame_53 ?_
    exact retI (wf := (xw g)) C hP hS hw dX10_frame_56
def p_X10_frame (a1 : Int32) (a2 : Int32) (a3 : Int32) (M : Mem) (Q : Int32 → Mem → Prop) : Prop := (p_X10_isChannel a1 M (fun r1 M1 => ((r1 = 0 → (Q (-1) M1)) ∧ (¬ r1 = 0 → (((-1) ≤ a2 → ((a2 = (-1) → (b_X10_frame_31 Q a1 a2 a3 M1)) ∧ (¬ a2 = (-1) → ((a3 < 0 → (Q (-1) M1)) ∧ (¬ a3 < 0 → ((a3 ≤ 3 → (b_X10_frame_31 Q a1 a2 a3 M1)) ∧ (¬ a3 ≤ 3 → (Q (-1) M1)))))))) ∧ (¬ (-1) ≤ a2 → (Q (-1) M1)))))))
set_option maxRecDepth 100000 in
set_option maxHeartbeats 4000000 in
theorem c_X10_frame (l : Launch) (g : Geo) (gi : GI g) (a1 : Int32) (a2 : Int32) (a3 : Int32) (M : Mem) (Q : Int32 → Mem → Prop) (hw : p_X10_frame a1 a2 a3 M Q) : Met l yX10_frame (Cond.code yX10_frame cX10_frame 4 (some .int) :: bg) ({ frames := 4, cells := 0, slots := 0, locals := 95 } : Room) (va_Pc [.ref (g.2.1 (0 + 0)), .int a1, .int a2, .int a3] (PW g (xw g M))) (va_Qi Q (PB g (xw g)) (Af 0 g)) 0 0 (Af 0 g) := by
  refine Met.ofW (cc := cX10_frame) (maxL := 4) (ret := (some .int)) (by decide +kernel) rfl ?_
  intro p e s m args below meth c s₁ B hml hv
  obtain ⟨rfl, hv⟩ := hv
  have C := CX.start (own := RX10) B hml rfl gi hv
  have hP := hv.1
  have hS : va_S (Af 0 g) s.heap s.heap [] := va_S.rf
  have hl := lv_entry ([.ref (g.2.1 (0 + 0)), .int a1, .int a2, .int a3]) (n := 4) (Nat.le_of_ble_eq_true rfl)
  rw [lg_entry_eq]
  generalize (lg_sl ([.ref (g.2.1 (0 + 0)), .int a1, .int a2, .int a3]) ++ List.replicate (4 - (lg_sl ([.ref (g.2.1 (0 + 0)), .int a1, .int a2, .int a3])).length) Slot.unset).toArray = ls at hl ⊢
  have hl : lv_has ls 4 [(0, .ref (g.2.1 (0 + 0))), (1, .int a1), (2, .int a2), (3, .int a3)] := hl
  unfold p_X10_frame at hw
  refine lv_aload_n C.1 C.2.1 dX10_frame_0 rfl (lv_at hl 0 rfl) ?_
  refine lv_iload_n C.1 C.2.1 dX10_frame_1 rfl (lv_at hl 1 rfl) ?_
  refine goI (wf := (xw g)) (runV (w := xw g M) (As := [.int a1]) (rest := []) C lkX10_330 (c_X10_isChannel l g C.2.2.2.2.2.2.2.2.2.2 a1  M _ hw) hP hS rfl rfl ⟨Nat.le_of_ble_eq_true rfl, Nat.le_of_ble_eq_true rfl⟩ (xx_0 Nat.zero_lt_one) rfl rfl hl.1 rfl (Nat.le_of_ble_eq_true rfl) dX10_frame_2) hS (fun r1 M1 hw H locs hP hS => ?_)
  obtain ⟨hw, hz1⟩ := hw
  refine lv_if_eq (tgt := 13) C.1 C.2.1 dX10_frame_5 (by decide) (fun h2 => ?_) (fun h2 => ?_)
  · have hw := hw.1 h2
    refine lv_iconst (v := (-1)) C.1 C.2.1 dX10_frame_13 (by decide) ?_
    exact retI (wf := (xw g)) C hP hS hw dX10_frame_14
  · have hw := hw.2 h2
    refine lv_iload_n C.1 C.2.1 dX10_frame_8 rfl (lv_at hl 2 rfl) ?_
    refine lv_iconst (v := (-1)) C.1 C.2.1 dX10_frame_9 (by decide) ?_
    refine lv_icmp_ge (tgt := 15) C.1 C.2.1 dX10_frame_10 (by decide) (fun h3 => ?_) (fun h3 => ?_)
    · have hw := hw.1 h3
      refine lv_iload_n C.1 C.2.1 dX10_frame_15 rfl (lv_at hl 2 rfl) ?_
      refine lv_iconst (v := (-1)) C.1 C.2.1 dX10_frame_16 (by decide) ?_
      refine lv_icmp_eq (tgt := 31) C.1 C.2.1 dX10_frame_17 (by decide) (fun h4 => ?_) (fun h4 => ?_)
      · have hw := hw.1 h4
        exact k_X10_frame_31 (Q := Q) C a1 a2 a3  _ hw (lv_sub hl [0, 1, 2, 3] rfl) hP hS
      · have hw := hw.2 h4
        refine lv_iload_n C.1 C.2.1 dX10_frame_20 rfl (lv_at hl 3 rfl) ?_
        refine lv_if_lt (tgt := 29) C.1 C.2.1 dX10_frame_21 (by decide) (fun h10 => ?_) (fun h10 => ?_)
        · have hw := hw.1 h10
          refine lv_iconst (v := (-1)) C.1 C.2.1 dX10_frame_29 (by decide) ?_
          exact retI (wf := (xw g)) C hP hS hw dX10_frame_30
        · have hw := hw.2 h10
          refine lv_iload_n C.1 C.2.1 dX10_frame_24 rfl (lv_at hl 3 rfl) ?_
          refine lv_iconst (v := 3) C.1 C.2.1 dX10_frame_25 (by decide) ?_
          refine lv_icmp_le (tgt := 31) C.1 C.2.1 dX10_frame_26 (by decide) (fun h11 => ?_) (fun h11 => ?_)
          · have hw := hw.1 h11
            exact k_X10_frame_31 (Q := Q) C a1 a2 a3  _ hw (lv_sub hl [0, 1, 2, 3] rfl) hP hS
          · have hw := hw.2 h11
            refine lv_iconst (v := (-1)) C.1 C.2.1 dX10_frame_29 (by decide) ?_
            exact retI (wf := (xw g)) C hP hS hw dX10_frame_30
    · have hw := hw.2 h3
      refine lv_iconst (v := (-1)) C.1 C.2.1 dX10_frame_13 (by decide) ?_
      exact retI (wf := (xw g)) C hP hS hw dX10_frame_14
def p_X10_bad (a1 : Int32) (M : Mem) (Q : Int32 → Mem → Prop) : Prop := (p_X10_isChannel a1 M (fun r1 M1 => ((¬ r1 = 0 → (vp_in a1 4 ∧ (p_X10_readFrames ((4 * 0 + (a1 : Int32).toNatClampNeg)) M1 (fun M4 => (Q (M4.1 13 0 1) M4))))) ∧ (r1 = 0 → (Q (-1) M1)))))
set_option maxRecDepth 100000 in
set_option maxHeartbeats 4000000 in
theorem c_X10_bad (l : Launch) (g : Geo) (gi : GI g) (a1 : Int32) (M : Mem) (Q : Int32 → Mem → Prop) (hw : p_X10_bad a1 M Q) : Met l yX10_bad (Cond.code yX10_bad cX10_bad 2 (some .int) :: bg) ({ frames := 4, cells := 0, slots := 0, locals := 95 } : Room) (va_Pc [.ref (g.2.1 (0 + 0)), .int a1] (PW g (xw g M))) (va_Qi Q (PB g (xw g)) (Af 0 g)) 0 0 (Af 0 g) := by
  refine Met.ofW (cc := cX10_bad) (maxL := 2) (ret := (some .int)) (by decide +kernel) rfl ?_
  intro p e s m args below meth c s₁ B hml hv
  obtain ⟨rfl, hv⟩ := hv
  have C := CX.start (own := RX10) B hml rfl gi hv
  have hP := hv.1
  have hS : va_S (Af 0 g) s.heap s.heap [] := va_S.rf
  have hl := lv_entry ([.ref (g.2.1 (0 + 0)), .int a1]) (n := 2) (Nat.le_of_ble_eq_true rfl)
  rw [lg_entry_eq]
  generalize (lg_sl ([.ref (g.2.1 (0 + 0)), .int a1]) ++ List.replicate (2 - (lg_sl ([.ref (g.2.1 (0 + 0)), .int a1])).length) Slot.unset).toArray = ls at hl ⊢
  have hl : lv_has ls 2 [(0, .ref (g.2.1 (0 + 0))), (1, .int a1)] := hl
  unfold p_X10_bad at hw
  refine lv_aload_n C.1 C.2.1 dX10_bad_0 rfl (lv_at hl 0 rfl) ?_
  refine lv_iload_n C.1 C.2.1 dX10_bad_1 rfl (lv_at hl 1 rfl) ?_
  refine goI (wf := (xw g)) (runV (w := xw g M) (As := [.int a1]) (rest := []) C lkX10_330 (c_X10_isChannel l g C.2.2.2.2.2.2.2.2.2.2 a1  M _ hw) hP hS rfl rfl ⟨Nat.le_of_ble_eq_true rfl, Nat.le_of_ble_eq_true rfl⟩ (xx_0 Nat.zero_lt_one) rfl rfl hl.1 rfl (Nat.le_of_ble_eq_true rfl) dX10_bad_2) hS (fun r1 M1 hw H locs hP hS => ?_)
  obtain ⟨hw, hz1⟩ := hw
  refine lv_if_ne (tgt := 10) C.1 C.2.1 dX10_bad_5 (by decide) (fun h2 => ?_) (fun h2 => ?_)
  · have hw := hw.1 h2
    refine lv_aload_n C.1 C.2.1 dX10_bad_10 rfl (lv_at hl 0 rfl) ?_
    refine lv_aload_n C.1 C.2.1 dX10_bad_11 rfl (lv_at hl 0 rfl) ?_
    refine gX10_47 C hP Nat.zero_lt_one dX10_bad_12 ?_
    refine gX10_281 C hP (Nat.le_of_ble_eq_true rfl) dX10_bad_15 ?_
    refine lv_iload_n C.1 C.2.1 dX10_bad_18 rfl (lv_at hl 1 rfl) ?_
    obtain ⟨h3, hw⟩ := hw
    have hb3 : (4 * 0 + (a1 : Int32).toNatClampNeg) < 52 := by have h9 := vp_lt h3; have h8 := (rfl : 0 = 0); omega
    refine al_28 C hP (Nat.le_of_ble_eq_true rfl) h3 dX10_bad_19 ?_
    refine goV (wf := (xw g)) (runV (w := xw g M1) (As := [.ref (g.2.1 (86 + (4 * 0 + (a1 : Int32).toNatClampNeg)))]) (rest := []) C lkX10_348 (c_X10_readFrames l g C.2.2.2.2.2.2.2.2.2.2 ((4 * 0 + (a1 : Int32).toNatClampNeg)) hb3 M1 _ hw) hP hS rfl rfl ⟨Nat.le_of_ble_eq_true rfl, Nat.le_of_ble_eq_true rfl⟩ (xx_0 Nat.zero_lt_one) rfl rfl hl.1 rfl (Nat.le_of_ble_eq_true rfl) dX10_bad_20) hS (fun M4 hw H locs hP hS => ?_)
    refine lv_aload_n C.1 C.2.1 dX10_bad_23 rfl (lv_at hl 0 rfl) ?_
    refine gX10_67 C hP Nat.zero_lt_one dX10_bad_24 ?_
    refine gX10_356 C hP Nat.zero_lt_one dX10_bad_27 ?_
    exact retI (wf := (xw g)) C hP hS hw dX10_bad_30
  · have hw := hw.2 h2
    refine lv_iconst (v := (-1)) C.1 C.2.1 dX10_bad_8 (by decide) ?_
    exact retI (wf := (xw g)) C hP hS hw dX10_bad_9
def b_X10_errors_140 (Q : Int32 → Mem → Prop) (v2 : Nat) (v4 : Int32) (M : Mem) : Prop := (Q (if ((M.1 30 v2 9) - v4) < v4 then ((M.1 30 v2 9) - v4) else v4) M)
set_option maxRecDepth 100000 in
set_option maxHeartbeats 4000000 in
theorem k_X10_errors_140 {p : Program} {l : Launch} {e : Env} {s : State} {m : MethodId} {args : Array Value} {below : List Frame} {meth : Method} {c : Code} {g : Geo} (C : CX g p s m args meth c cX10_errors 8 (some .int) RX10) {Q : Int32 → Mem → Prop} (v2 : Nat) (v4 : Int32) (hv2 : v2 < 52) (M : Mem) (hw : b_X10_errors_140 Q v2 v4 M) {H : Heap} {locs : List Loc} {ls : Array Slot} (hl : lv_has ls 8 [(2, .ref (g.2.1 (86 + v2))), (4, .int v4)]) (hP : va_P g.1 clz (xw g M) H) (hS : va_S (Af 0 g) s.heap H locs) : W p l e ({ frames := 1, cells := 0, slots := 0, locals := 22 } : Room) s m args below meth c H locs 0 0 (MQ below (va_Qi Q (PB g (xw g)) (Af 0 g)) args s 0 0 (Af 0 g)) (F0 m 140 ls []) := by
  unfold b_X10_errors_140 at hw
  refine lv_iload C.1 C.2.1 dX10_errors_140 (lv_at hl 1 rfl) ?_
  refine lv_aload_n C.1 C.2.1 dX10_errors_142 rfl (lv_at hl 0 rfl) ?_
  refine gX10_334 C hP hv2 dX10_errors_143 ?_
  refine lv_iload C.1 C.2.1 dX10_errors_146 (lv_at hl 1 rfl) ?_
  refine lv_isub C.1 C.2.1 dX10_errors_148 ?_
  refine va_mmin C.1 C.2.1 (C.2.2.1.trans hl.1.symm) C.2.2.2.2.1 (C.2.2.2.2.2.1 _ (bg_of 905 (by decide +kernel) rfl)) (C.2.2.2.2.2.1 _ (bg_of 638 (by decide +kernel) rfl)) (C.2.2.2.2.2.1 _ (bg_of 108 (by decide +kernel) rfl)) (C.2.2.2.2.2.1 _ (bg_of 639 (by decide +kernel) rfl)) (Nat.le_of_ble_eq_true rfl) (Nat.le_of_ble_eq_true rfl) (Nat.zero_le _) (Nat.zero_le _) dX10_errors_149 ?_
  exact retI (wf := (xw g)) C hP hS hw dX10_errors_152
def b_X10_errors_134 (Q : Int32 → Mem → Prop) (k71 : Nat → Nat → Int32 → Int32 → Mem → Prop) (v2 : Nat) (v3 : Nat) (v4 : Int32) (v5 : Int32) (M : Mem) : Prop := (∀ x19 : Int32, x19 = (v5 + 1) → (k71 v2 v3 v4 x19 M))
set_option maxRecDepth 100000 in
set_option maxHeartbeats 4000000 in
theorem k_X10_errors_134 {p : Program} {l : Launch} {e : Env} {s : State} {m : MethodId} {args : Array Value} {below : List Frame} {meth : Method} {c : Code} {g : Geo} (C : CX g p s m args meth c cX10_errors 8 (some .int) RX10) {Q : Int32 → Mem → Prop} {k71 : Nat → Nat → Int32 → Int32 → Mem → Prop} (hk71 : ∀ (v2 : Nat) (v3 : Nat) (v4 : Int32) (v5 : Int32) (hv2 : v2 < 52) (hv3 : v3 < 10) (M : Mem), k71 v2 v3 v4 v5 M → ∀ (H : Heap) (locs : List Loc) (ls : Array Slot), lv_has ls 8 [(2, .ref (g.2.1 (86 + v2))), (3, .ref (g.2.1 (27 + v3))), (4, .int v4), (5, .int v5)] → va_P g.1 clz (xw g M) H → va_S (Af 0 g) s.heap H locs → W p l e ({ frames := 1, cells := 0, slots := 0, locals := 22 } : Room) s m args below meth c H locs 0 0 (MQ below (va_Qi Q (PB g (xw g)) (Af 0 g)) args s 0 0 (Af 0 g)) (F0 m 71 ls [])) (v2 : Nat) (v3 : Nat) (v4 : Int32) (v5 : Int32) (hv2 : v2 < 52) (hv3 : v3 < 10) (M : Mem) (hw : b_X10_errors_134 Q k71 v2 v3 v4 v5 M) {H : Heap} {locs : List Loc} {ls : Array Slot} (hl : lv_has ls 8 [(2, .ref (g.2.1 (86 + v2))), (3, .ref (g.2.1 (27 + v3))), (4, .int v4), (5, .int v5)]) (hP : va_P g.1 clz (xw g M) H) (hS : va_S (Af 0 g) s.heap H locs) : W p l e ({ frames := 1, cells := 0, slots := 0, locals := 22 } : Room) s m args below meth c H locs 0 0 (MQ below (va_Qi Q (PB g (xw g)) (Af 0 g)) args s 0 0 (Af 0 g)) (F0 m 134 ls []) := by
  unfold b_X10_errors_134 at hw
  obtain ⟨x19, e19⟩ : ∃ y : Int32, y = (v5 + 1) := ⟨_, rfl⟩
  have hw := hw x19 e19
  refine lv_iinc (v := x19) (lv' := [(5, .int x19), (2, .ref (g.2.1 (86 + v2))), (3, .ref (g.2.1 (27 + v3))), (4, .int v4)]) C.1 C.2.1 dX10_errors_134 hl (k := 3) rfl (by rw [e19]; rfl) (by decide) rfl (fun ls hl => ?_)
  refine lv_goto (tgt := 71) C.1 C.2.1 dX10_errors_137 (by decide) ?_
  exact hk71 v2 v3 v4 x19 hv2 hv3 _ hw _ _ _ (lv_sub hl [1, 2, 3, 0] rfl) hP hS
def b_X10_errors_71 (Q : Int32 → Mem → Prop) : Nat → Nat → Nat → Int32 → Int32 → Mem → Prop
  | 0, _, _, _, _, _ => False
  | n + 1, v2, v3, v4, v5, M => (((M.1 30 v2 9) ≤ v5 → (b_X10_errors_140 Q v2 v4 M)) ∧ (¬ (M.1 30 v2 9) ≤ v5 → (∀ x13 : Int32, x13 = (((M.1 30 v2 5) - (M.1 30 v2 9)) + v5) → (p_X0_startIn v3 x13 M (fun r14 M14 => (p_J9_floorDiv_7cf53 (((((62 : Int32) * x13) + 31) - r14)) 62 M14 (fun r15 M15 => (p_X1_logBit v2 v5 M15 (fun r16 M16 => (p_X0_bitAt v3 r15 M16 (fun r17 M17 => ((r16 = r17 → (b_X10_errors_134 Q (fun v2 v3 v4 v5 M => b_X10_errors_71 Q n v2 v3 v4 v5 M) v2 v3 v4 v5 M17)) ∧ (¬ r16 = r17 → (∀ x20 : Int32, x20 = (v4 + 1) → (b_X10_errors_134 Q (fun v2 v3 v4 v5 M => b_X10_errors_71 Q n v2 v3 v4 v5 M) v2 v3 x20 v5 M17)))))))))))))))
set_option maxRecDepth 100000 in
set_option maxHeartbeats 4000000 in
theorem k_X10_errors_71 {p : Program} {l : Launch} {e : Env} {s : State} {m : MethodId} {args : Array Value} {below : List Frame} {meth : Method} {c : Code} {g : Geo} (C : CX g p s m args meth c cX10_errors 8 (some .int) RX10) {Q : Int32 → Mem → Prop} : ∀ (n : Nat) (v2 : Nat) (v3 : Nat) (v4 : Int32) (v5 : Int32) (hv2 : v2 < 52) (hv3 : v3 < 10) (M : Mem) (hw : b_X10_errors_71 Q n v2 v3 v4 v5 M) {H : Heap} {locs : List Loc} {ls : Array Slot} (hl : lv_has ls 8 [(2, .ref (g.2.1 (86 + v2))), (3, .ref (g.2.1 (27 + v3))), (4, .int v4), (5, .int v5)]) (hP : va_P g.1 clz (xw g M) H) (hS : va_S (Af 0 g) s.heap H locs), W p l e ({ frames := 1, cells := 0, slots := 0, locals := 22 } : Room) s m args below meth c H locs 0 0 (MQ below (va_Qi Q (PB g (xw g)) (Af 0 g)) args s 0 0 (Af 0 g)) (F0 m 71 ls []) := by
  intro n
  induction n with
  | zero => intro v2 v3 v4 v5 hv2 hv3 M hw H locs ls hl hP hS; exact absurd hw (by rw [b_X10_errors_71]; exact fun h => h)
  | succ n ih =>
    intro v2 v3 v4 v5 hv2 hv3 M hw H locs ls hl hP hS
    rw [b_X10_errors_71] at hw
    refine lv_iload C.1 C.2.1 dX10_errors_71 (lv_at hl 3 rfl) ?_
    refine lv_aload_n C.1 C.2.1 dX10_errors_73 rfl (lv_at hl 0 rfl) ?_
    refine gX10_334 C hP hv2 dX10_errors_74 ?_
    refine lv_icmp_ge (tgt := 140) C.1 C.2.1 dX10_errors_77 (by decide) (fun h12 => ?_) (fun h12 => ?_)
    · have hw := hw.1 h12
      exact k_X10_errors_140 (Q := Q) C v2 v4 hv2 _ hw (lv_sub hl [0, 2] rfl) hP hS
    · have hw := hw.2 h12
      refine lv_aload_n C.1 C.2.1 dX10_errors_80 rfl (lv_at hl 0 rfl) ?_
      refine gX10_304 C hP hv2 dX10_errors_81 ?_
      refine lv_aload_n C.1 C.2.1 dX10_errors_84 rfl (lv_at hl 0 rfl) ?_
      refine gX10_334 C hP hv2 dX10_errors_85 ?_
      refine lv_isub C.1 C.2.1 dX10_errors_88 ?_
      refine lv_iload C.1 C.2.1 dX10_errors_89 (lv_at hl 3 rfl) ?_
      refine lv_iadd C.1 C.2.1 dX10_errors_91 ?_
      refine lv_topi (fun x13 e13 => ?_)
      have hw := hw x13 e13
      refine lv_istore (lv' := [(6, .int x13), (2, .ref (g.2.1 (86 + v2))), (3, .ref (g.2.1 (27 + v3))), (4, .int v4), (5, .int v5)]) C.1 C.2.1 dX10_errors_92 hl (by decide) rfl (fun ls hl => ?_)
      refine lv_bipush (v := 62) C.1 C.2.1 dX10_errors_94 (by decide) ?_
      refine lv_iload C.1 C.2.1 dX10_errors_96 (lv_at hl 0 rfl) ?_
      refine lv_imul C.1 C.2.1 dX10_errors_98 ?_
      refine lv_bipush (v := 31) C.1 C.2.1 dX10_errors_99 (by decide) ?_
      refine lv_iadd C.1 C.2.1 dX10_errors_101 ?_
      refine lv_aload_n C.1 C.2.1 dX10_errors_102 rfl (lv_at hl 2 rfl) ?_
      refine lv_iload C.1 C.2.1 dX10_errors_103 (lv_at hl 0 rfl) ?_
      refine goI (wf := (xw g)) (runV (w := xw g M) (As := [.int x13]) (rest := [.int (((62 : Int32) * x13) + 31)]) C lkX10_238 (c_X0_startIn l g C.2.2.2.2.2.2.2.2.2.2 v3 x13 hv3 M _ hw) hP hS rfl rfl ⟨Nat.le_of_ble_eq_true rfl, Nat.le_of_ble_eq_true rfl⟩ (xx_25 hv3) rfl rfl hl.1 rfl (Nat.le_of_ble_eq_true rfl) dX10_errors_105) hS (fun r14 M14 hw H locs hP hS => ?_)
      refine lv_isub C.1 C.2.1 dX10_errors_108 ?_
      refine lv_bipush (v := 62) C.1 C.2.1 dX10_errors_109 (by decide) ?_
      refine goI (wf := (xw g)) (runS (w := xw g M14) (As := [.int ((((62 : Int32) * x13) + 31) - r14), .int 62]) (rest := []) C lkX10_359 (c_J9_floorDiv_7cf53 l g C.2.2.2.2.2.2.2.2.2.2 (((((62 : Int32) * x13) + 31) - r14)) 62  M14 _ hw) hP hS rfl rfl ⟨Nat.le_of_ble_eq_true rfl, Nat.le_of_ble_eq_true rfl⟩ hl.1 rfl (Nat.le_of_ble_eq_true rfl) dX10_errors_111) hS (fun r15 M15 hw H locs hP hS => ?_)
      refine lv_istore (lv' := [(7, .int r15), (6, .int x13), (2, .ref (g.2.1 (86 + v2))), (3, .ref (g.2.1 (27 + v3))), (4, .int v4), (5, .int v5)]) C.1 C.2.1 dX10_errors_114 hl (by decide) rfl (fun ls hl => ?_)
      refine lv_aload_n C.1 C.2.1 dX10_errors_116 rfl (lv_at hl 2 rfl) ?_
      refine lv_iload C.1 C.2.1 dX10_errors_117 (lv_at hl 5 rfl) ?_
      refine goI (wf := (xw g)) (runV (w := xw g M15) (As := [.int v5]) (rest := []) C lkX10_337 (c_X1_logBit l g C.2.2.2.2.2.2.2.2.2.2 v2 v5 hv2 M15 _ hw) hP hS rfl rfl ⟨Nat.le_of_ble_eq_true rfl, Nat.le_of_ble_eq_true rfl⟩ (xx_30 hv2) rfl rfl hl.1 rfl (Nat.le_of_ble_eq_true rfl) dX10_errors_119) hS (fun r16 M16 hw H locs hP hS => ?_)
      refine lv_aload_n C.1 C.2.1 dX10_errors_122 rfl (lv_at hl 3 rfl) ?_
      refine lv_iload C.1 C.2.1 dX10_errors_123 (lv_at hl 0 rfl) ?_
      refine goI (wf := (xw g)) (runV (w := xw g M16) (As := [.int r15]) (rest := [.int r16]) C lkX10_185 (c_X0_bitAt l g C.2.2.2.2.2.2.2.2.2.2 v3 r15 hv3 M16 _ hw) hP hS rfl rfl ⟨Nat.le_of_ble_eq_true rfl, Nat.le_of_ble_eq_true rfl⟩ (xx_25 hv3) rfl rfl hl.1 rfl (Nat.le_of_ble_eq_true rfl) dX10_errors_125) hS (fun r17 M17 hw H locs hP hS => ?_)
      refine lv_icmp_eq (tgt := 134) C.1 C.2.1 dX10_errors_128 (by decide) (fun h18 => ?_) (fun h18 => ?_)
      · have hw := hw.1 h18
        exact k_X10_errors_134 (Q := Q) C (fun v2 v3 v4 v5 hv2 hv3 M hw H locs ls hl hP hS => ih v2 v3 v4 v5 hv2 hv3 M hw hl hP hS) v2 v3 v4 v5 hv2 hv3 _ hw (lv_sub hl [2, 3, 4, 5] rfl) hP hS
      · have hw := hw.2 h18
        obtain ⟨x20, e20⟩ : ∃ y : Int32, y = (v4 + 1) := ⟨_, rfl⟩
        have hw := hw x20 e20
        refine lv_iinc (v := x20) (lv' := [(4, .int x20), (7, .int r15), (6, .int x13), (2, .ref (g.2.1 (86 + v2))), (3, .ref (g.2.1 (27 + v3))), (5, .int v5)]) C.1 C.2.1 dX10_errors_131 hl (k := 4) rfl (by rw [e20]; rfl) (by decide) rfl (fun ls hl => ?_)
        exact k_X10_errors_134 (Q := Q) C (fun v2 v3 v4 v5 hv2 hv3 M hw H locs ls hl hP hS => ih v2 v3 v4 v5 hv2 hv3 M hw hl hP hS) v2 v3 x20 v5 hv2 hv3 _ hw (lv_sub hl [3, 4, 0, 5] rfl) hP hS
def p_X10_errors (a1 : Int32) (M : Mem) (Q : Int32 → Mem → Prop) : Prop := (p_X10_isChannel a1 M (fun r1 M1 => ((¬ r1 = 0 → (vp_in a1 4 ∧ (p_X10_isBird ((M1.1 30 (4 * 0 + (a1 : Int32).toNatClampNeg) 0)) M1 (fun r4 M4 => ((r4 = 0 → (Q (-2) M4)) ∧ (¬ r4 = 0 → (∃ w6 : Nat, M4.2.2 0 0 3 = some (23 + w6) ∧ w6 < 2 ∧ (vp_in (M4.1 30 (4 * 0 + (a1 : Int32).toNatClampNeg) 0) 5 ∧ (p_X0_isHeard ((5 * w6 + ((M4.1 30 (4 * 0 + (a1 : Int32).toNatClampNeg) 0) : Int32).toNatClampNeg)) M4 (fun r8 M8 => ((¬ r8 = 0 → (∃ w10 : Nat, M8.2.2 0 0 3 = some (23 + w10) ∧ w10 < 2 ∧ (vp_in (M8.1 30 (4 * 0 + (a1 : Int32).toNatClampNeg) 0) 5 ∧ (∃ n71 : Nat, b_X10_errors_71 Q n71 ((4 * 0 + (a1 : Int32).toNatClampNeg)) ((5 * w10 + ((M8.1 30 (4 * 0 + (a1 : Int32).toNatClampNeg) 0) : Int32).toNatClampNeg)) 0 0 M8)))) ∧ (r8 = 0 → (Q (-2) M8))))))))))))) ∧ (r1 = 0 → (Q (-1) M1)))))
set_option maxRecDepth 100000 in
set_option maxHeartbeats 4000000 in
theorem c_X10_errors (l : Launch) (g : Geo) (gi : GI g) (a1 : Int32) (M : Mem) (Q : Int32 → Mem → Prop) (hw : p_X10_errors a1 M Q) : Met l yX10_errors (Cond.code yX10_errors cX10_errors 8 (some .int) :: bg) ({ frames := 1, cells := 0, slots := 0, locals := 22 } : Room) (va_Pc [.ref (g.2.1 (0 + 0)), .int a1] (PW g (xw g M))) (va_Qi Q (PB g (xw g)) (Af 0 g)) 0 0 (Af 0 g) := by
  refine Met.ofW (cc := cX10_errors) (maxL := 8) (ret := (some .int)) (by decide +kernel) rfl ?_
  intro p e s m args below meth c s₁ B hml hv
  obtain ⟨rfl, hv⟩ := hv
  have C := CX.start (own := RX10) B hml rfl gi hv
  have hP := hv.1
  have hS : va_S (Af 0 g) s.heap s.heap [] := va_S.rf
  have hl := lv_entry ([.ref (g.2.1 (0 + 0)), .int a1]) (n := 8) (Nat.le_of_ble_eq_true rfl)
  rw [lg_entry_eq]
  generalize (lg_sl ([.ref (g.2.1 (0 + 0)), .int a1]) ++ List.replicate (8 - (lg_sl ([.ref (g.2.1 (0 + 0)), .int a1])).length) Slot.unset).toArray = ls at hl ⊢
  have hl : lv_has ls 8 [(0, .ref (g.2.1 (0 + 0))), (1, .int a1)] := hl
  unfold p_X10_errors at hw
  refine lv_aload_n C.1 C.2.1 dX10_errors_0 rfl (lv_at hl 0 rfl) ?_
  refine lv_iload_n C.1 C.2.1 dX10_errors_1 rfl (lv_at hl 1 rfl) ?_
  refine goI (wf := (xw g)) (runV (w := xw g M) (As := [.int a1]) (rest := []) C lkX10_330 (c_X10_isChannel l g C.2.2.2.2.2.2.2.2.2.2 a1  M _ hw) hP hS rfl rfl ⟨Nat.le_of_ble_eq_true rfl, Nat.le_of_ble_eq_true rfl⟩ (xx_0 Nat.zero_lt_one) rfl rfl hl.1 rfl (Nat.le_of_ble_eq_true rfl) dX10_errors_2) hS (fun r1 M1 hw H locs hP hS => ?_)
  obtain ⟨hw, hz1⟩ := hw
  refine lv_if_ne (tgt := 10) C.1 C.2.1 dX10_errors_5 (by decide) (fun h2 => ?_) (fun h2 => ?_)
  · have hw := hw.1 h2
    refine lv_aload_n C.1 C.2.1 dX10_errors_10 rfl (lv_at hl 0 rfl) ?_
    refine gX10_47 C hP Nat.zero_lt_one dX10_errors_11 ?_
    refine gX10_281 C hP (Nat.le_of_ble_eq_true rfl) dX10_errors_14 ?_
    refine lv_iload_n C.1 C.2.1 dX10_errors_17 rfl (lv_at hl 1 rfl) ?_
    obtain ⟨h3, hw⟩ := hw
    have hb3 : (4 * 0 + (a1 : Int32).toNatClampNeg) < 52 := by have h9 := vp_lt h3; have h8 := (rfl : 0 = 0); omega
    refine al_28 C hP (Nat.le_of_ble_eq_true rfl) h3 dX10_errors_18 ?_
    refine lv_astore_n (lv' := [(2, .ref (g.2.1 (86 + (4 * 0 + (a1 : Int32).toNatClampNeg)))), (0, .ref (g.2.1 (0 + 0))), (1, .int a1)]) C.1 C.2.1 dX10_errors_19 rfl hl (by decide) rfl (fun ls hl => ?_)
    refine lv_aload_n C.1 C.2.1 dX10_errors_20 rfl (lv_at hl 1 rfl) ?_
    refine lv_aload_n C.1 C.2.1 dX10_errors_21 rfl (lv_at hl 0 rfl) ?_
    refine gX10_307 C hP hb3 dX10_errors_22 ?_
    refine goI (wf := (xw g)) (runV (w := xw g M1) (As := [.int (M1.1 30 (4 * 0 + (a1 : Int32).toNatClampNeg) 0)]) (rest := []) C lkX10_111 (c_X10_isBird l g C.2.2.2.2.2.2.2.2.2.2 ((M1.1 30 (4 * 0 + (a1 : Int32).toNatClampNeg) 0))  M1 _ hw) hP hS rfl rfl ⟨Nat.le_of_ble_eq_true rfl, Nat.le_of_ble_eq_true rfl⟩ (xx_0 Nat.zero_lt_one) rfl rfl hl.1 rfl (Nat.le_of_ble_eq_true rfl) dX10_errors_25) hS (fun r4 M4 hw H locs hP hS => ?_)
    obtain ⟨hw, hz4⟩ := hw
    refine lv_if_eq (tgt := 49) C.1 C.2.1 dX10_errors_28 (by decide) (fun h5 => ?_) (fun h5 => ?_)
    · have hw := hw.1 h5
      refine lv_bipush (v := (-2)) C.1 C.2.1 dX10_errors_49 (by decide) ?_
      exact retI (wf := (xw g)) C hP hS hw dX10_errors_51
    · have hw := hw.2 h5
      refine lv_aload_n C.1 C.2.1 dX10_errors_31 rfl (lv_at hl 1 rfl) ?_
      obtain ⟨w6, h6, hb6, hw⟩ := hw
      refine gX10_23f C hP Nat.zero_lt_one h6 dX10_errors_32 ?_
      refine gX10_127 C hP hb6 dX10_errors_35 ?_
      refine lv_aload_n C.1 C.2.1 dX10_errors_38 rfl (lv_at hl 0 rfl) ?_
      refine gX10_307 C hP hb3 dX10_errors_39 ?_
      obtain ⟨h7, hw⟩ := hw
      have hb7 : (5 * w6 + ((M4.1 30 (4 * 0 + (a1 : Int32).toNatClampNeg) 0) : Int32).toNatClampNeg) < 10 := by have h9 := vp_lt h7; have h8 := hb6; omega
      refine al_24 C hP hb6 h7 dX10_errors_42 ?_
      refine goI (wf := (xw g)) (runV (w := xw g M4) (As := []) (rest := []) C lkX10_228 (c_X0_isHeard l g C.2.2.2.2.2.2.2.2.2.2 ((5 * w6 + ((M4.1 30 (4 * 0 + (a1 : Int32).toNatClampNeg) 0) : Int32).toNatClampNeg)) hb7 M4 _ hw) hP hS rfl rfl ⟨Nat.le_of_ble_eq_true rfl, Nat.le_of_ble_eq_true rfl⟩ (xx_25 hb7) rfl rfl hl.1 rfl (Nat.le_of_ble_eq_true rfl) dX10_errors_43) hS (fun r8 M8 hw H locs hP hS => ?_)
      obtain ⟨hw, hz8⟩ := hw
      refine lv_if_ne (tgt := 52) C.1 C.2.1 dX10_errors_46 (by decide) (fun h9 => ?_) (fun h9 => ?_)
      · have hw := hw.1 h9
        refine lv_aload_n C.1 C.2.1 dX10_errors_52 rfl (lv_at hl 1 rfl) ?_
        obtain ⟨w10, h10, hb10, hw⟩ := hw
        refine gX10_23f C hP Nat.zero_lt_one h10 dX10_errors_53 ?_
        refine gX10_127 C hP hb10 dX10_errors_56 ?_
        refine lv_aload_n C.1 C.2.1 dX10_errors_59 rfl (lv_at hl 0 rfl) ?_
        refine gX10_307 C hP hb3 dX10_errors_60 ?_
        obtain ⟨h11, hw⟩ := hw
        have hb11 : (5 * w10 + ((M8.1 30 (4 * 0 + (a1 : Int32).toNatClampNeg) 0) : Int32).toNatClampNeg) < 10 := by have h9 := vp_lt h11; have h8 := hb10; omega
        refine al_24 C hP hb10 h11 dX10_errors_63 ?_
        refine lv_astore_n (lv' := [(3, .ref (g.2.1 (27 + (5 * w10 + ((M8.1 30 (4 * 0 + (a1 : Int32).toNatClampNeg) 0) : Int32).toNatClampNeg)))), (2, .ref (g.2.1 (86 + (4 * 0 + (a1 : Int32).toNatClampNeg)))), (0, .ref (g.2.1 (0 + 0))), (1, .int a1)]) C.1 C.2.1 dX10_errors_64 rfl hl (by decide) rfl (fun ls hl => ?_)
        refine lv_iconst (v := 0) C.1 C.2.1 dX10_errors_65 (by decide) ?_
        refine lv_istore (lv' := [(4, .int 0), (3, .ref (g.2.1 (27 + (5 * w10 + ((M8.1 30 (4 * 0 + (a1 : Int32).toNatClampNeg) 0) : Int32).toNatClampNeg)))), (2, .ref (g.2.1 (86 + (4 * 0 + (a1 : Int32).toNatClampNeg)))), (0, .ref (g.2.1 (0 + 0))), (1, .int a1)]) C.1 C.2.1 dX10_errors_66 hl (by decide) rfl (fun ls hl => ?_)
        refine lv_iconst (v := 0) C.1 C.2.1 dX10_errors_68 (by decide) ?_
        refine lv_istore (lv' := [(5, .int 0), (4, .int 0), (3, .ref (g.2.1 (27 + (5 * w10 + ((M8.1 30 (4 * 0 + (a1 : Int32).toNatClampNeg) 0) : Int32).toNatClampNeg)))), (2, .ref (g.2.1 (86 + (4 * 0 + (a1 : Int32).toNatClampNeg)))), (0, .ref (g.2.1 (0 + 0))), (1, .int a1)]) C.1 C.2.1 dX10_errors_69 hl (by decide) rfl (fun ls hl => ?_)
        obtain ⟨n9, hw⟩ := hw
        exact k_X10_errors_71 (Q := Q) C n9 ((4 * 0 + (a1 : Int32).toNatClampNeg)) ((5 * w10 + ((M8.1 30 (4 * 0 + (a1 : Int32).toNatClampNeg) 0) : Int32).toNatClampNeg)) 0 0 hb3 hb11 _ hw (lv_sub hl [3, 2, 1, 0] rfl) hP hS
      · have hw := hw.2 h9
        refine lv_bipush (v := (-2)) C.1 C.2.1 dX10_errors_49 (by decide) ?_
        exact retI (wf := (xw g)) C hP hS hw dX10_errors_51
  · have hw := hw.2 h2
    refine lv_iconst (v := (-1)) C.1 C.2.1 dX10_errors_8 (by decide) ?_
    exact retI (wf := (xw g)) C hP hS hw dX10_errors_9
def b_X10_latest_59 (Q : Int32 → Mem → Prop) (v3 : Int32) (M : Mem) : Prop := (p_X3_told v3 2 M (fun r12 M12 => (Q r12 M12)))
set_option maxRecDepth 100000 in
set_option maxHeartbeats 4000000 in
theorem k_X10_latest_59 {p : Program} {l : Launch} {e : Env} {s : State} {m : MethodId} {args : Array Value} {below : List Frame} {meth : Method} {c : Code} {g : Geo} (C : CX g p s m args meth c cX10_latest 4 (some .int) RX10) {Q : Int32 → Mem → Prop} (v3 : Int32) (M : Mem) (hw : b_X10_latest_59 Q v3 M) {H : Heap} {locs : List Loc} {ls : Array Slot} (hl : lv_has ls 4 [(0, .ref (g.2.1 (0 + 0))), (3, .int v3)]) (hP : va_P g.1 clz (xw g M) H) (hS : va_S (Af 0 g) s.heap H locs) : W p l e ({ frames := 4, cells := 0, slots := 0, locals := 95 } : Room) s m args below meth c H locs 0 0 (MQ below (va_Qi Q (PB g (xw g)) (Af 0 g)) args s 0 0 (Af 0 g)) (F0 m 59 ls []) := by
  unfold b_X10_latest_59 at hw
  refine lv_aload_n C.1 C.2.1 dX10_latest_59 rfl (lv_at hl 0 rfl) ?_
  refine gX10_67 C hP Nat.zero_lt_one dX10_latest_60 ?_
  refine lv_iload_n C.1 C.2.1 dX10_latest_63 rfl (lv_at hl 1 rfl) ?_
  refine lv_iconst (v := 2) C.1 C.2.1 dX10_latest_64 (by decide) ?_
  refine goI (wf := (xw g)) (runV (w := xw g M) (As := [.int v3, .int 2]) (rest := []) C lkX10_354 (c_X3_told l g C.2.2.2.2.2.2.2.2.2.2 v3 2  M _ hw) hP hS rfl rfl ⟨Nat.le_of_ble_eq_true rfl, Nat.le_of_ble_eq_true rfl⟩ (xx_13 Nat.zero_lt_one) rfl rfl hl.1 rfl (Nat.le_of_ble_eq_true rfl) dX10_latest_65) hS (fun r12 M12 hw H locs hP hS => ?_)
  exact retI (wf := (xw g)) C hP hS hw dX10_latest_68
def b_X10_latest_42 (Q : Int32 → Mem → Prop) : Nat → Int32 → Int32 → Mem → Prop
  | 0, _, _, _ => False
  | n + 1, v2, v3, M => ((v3 < 0 → (Q (-2) M)) ∧ (¬ v3 < 0 → (p_X3_told v3 1 M (fun r9 M9 => ((¬ r9 = v2 → (∀ x11 : Int32, x11 = (v3 + (-1)) → (b_X10_latest_42 Q n v2 x11 M9))) ∧ (r9 = v2 → (b_X10_latest_59 Q v3 M9)))))))
set_option maxRecDepth 100000 in
set_option maxHeartbeats 4000000 in
theorem k_X10_latest_42 {p : Program} {l : Launch} {e : Env} {s : State} {m : MethodId} {args : Array Value} {below : List Frame} {meth : Method} {c : Code} {g : Geo} (C : CX g p s m args meth c cX10_latest 4 (some .int) RX10) {Q : Int32 → Mem → Prop} : ∀ (n : Nat) (v2 : Int32) (v3 : Int32) (M : Mem) (hw : b_X10_latest_42 Q n v2 v3 M) {H : Heap} {locs : List Loc} {ls : Array Slot} (hl : lv_has ls 4 [(0, .ref (g.2.1 (0 + 0))), (2, .int v2), (3, .int v3)]) (hP : va_P g.1 clz (xw g M) H) (hS : va_S (Af 0 g) s.heap H locs), W p l e ({ frames := 4, cells := 0, slots := 0, locals := 95 } : Room) s m args below meth c H locs 0 0 (MQ below (va_Qi Q (PB g (xw g)) (Af 0 g)) args s 0 0 (Af 0 g)) (F0 m 42 ls []) := by
  intro n
  induction n with
  | zero => intro v2 v3 M hw H locs ls hl hP hS; exact absurd hw (by rw [b_X10_latest_42]; exact fun h => h)
  | succ n ih =>
    intro v2 v3 M hw H locs ls hl hP hS
    rw [b_X10_latest_42] at hw
    refine lv_iload_n C.1 C.2.1 dX10_latest_42 rfl (lv_at hl 2 rfl) ?_
    refine lv_if_lt (tgt := 75) C.1 C.2.1 dX10_latest_43 (by decide) (fun h8 => ?_) (fun h8 => ?_)
    · have hw := hw.1 h8
      refine lv_bipush (v := (-2)) C.1 C.2.1 dX10_latest_75 (by decide) ?_
      exact retI (wf := (xw g)) C hP hS hw dX10_latest_77
    · have hw := hw.2 h8
      refine lv_aload_n C.1 C.2.1 dX10_latest_46 rfl (lv_at hl 0 rfl) ?_
      refine gX10_67 C hP Nat.zero_lt_one dX10_latest_47 ?_
      refine lv_iload_n C.1 C.2.1 dX10_latest_50 rfl (lv_at hl 2 rfl) ?_
      refine lv_iconst (v := 1) C.1 C.2.1 dX10_latest_51 (by decide) ?_
      refine goI (wf := (xw g)) (runV (w := xw g M) (As := [.int v3, .int 1]) (rest := []) C lkX10_354 (c_X3_told l g C.2.2.2.2.2.2.2.2.2.2 v3 1  M _ hw) hP hS rfl rfl ⟨Nat.le_of_ble_eq_true rfl, Nat.le_of_ble_eq_true rfl⟩ (xx_13 Nat.zero_lt_one) rfl rfl hl.1 rfl (Nat.le_of_ble_eq_true rfl) dX10_latest_52) hS (fun r9 M9 hw H locs hP hS => ?_)
      refine lv_iload_n C.1 C.2.1 dX10_latest_55 rfl (lv_at hl 1 rfl) ?_
      refine lv_icmp_ne (tgt := 69) C.1 C.2.1 dX10_latest_56 (by decide) (fun h10 => ?_) (fun h10 => ?_)
      · have hw := hw.1 h10
        obtain ⟨x11, e11⟩ : ∃ y : Int32, y = (v3 + (-1)) := ⟨_, rfl⟩
        have hw := hw x11 e11
        refine lv_iinc (v := x11) (lv' := [(3, .int x11), (0, .ref (g.2.1 (0 + 0))), (2, .int v2)]) C.1 C.2.1 dX10_latest_69 hl (k := 2) rfl (by rw [e11]; rfl) (by decide) rfl (fun ls hl => ?_)
        refine lv_goto (tgt := 42) C.1 C.2.1 dX10_latest_72 (by decide) ?_
        exact ih v2 x11  _ hw (lv_sub hl [1, 2, 0] rfl) hP hS
      · have hw := hw.2 h10
        exact k_X10_latest_59 (Q := Q) C v3  _ hw (lv_sub hl [0, 2] rfl) hP hS
def p_X10_latest (a1 : Int32) (a2 : Int32) (M : Mem) (Q : Int32 → Mem → Prop) : Prop := (p_X10_isChannel a1 M (fun r1 M1 => ((r1 = 0 → (Q (-1) M1)) ∧ (¬ r1 = 0 → ((a2 < 0 → (Q (-1) M1)) ∧ (¬ a2 < 0 → ((a2 ≤ 3 → (vp_in a1 4 ∧ (p_X10_readFrames ((4 * 0 + (a1 : Int32).toNatClampNeg)) M1 (fun M6 => (∀ x7 : Int32, x7 = ((M6.1 13 0 0) - 1) → (∃ n42 : Nat, b_X10_latest_42 Q n42 a2 x7 M6)))))) ∧ (¬ a2 ≤ 3 → (Q (-1) M1)))))))))
set_option maxRecDepth 100000 in
set_option maxHeartbeats 4000000 in
theorem c_X10_latest (l : Launch) (g : Geo) (gi : GI g) (a1 : Int32) (a2 : Int32) (M : Mem) (Q : Int32 → Mem → Prop) (hw : p_X10_latest a1 a2 M Q) : Met l yX10_latest (Cond.code yX10_latest cX10_latest 4 (some .int) :: bg) ({ frames := 4, cells := 0, slots := 0, locals := 95 } : Room) (va_Pc [.ref (g.2.1 (0 + 0)), .int a1, .int a2] (PW g (xw g M))) (va_Qi Q (PB g (xw g)) (Af 0 g)) 0 0 (Af 0 g) := by
  refine Met.ofW (cc := cX10_latest) (maxL := 4) (ret := (some .int)) (by decide +kernel) rfl ?_
  intro p e s m args below meth c s₁ B hml hv
  obtain ⟨rfl, hv⟩ := hv
  have C := CX.start (own := RX10) B hml rfl gi hv
  have hP := hv.1
  have hS : va_S (Af 0 g) s.heap s.heap [] := va_S.rf
  have hl := lv_entry ([.ref (g.2.1 (0 + 0)), .int a1, .int a2]) (n := 4) (Nat.le_of_ble_eq_true rfl)
  rw [lg_entry_eq]
  generalize (lg_sl ([.ref (g.2.1 (0 + 0)), .int a1, .int a2]) ++ List.replicate (4 - (lg_sl ([.ref (g.2.1 (0 + 0)), .int a1, .int a2])).length) Slot.unset).toArray = ls at hl ⊢
  have hl : lv_has ls 4 [(0, .ref (g.2.1 (0 + 0))), (1, .int a1), (2, .int a2)] := hl
  unfold p_X10_latest at hw
  refine lv_aload_n C.1 C.2.1 dX10_latest_0 rfl (lv_at hl 0 rfl) ?_
  refine lv_iload_n C.1 C.2.1 dX10_latest_1 rfl (lv_at hl 1 rfl) ?_
  refine goI (wf := (xw g)) (runV (w := xw g M) (As := [.int a1]) (rest := []) C lkX10_330 (c_X10_isChannel l g C.2.2.2.2.2.2.2.2.2.2 a1  M _ hw) hP hS rfl rfl ⟨Nat.le_of_ble_eq_true rfl, Nat.le_of_ble_eq_true rfl⟩ (xx_0 Nat.zero_lt_one) rfl rfl hl.1 rfl (Nat.le_of_ble_eq_true rfl) dX10_latest_2) hS (fun r1 M1 hw H locs hP hS => ?_)
  obtain ⟨hw, hz1⟩ := hw
  refine lv_if_eq (tgt := 17) C.1 C.2.1 dX10_latest_5 (by decide) (fun h2 => ?_) (fun h2 => ?_)
  · have hw := hw.1 h2
    refine lv_iconst (v := (-1)) C.1 C.2.1 dX10_latest_17 (by decide) ?_
    exact retI (wf := (xw g)) C hP hS hw dX10_latest_18
  · have hw := hw.2 h2
    refine lv_iload_n C.1 C.2.1 dX10_latest_8 rfl (lv_at hl 2 rfl) ?_
    refine lv_if_lt (tgt := 17) C.1 C.2.1 dX10_latest_9 (by decide) (fun h3 => ?_) (fun h3 => ?_)
    · have hw := hw.1 h3
      refine lv_iconst (v := (-1)) C.1 C.2.1 dX10_latest_17 (by decide) ?_
      exact retI (wf := (xw g)) C hP hS hw dX10_latest_18
    · have hw := hw.2 h3
      refine lv_iload_n C.1 C.2.1 dX10_latest_12 rfl (lv_at hl 2 rfl) ?_
      refine lv_iconst (v := 3) C.1 C.2.1 dX10_latest_13 (by decide) ?_
      refine lv_icmp_le (tgt := 19) C.1 C.2.1 dX10_latest_14 (by decide) (fun h4 => ?_) (fun h4 => ?_)
      · have hw := hw.1 h4
        refine lv_aload_n C.1 C.2.1 dX10_latest_19 rfl (lv_at hl 0 rfl) ?_
        refine lv_aload_n C.1 C.2.1 dX10_latest_20 rfl (lv_at hl 0 rfl) ?_
        refine gX10_47 C hP Nat.zero_lt_one dX10_latest_21 ?_
        refine gX10_281 C hP (Nat.le_of_ble_eq_true rfl) dX10_latest_24 ?_
        refine lv_iload_n C.1 C.2.1 dX10_latest_27 rfl (lv_at hl 1 rfl) ?_
        obtain ⟨h5, hw⟩ := hw
        have hb5 : (4 * 0 + (a1 : Int32).toNatClampNeg) < 52 := by have h9 := vp_lt h5; have h8 := (rfl : 0 = 0); omega
        refine al_28 C hP (Nat.le_of_ble_eq_true rfl) h5 dX10_latest_28 ?_
        refine goV (wf := (xw g)) (runV (w := xw g M1) (As := [.ref (g.2.1 (86 + (4 * 0 + (a1 : Int32).toNatClampNeg)))]) (rest := []) C lkX10_348 (c_X10_readFrames l g C.2.2.2.2.2.2.2.2.2.2 ((4 * 0 + (a1 : Int32).toNatClampNeg)) hb5 M1 _ hw) hP hS rfl rfl ⟨Nat.le_of_ble_eq_true rfl, Nat.le_of_ble_eq_true rfl⟩ (xx_0 Nat.zero_lt_one) rfl rfl hl.1 rfl (Nat.le_of_ble_eq_true rfl) dX10_latest_29) hS (fun M6 hw H locs hP hS => ?_)
        refine lv_aload_n C.1 C.2.1 dX10_latest_32 rfl (lv_at hl 0 rfl) ?_
        refine gX10_67 C hP Nat.zero_lt_one dX10_latest_33 ?_
        refine gX10_351 C hP Nat.zero_lt_one dX10_latest_36 ?_
        refine lv_iconst (v := 1) C.1 C.2.1 dX10_latest_39 (by decide) ?_
        refine lv_isub C.1 C.2.1 dX10_latest_40 ?_
        refine lv_topi (fun x7 e7 => ?_)
        have hw := hw x7 e7
        refine lv_istore_n (lv' := [(3, .int x7), (0, .ref (g.2.1 (0 + 0))), (1, .int a1), (2, .int a2)]) C.1 C.2.1 dX10_latest_41 rfl hl (by decide) rfl (fun ls hl => ?_)
        obtain ⟨n9, hw⟩ := hw
        exact k_X10_latest_42 (Q := Q) C n9 a2 x7  _ hw (lv_sub hl [1, 3, 0] rfl) hP hS
      · have hw := hw.2 h4
        refine lv_iconst (v := (-1)) C.1 C.2.1 dX10_latest_17 (by decide) ?_
        exact retI (wf := (xw g)) C hP hS hw dX10_latest_18
def p_X10_off (a1 : Int32) (M : Mem) (Q : Int32 → Mem → Prop) : Prop := (p_X10_isChannel a1 M (fun r1 M1 => ((¬ r1 = 0 → (vp_in a1 4 ∧ (p_X10_isBird ((M1.1 30 (4 * 0 + (a1 : Int32).toNatClampNeg) 0)) M1 (fun r4 M4 => ((r4 = 0 → (Q (-2) M4)) ∧ (¬ r4 = 0 → (∃ w6 : Nat, M4.2.2 0 0 3 = some (23 + w6) ∧ w6 < 2 ∧ (vp_in (M4.1 30 (4 * 0 + (a1 : Int32).toNatClampNeg) 0) 5 ∧ (p_X0_isHeard ((5 * w6 + ((M4.1 30 (4 * 0 + (a1 : Int32).toNatClampNeg) 0) : Int32).toNatClampNeg)) M4 (fun r8 M8 => ((¬ r8 = 0 → (∀ x10 : Int32, x10 = (if 199 < (M8.1 30 (4 * 0 + (a1 : Int32).toNatClampNeg) 5) then 199 else (M8.1 30 (4 * 0 + (a1 : Int32).toNatClampNeg) 5)) → (p_X1_startOfPoint ((4 * 0 + (a1 : Int32).toNatClampNeg)) M8 (fun r11 M11 => (∃ w12 : Nat, M11.2.2 0 0 3 = some (23 + w12) ∧ w12 < 2 ∧ (vp_in (M11.1 30 (4 * 0 + (a1 : Int32).toNatClampNeg) 0) 5 ∧ (p_X0_startIn ((5 * w12 + ((M11.1 30 (4 * 0 + (a1 : Int32).toNatClampNeg) 0) : Int32).toNatClampNeg)) x10 M11 (fun r14 M14 => (p_X10_apart r11 ((r14 - r14 / 62 * 62)) M14 (fun r15 M15 => (Q r15 M15))))))))))) ∧ (r8 = 0 → (Q (-2) M8))))))))))))) ∧ (r1 = 0 → (Q (-1) M1)))))
set_option maxRecDepth 100000 in
set_option maxHeartbeats 4000000 in
theorem c_X10_off (l : Launch) (g : Geo) (gi : GI g) (a1 : Int32) (M : Mem) (Q : Int32 → Mem → Prop) (hw : p_X10_off a1 M Q) : Met l yX10_off (Cond.code yX10_off cX10_off 4 (some .int) :: bg) ({ frames := 2, cells := 0, slots := 0, locals := 43 } : Room) (va_Pc [.ref (g.2.1 (0 + 0)), .int a1] (PW g (xw g M))) (va_Qi Q (PB g (xw g)) (Af 0 g)) 0 0 (Af 0 g) := by
  refine Met.ofW (cc := cX10_off) (maxL := 4) (ret := (some .int)) (by decide +kernel) rfl ?_
  intro p e s m args below meth c s₁ B hml hv
  obtain ⟨rfl, hv⟩ := hv
  have C := CX.start (own := RX10) B hml rfl gi hv
  have hP := hv.1
  have hS : va_S (Af 0 g) s.heap s.heap [] := va_S.rf
  have hl := lv_entry ([.ref (g.2.1 (0 + 0)), .int a1]) (n := 4) (Nat.le_of_ble_eq_true rfl)
  rw [lg_entry_eq]
  generalize (lg_sl ([.ref (g.2.1 (0 + 0)), .int a1]) ++ List.replicate (4 - (lg_sl ([.ref (g.2.1 (0 + 0)), .int a1])).length) Slot.unset).toArray = ls at hl ⊢
  have hl : lv_has ls 4 [(0, .ref (g.2.1 (0 + 0))), (1, .int a1)] := hl
  unfold p_X10_off at hw
  refine lv_aload_n C.1 C.2.1 dX10_off_0 rfl (lv_at hl 0 rfl) ?_
  refine lv_iload_n C.1 C.2.1 dX10_off_1 rfl (lv_at hl 1 rfl) ?_
  refine goI (wf := (xw g)) (runV (w := xw g M) (As := [.int a1]) (rest := []) C lkX10_330 (c_X10_isChannel l g C.2.2.2.2.2.2.2.2.2.2 a1  M _ hw) hP hS rfl rfl ⟨Nat.le_of_ble_eq_true rfl, Nat.le_of_ble_eq_true rfl⟩ (xx_0 Nat.zero_lt_one) rfl rfl hl.1 rfl (Nat.le_of_ble_eq_true rfl) dX10_off_2) hS (fun r1 M1 hw H locs hP hS => ?_)
  obtain ⟨hw, hz1⟩ := hw
  refine lv_if_ne (tgt := 10) C.1 C.2.1 dX10_off_5 (by decide) (fun h2 => ?_) (fun h2 => ?_)
  · have hw := hw.1 h2
    refine lv_aload_n C.1 C.2.1 dX10_off_10 rfl (lv_at hl 0 rfl) ?_
    refine gX10_47 C hP Nat.zero_lt_one dX10_off_11 ?_
    refine gX10_281 C hP (Nat.le_of_ble_eq_true rfl) dX10_off_14 ?_
    refine lv_iload_n C.1 C.2.1 dX10_off_17 rfl (lv_at hl 1 rfl) ?_
    obtain ⟨h3, hw⟩ := hw
    have hb3 : (4 * 0 + (a1 : Int32).toNatClampNeg) < 52 := by have h9 := vp_lt h3; have h8 := (rfl : 0 = 0); omega
    refine al_28 C hP (Nat.le_of_ble_eq_true rfl) h3 dX10_off_18 ?_
    refine lv_astore_n (lv' := [(2, .ref (g.2.1 (86 + (4 * 0 + (a1 : Int32).toNatClampNeg)))), (0, .ref (g.2.1 (0 + 0))), (1, .int a1)]) C.1 C.2.1 dX10_off_19 rfl hl (by decide) rfl (fun ls hl => ?_)
    refine lv_aload_n C.1 C.2.1 dX10_off_20 rfl (lv_at hl 1 rfl) ?_
    refine lv_aload_n C.1 C.2.1 dX10_off_21 rfl (lv_at hl 0 rfl) ?_
    refine gX10_307 C hP hb3 dX10_off_22 ?_
    refine goI (wf := (xw g)) (runV (w := xw g M1) (As := [.int (M1.1 30 (4 * 0 + (a1 : Int32).toNatClampNeg) 0)]) (rest := []) C lkX10_111 (c_X10_isBird l g C.2.2.2.2.2.2.2.2.2.2 ((M1.1 30 (4 * 0 + (a1 : Int32).toNatClampNeg) 0))  M1 _ hw) hP hS rfl rfl ⟨Nat.le_of_ble_eq_true rfl, Nat.le_of_ble_eq_true rfl⟩ (xx_0 Nat.zero_lt_one) rfl rfl hl.1 rfl (Nat.le_of_ble_eq_true rfl) dX10_off_25) hS (fun r4 M4 hw H locs hP hS => ?_)
    obtain ⟨hw, hz4⟩ := hw
    refine lv_if_eq (tgt := 49) C.1 C.2.1 dX10_off_28 (by decide) (fun h5 => ?_) (fun h5 => ?_)
    · have hw := hw.1 h5
      refine lv_bipush (v := (-2)) C.1 C.2.1 dX10_off_49 (by decide) ?_
      exact retI (wf := (xw g)) C hP hS hw dX10_off_51
    · have hw := hw.2 h5
      refine lv_aload_n C.1 C.2.1 dX10_off_31 rfl (lv_at hl 1 rfl) ?_
      obtain ⟨w6, h6, hb6, hw⟩ := hw
      refine gX10_23f C hP Nat.zero_lt_one h6 dX10_off_32 ?_
      refine gX10_127 C hP hb6 dX10_off_35 ?_
      refine lv_aload_n C.1 C.2.1 dX10_off_38 rfl (lv_at hl 0 rfl) ?_
      refine gX10_307 C hP hb3 dX10_off_39 ?_
      obtain ⟨h7, hw⟩ := hw
      have hb7 : (5 * w6 + ((M4.1 30 (4 * 0 + (a1 : Int32).toNatClampNeg) 0) : Int32).toNatClampNeg) < 10 := by have h9 := vp_lt h7; have h8 := hb6; omega
      refine al_24 C hP hb6 h7 dX10_off_42 ?_
      refine goI (wf := (xw g)) (runV (w := xw g M4) (As := []) (rest := []) C lkX10_228 (c_X0_isHeard l g C.2.2.2.2.2.2.2.2.2.2 ((5 * w6 + ((M4.1 30 (4 * 0 + (a1 : Int32).toNatClampNeg) 0) : Int32).toNatClampNeg)) hb7 M4 _ hw) hP hS rfl rfl ⟨Nat.le_of_ble_eq_true rfl, Nat.le_of_ble_eq_true rfl⟩ (xx_25 hb7) rfl rfl hl.1 rfl (Nat.le_of_ble_eq_true rfl) dX10_off_43) hS (fun r8 M8 hw H locs hP hS => ?_)
      obtain ⟨hw, hz8⟩ := hw
      refine lv_if_ne (tgt := 52) C.1 C.2.1 dX10_off_46 (by decide) (fun h9 => ?_) (fun h9 => ?_)
      · have hw := hw.1 h9
        refine lv_aload_n C.1 C.2.1 dX10_off_52 rfl (lv_at hl 0 rfl) ?_
        refine gX10_304 C hP hb3 dX10_off_53 ?_
        refine lv_sipush (v := 199) C.1 C.2.1 dX10_off_56 (by decide) ?_
        refine va_mmin C.1 C.2.1 (C.2.2.1.trans hl.1.symm) C.2.2.2.2.1 (C.2.2.2.2.2.1 _ (bg_of 905 (by decide +kernel) rfl)) (C.2.2.2.2.2.1 _ (bg_of 638 (by decide +kernel) rfl)) (C.2.2.2.2.2.1 _ (bg_of 108 (by decide +kernel) rfl)) (C.2.2.2.2.2.1 _ (bg_of 639 (by decide +kernel) rfl)) (Nat.le_of_ble_eq_true rfl) (Nat.le_of_ble_eq_true rfl) (Nat.zero_le _) (Nat.zero_le _) dX10_off_59 ?_
        refine lv_topi (fun x10 e10 => ?_)
        have hw := hw x10 e10
        refine lv_istore_n (lv' := [(3, .int x10), (2, .ref (g.2.1 (86 + (4 * 0 + (a1 : Int32).toNatClampNeg)))), (0, .ref (g.2.1 (0 + 0))), (1, .int a1)]) C.1 C.2.1 dX10_off_62 rfl hl (by decide) rfl (fun ls hl => ?_)
        refine lv_aload_n C.1 C.2.1 dX10_off_63 rfl (lv_at hl 1 rfl) ?_
        refine goI (wf := (xw g)) (runV (w := xw g M8) (As := []) (rest := []) C lkX10_301 (c_X1_startOfPoint l g C.2.2.2.2.2.2.2.2.2.2 ((4 * 0 + (a1 : Int32).toNatClampNeg)) hb3 M8 _ hw) hP hS rfl rfl ⟨Nat.le_of_ble_eq_true rfl, Nat.le_of_ble_eq_true rfl⟩ (xx_30 hb3) rfl rfl hl.1 rfl (Nat.le_of_ble_eq_true rfl) dX10_off_64) hS (fun r11 M11 hw H locs hP hS => ?_)
        refine lv_aload_n C.1 C.2.1 dX10_off_67 rfl (lv_at hl 2 rfl) ?_
        obtain ⟨w12, h12, hb12, hw⟩ := hw
        refine gX10_23f C hP Nat.zero_lt_one h12 dX10_off_68 ?_
        refine gX10_127 C hP hb12 dX10_off_71 ?_
        refine lv_aload_n C.1 C.2.1 dX10_off_74 rfl (lv_at hl 1 rfl) ?_
        refine gX10_307 C hP hb3 dX10_off_75 ?_
        obtain ⟨h13, hw⟩ := hw
        have hb13 : (5 * w12 + ((M11.1 30 (4 * 0 + (a1 : Int32).toNatClampNeg) 0) : Int32).toNatClampNeg) < 10 := by have h9 := vp_lt h13; have h8 := hb12; omega
        refine al_24 C hP hb12 h13 dX10_off_78 ?_
        refine lv_iload_n C.1 C.2.1 dX10_off_79 rfl (lv_at hl 0 rfl) ?_
        refine goI (wf := (xw g)) (runV (w := xw g M11) (As := [.int x10]) (rest := [.int r11]) C lkX10_238 (c_X0_startIn l g C.2.2.2.2.2.2.2.2.2.2 ((5 * w12 + ((M11.1 30 (4 * 0 + (a1 : Int32).toNatClampNeg) 0) : Int32).toNatClampNeg)) x10 hb13 M11 _ hw) hP hS rfl rfl ⟨Nat.le_of_ble_eq_true rfl, Nat.le_of_ble_eq_true rfl⟩ (xx_25 hb13) rfl rfl hl.1 rfl (Nat.le_of_ble_eq_true rfl) dX10_off_80) hS (fun r14 M14 hw H locs hP hS => ?_)
        refine lv_bipush (v := 62) C.1 C.2.1 dX10_off_83 (by decide) ?_
        refine lv_irem C.1 C.2.1 dX10_off_85 (by decide) ?_
        refine goI (wf := (xw g)) (runS (w := xw g M14) (As := [.int r11, .int (r14 - r14 / 62 * 62)]) (rest := []) C lkX10_365 (c_X10_apart l g C.2.2.2.2.2.2.2.2.2.2 r11 ((r14 - r14 / 62 * 62))  M14 _ hw) hP hS rfl rfl ⟨Nat.le_of_ble_eq_true rfl, Nat.le_of_ble_eq_true rfl⟩ hl.1 rfl (Nat.le_of_ble_eq_true rfl) dX10_off_86) hS (fun r15 M15 hw H locs hP hS => ?_)
        exact retI (wf := (xw g)) C hP hS hw dX10_off_89
      · have hw := hw.2 h9
        refine lv_bipush (v := (-2)) C.1 C.2.1 dX10_off_49 (by decide) ?_
        exact retI (wf := (xw g)) C hP hS hw dX10_off_51
  · have hw := hw.2 h2
    refine lv_iconst (v := (-1)) C.1 C.2.1 dX10_off_8 (by decide) ?_
    exact retI (wf := (xw g)) C hP hS hw dX10_off_9
def b_X10_tried_109 (Q : Int32 → Mem → Prop) (k60 : Int32 → Int32 → Int32 → Mem → Prop) (v2 : Int32) (v4 : Int32) (s0 : Int32) (s1 : Int32) (M : Mem) : Prop := (∀ x12 : Int32, x12 = (s0 + s1) → (∀ x13 : Int32, x13 = (v4 + 1) → (k60 v2 x12 x13 M)))
set_option maxRecDepth 100000 in
set_option maxHeartbeats 4000000 in
theorem k_X10_tried_109 {p : Program} {l : Launch} {e : Env} {s : State} {m : MethodId} {args : Array Value} {below : List Frame} {meth : Method} {c : Code} {g : Geo} (C : CX g p s m args meth c cX10_tried 5 (some .int) RX10) {Q : Int32 → Mem → Prop} {k60 : Int32 → Int32 → Int32 → Mem → Prop} (hk60 : ∀ (v2 : Int32) (v3 : Int32) (v4 : Int32) (M : Mem), k60 v2 v3 v4 M → ∀ (H : Heap) (locs : List Loc) (ls : Array Slot), lv_has ls 5 [(0, .ref (g.2.1 (0 + 0))), (2, .int v2), (3, .int v3), (4, .int v4)] → va_P g.1 clz (xw g M) H → va_S (Af 0 g) s.heap H locs → W p l e ({ frames := 6, cells := 0, slots := 0, locals := 148 } : Room) s m args below meth c H locs 0 0 (MQ below (va_Qi Q (PB g (xw g)) (Af 0 g)) args s 0 0 (Af 0 g)) (F0 m 60 ls [])) (v2 : Int32) (v4 : Int32) (s0 : Int32) (s1 : Int32) (M : Mem) (hw : b_X10_tried_109 Q k60 v2 v4 s0 s1 M) {H : Heap} {locs : List Loc} {ls : Array Slot} (hl : lv_has ls 5 [(0, .ref (g.2.1 (0 + 0))), (2, .int v2), (4, .int v4)]) (hP : va_P g.1 clz (xw g M) H) (hS : va_S (Af 0 g) s.heap H locs) : W p l e ({ frames := 6, cells := 0, slots := 0, locals := 148 } : Room) s m args below meth c H locs 0 0 (MQ below (va_Qi Q (PB g (xw g)) (Af 0 g)) args s 0 0 (Af 0 g)) (F0 m 109 ls [.int s1, .int s0]) := by
  unfold b_X10_tried_109 at hw
  refine lv_iadd C.1 C.2.1 dX10_tried_109 ?_
  refine lv_topi (fun x12 e12 => ?_)
  have hw := hw x12 e12
  refine lv_istore_n (lv' := [(3, .int x12), (0, .ref (g.2.1 (0 + 0))), (2, .int v2), (4, .int v4)]) C.1 C.2.1 dX10_tried_110 rfl hl (by decide) rfl (fun ls hl => ?_)
  obtain ⟨x13, e13⟩ : ∃ y : Int32, y = (v4 + 1) := ⟨_, rfl⟩
  have hw := hw x13 e13
  refine lv_iinc (v := x13) (lv' := [(4, .int x13), (3, .int x12), (0, .ref (g.2.1 (0 + 0))), (2, .int v2)]) C.1 C.2.1 dX10_tried_111 hl (k := 3) rfl (by rw [e13]; rfl) (by decide) rfl (fun ls hl => ?_)
  refine lv_goto (tgt := 60) C.1 C.2.1 dX10_tried_114 (by decide) ?_
  exact hk60 v2 x12 x13  _ hw _ _ _ (lv_sub hl [2, 3, 1, 0] rfl) hP hS
def b_X10_tried_60 (Q : Int32 → Mem → Prop) : Nat → Int32 → Int32 → Int32 → Mem → Prop
  | 0, _, _, _, _ => False
  | n + 1, v2, v3, v4, M => (((M.1 27 2 1) ≤ v4 → (Q v3 M)) ∧ (¬ (M.1 27 2 1) ≤ v4 → (vp_in v4 4 ∧ (p_X10_readFrames ((4 * 2 + (v4 : Int32).toNatClampNeg)) M (fun M10 => ((¬ v2 = 1 → (b_X10_tried_109 Q (fun v2 v3 v4 M => b_X10_tried_60 Q n v2 v3 v4 M) v2 v4 v3 ((M10.1 13 0 1)) M10)) ∧ (v2 = 1 → (b_X10_tried_109 Q (fun v2 v3 v4 M => b_X10_tried_60 Q n v2 v3 v4 M) v2 v4 v3 ((M10.1 13 0 0)) M10))))))))
set_option maxRecDepth 100000 in
set_option maxHeartbeats 4000000 in
theorem k_X10_tried_60 {p : Program} {l : Launch} {e : Env} {s : State} {m : MethodId} {args : Array Value} {below : List Frame} {meth : Method} {c : Code} {g : Geo} (C : CX g p s m args meth c cX10_tried 5 (some .int) RX10) {Q : Int32 → Mem → Prop} : ∀ (n : Nat) (v2 : Int32) (v3 : Int32) (v4 : Int32) (M : Mem) (hw : b_X10_tried_60 Q n v2 v3 v4 M) {H : Heap} {locs : List Loc} {ls : Array Slot} (hl : lv_has ls 5 [(0, .ref (g.2.1 (0 + 0))), (2, .int v2), (3, .int v3), (4, .int v4)]) (hP : va_P g.1 clz (xw g M) H) (hS : va_S (Af 0 g) s.heap H locs), W p l e ({ frames := 6, cells := 0, slots := 0, locals := 148 } : Room) s m args below meth c H locs 0 0 (MQ below (va_Qi Q (PB g (xw g)) (Af 0 g)) args s 0 0 (Af 0 g)) (F0 m 60 ls []) := by
  intro n
  induction n with
  | zero => intro v2 v3 v4 M hw H locs ls hl hP hS; exact absurd hw (by rw [b_X10_tried_60]; exact fun h => h)
  | succ n ih =>
    intro v2 v3 v4 M hw H locs ls hl hP hS
    rw [b_X10_tried_60] at hw
    refine lv_iload C.1 C.2.1 dX10_tried_60 (lv_at hl 3 rfl) ?_
    refine lv_aload_n C.1 C.2.1 dX10_tried_62 rfl (lv_at hl 0 rfl) ?_
    refine gX10_54 C hP Nat.zero_lt_one dX10_tried_63 ?_
    refine gX10_274 C hP (Nat.le_of_ble_eq_true rfl) dX10_tried_66 ?_
    refine lv_icmp_ge (tgt := 117) C.1 C.2.1 dX10_tried_69 (by decide) (fun h8 => ?_) (fun h8 => ?_)
    · have hw := hw.1 h8
      refine lv_iload_n C.1 C.2.1 dX10_tried_117 rfl (lv_at hl 2 rfl) ?_
      exact retI (wf := (xw g)) C hP hS hw dX10_tried_118
    · have hw := hw.2 h8
      refine lv_aload_n C.1 C.2.1 dX10_tried_72 rfl (lv_at hl 0 rfl) ?_
      refine lv_aload_n C.1 C.2.1 dX10_tried_73 rfl (lv_at hl 0 rfl) ?_
      refine gX10_54 C hP Nat.zero_lt_one dX10_tried_74 ?_
      refine gX10_281 C hP (Nat.le_of_ble_eq_true rfl) dX10_tried_77 ?_
      refine lv_iload C.1 C.2.1 dX10_tried_80 (lv_at hl 3 rfl) ?_
      obtain ⟨h9, hw⟩ := hw
      have hb9 : (4 * 2 + (v4 : Int32).toNatClampNeg) < 52 := by have h9 := vp_lt h9; have h8 := (rfl : 0 = 0); omega
      refine al_28 C hP (Nat.le_of_ble_eq_true rfl) h9 dX10_tried_82 ?_
      refine goV (wf := (xw g)) (runV (w := xw g M) (As := [.ref (g.2.1 (86 + (4 * 2 + (v4 : Int32).toNatClampNeg)))]) (rest := []) C lkX10_348 (c_X10_readFrames l g C.2.2.2.2.2.2.2.2.2.2 ((4 * 2 + (v4 : Int32).toNatClampNeg)) hb9 M _ hw) hP hS rfl rfl ⟨Nat.le_of_ble_eq_true rfl, Nat.le_of_ble_eq_true rfl⟩ (xx_0 Nat.zero_lt_one) rfl rfl hl.1 rfl (Nat.le_of_ble_eq_true rfl) dX10_tried_83) hS (fun M10 hw H locs hP hS => ?_)
      refine lv_iload_n C.1 C.2.1 dX10_tried_86 rfl (lv_at hl 2 rfl) ?_
      refine lv_iload_n C.1 C.2.1 dX10_tried_87 rfl (lv_at hl 1 rfl) ?_
      refine lv_iconst (v := 1) C.1 C.2.1 dX10_tried_88 (by decide) ?_
      refine lv_icmp_ne (tgt := 102) C.1 C.2.1 dX10_tried_89 (by decide) (fun h11 => ?_) (fun h11 => ?_)
      · have hw := hw.1 h11
        refine lv_aload_n C.1 C.2.1 dX10_tried_102 rfl (lv_at hl 0 rfl) ?_
        refine gX10_67 C hP Nat.zero_lt_one dX10_tried_103 ?_
        refine gX10_356 C hP Nat.zero_lt_one dX10_tried_106 ?_
        exact k_X10_tried_109 (Q := Q) C (fun v2 v3 v4  M hw H locs ls hl hP hS => ih v2 v3 v4  M hw hl hP hS) v2 v4 v3 ((M10.1 13 0 1))  _ hw (lv_sub hl [0, 1, 3] rfl) hP hS
      · have hw := hw.2 h11
        refine lv_aload_n C.1 C.2.1 dX10_tried_92 rfl (lv_at hl 0 rfl) ?_
        refine gX10_67 C hP Nat.zero_lt_one dX10_tried_93 ?_
        refine gX10_351 C hP Nat.zero_lt_one dX10_tried_96 ?_
        refine lv_goto (tgt := 109) C.1 C.2.1 dX10_tried_99 (by decide) ?_
        exact k_X10_tried_109 (Q := Q) C (fun v2 v3 v4  M hw H locs ls hl hP hS => ih v2 v3 v4  M hw hl hP hS) v2 v4 v3 ((M10.1 13 0 0))  _ hw (lv_sub hl [0, 1, 3] rfl) hP hS
def p_X10_tried (a1 : Int32) (a2 : Int32) (M : Mem) (Q : Int32 → Mem → Prop) : Prop := ((a1 < 1 → (Q (-1) M)) ∧ (¬ a1 < 1 → ((40 < a1 → (Q (-1) M)) ∧ (¬ 40 < a1 → ((a2 < 0 → (Q (-1) M)) ∧ (¬ a2 < 0 → ((a2 ≤ 2 → (p_X8_copyFrom 2 0 M (fun M5 => (p_X10_followAll 2 a1 M5 (fun r6 M6 => ((¬ a2 = 0 → (∃ n60 : Nat, b_X10_tried_60 Q n60 a2 0 0 M6)) ∧ (a2 = 0 → (p_X8_howManyLost 2 M6 (fun r14 M14 => (Q r14 M14)))))))))) ∧ (¬ a2 ≤ 2 → (Q (-1) M)))))))))
set_option maxRecDepth 100000 in
set_option maxHeartbeats 4000000 in
theorem c_X10_tried (l : Launch) (g : Geo) (gi : GI g) (a1 : Int32) (a2 : Int32) (M : Mem) (Q : Int32 → Mem → Prop) (hw : p_X10_tried a1 a2 M Q) : Met l yX10_tried (Cond.code yX10_tried cX10_tried 5 (some .int) :: bg) ({ frames := 6, cells := 0, slots := 0, locals := 148 } : Room) (va_Pc [.ref (g.2.1 (0 + 0)), .int a1, .int a2] (PW g (xw g M))) (va_Qi Q (PB g (xw g)) (Af 0 g)) 0 0 (Af 0 g) := by
  refine Met.ofW (cc := cX10_tried) (maxL := 5) (ret := (some .int)) (by decide +kernel) rfl ?_
  intro p e s m args below meth c s₁ B hml hv
  obtain ⟨rfl, hv⟩ := hv
  have C := CX.start (own := RX10) B hml rfl gi hv
  have hP := hv.1
  have hS : va_S (Af 0 g) s.heap s.heap [] := va_S.rf
  have hl := lv_entry ([.ref (g.2.1 (0 + 0)), .int a1, .int a2]) (n := 5) (Nat.le_of_ble_eq_true rfl)
  rw [lg_entry_eq]
  generalize (lg_sl ([.ref (g.2.1 (0 + 0)), .int a1, .int a2]) ++ List.replicate (5 - (lg_sl ([.ref (g.2.1 (0 + 0)), .int a1, .int a2])).length) Slot.unset).toArray = ls at hl ⊢
  have hl : lv_has ls 5 [(0, .ref (g.2.1 (0 + 0))), (1, .int a1), (2, .int a2)] := hl
  unfold p_X10_tried at hw
  refine lv_iload_n C.1 C.2.1 dX10_tried_0 rfl (lv_at hl 1 rfl) ?_
  refine lv_iconst (v := 1) C.1 C.2.1 dX10_tried_1 (by decide) ?_
  refine lv_icmp_lt (tgt := 20) C.1 C.2.1 dX10_tried_2 (by decide) (fun h1 => ?_) (fun h1 => ?_)
  · have hw := hw.1 h1
    refine lv_iconst (v := (-1)) C.1 C.2.1 dX10_tried_20 (by decide) ?_
    exact retI (wf := (xw g)) C hP hS hw dX10_tried_21
  · have hw := hw.2 h1
    refine lv_iload_n C.1 C.2.1 dX10_tried_5 rfl (lv_at hl 1 rfl) ?_
    refine lv_bipush (v := 40) C.1 C.2.1 dX10_tried_6 (by decide) ?_
    refine lv_icmp_gt (tgt := 20) C.1 C.2.1 dX10_tried_8 (by decide) (fun h2 => ?_) (fun h2 => ?_)
    · have hw := hw.1 h2
      refine lv_iconst (v := (-1)) C.1 C.2.1 dX10_tried_20 (by decide) ?_
      exact retI (wf := (xw g)) C hP hS hw dX10_tried_21
    · have hw := hw.2 h2
      refine lv_iload_n C.1 C.2.1 dX10_tried_11 rfl (lv_at hl 2 rfl) ?_
      refine lv_if_lt (tgt := 20) C.1 C.2.1 dX10_tried_12 (by decide) (fun h3 => ?_) (fun h3 => ?_)
      · have hw := hw.1 h3
        refine lv_iconst (v := (-1)) C.1 C.2.1 dX10_tried_20 (by decide) ?_
        exact retI (wf := (xw g)) C hP hS hw dX10_tried_21
      · have hw := hw.2 h3
        refine lv_iload_n C.1 C.2.1 dX10_tried_15 rfl (lv_at hl 2 rfl) ?_
        refine lv_iconst (v := 2) C.1 C.2.1 dX10_tried_16 (by decide) ?_
        refine lv_icmp_le (tgt := 22) C.1 C.2.1 dX10_tried_17 (by decide) (fun h4 => ?_) (fun h4 => ?_)
        · have hw := hw.1 h4
          refine lv_aload_n C.1 C.2.1 dX10_tried_22 rfl (lv_at hl 0 rfl) ?_
          refine gX10_54 C hP Nat.zero_lt_one dX10_tried_23 ?_
          refine lv_aload_n C.1 C.2.1 dX10_tried_26 rfl (lv_at hl 0 rfl) ?_
          refine gX10_47 C hP Nat.zero_lt_one dX10_tried_27 ?_
          refine goV (wf := (xw g)) (runV (w := xw g M) (As := [.ref (g.2.1 (47 + 0))]) (rest := []) C lkX10_368 (c_X8_copyFrom l g C.2.2.2.2.2.2.2.2.2.2 2 0 (Nat.le_of_ble_eq_true rfl) (Nat.le_of_ble_eq_true rfl) M _ hw) hP hS rfl rfl ⟨Nat.le_of_ble_eq_true rfl, Nat.le_of_ble_eq_true rfl⟩ (xx_27 (Nat.le_of_ble_eq_true rfl)) rfl rfl hl.1 rfl (Nat.le_of_ble_eq_true rfl) dX10_tried_30) hS (fun M5 hw H locs hP hS => ?_)
          refine lv_aload_n C.1 C.2.1 dX10_tried_33 rfl (lv_at hl 0 rfl) ?_
          refine lv_aload_n C.1 C.2.1 dX10_tried_34 rfl (lv_at hl 0 rfl) ?_
          refine gX10_54 C hP Nat.zero_lt_one dX10_tried_35 ?_
          refine lv_iload_n C.1 C.2.1 dX10_tried_38 rfl (lv_at hl 1 rfl) ?_
          refine goI (wf := (xw g)) (runV (w := xw g M5) (As := [.ref (g.2.1 (47 + 2)), .int a1]) (rest := []) C lkX10_290 (c_X10_followAll l g C.2.2.2.2.2.2.2.2.2.2 2 a1 (Nat.le_of_ble_eq_true rfl) M5 _ hw) hP hS rfl rfl ⟨Nat.le_of_ble_eq_true rfl, Nat.le_of_ble_eq_true rfl⟩ (xx_0 Nat.zero_lt_one) rfl rfl hl.1 rfl (Nat.le_of_ble_eq_true rfl) dX10_tried_39) hS (fun r6 M6 hw H locs hP hS => ?_)
          refine lv_pop C.1 C.2.1 dX10_tried_42 rfl ?_
          refine lv_iload_n C.1 C.2.1 dX10_tried_43 rfl (lv_at hl 2 rfl) ?_
          refine lv_if_ne (tgt := 55) C.1 C.2.1 dX10_tried_44 (by decide) (fun h7 => ?_) (fun h7 => ?_)
          · have hw := hw.1 h7
            refine lv_iconst (v := 0) C.1 C.2.1 dX10_tried_55 (by decide) ?_
            refine lv_istore_n (lv' := [(3, .int 0), (0, .ref (g.2.1 (0 + 0))), (1, .int a1), (2, .int a2)]) C.1 C.2.1 dX10_tried_56 rfl hl (by decide) rfl (fun ls hl => ?_)
            refine lv_iconst (v := 0) C.1 C.2.1 dX10_tried_57 (by decide) ?_
            refine lv_istore (lv' := [(4, .int 0), (3, .int 0), (0, .ref (g.2.1 (0 + 0))), (1, .int a1), (2, .int a2)]) C.1 C.2.1 dX10_tried_58 hl (by decide) rfl (fun ls hl => ?_)
            obtain ⟨n9, hw⟩ := hw
            exact k_X10_tried_60 (Q := Q) C n9 a2 0 0  _ hw (lv_sub hl [2, 4, 1, 0] rfl) hP hS
          · have hw := hw.2 h7
            refine lv_aload_n C.1 C.2.1 dX10_tried_47 rfl (lv_at hl 0 rfl) ?_
            refine gX10_54 C hP Nat.zero_lt_one dX10_tried_48 ?_
            refine goI (wf := (xw g)) (runV (w := xw g M6) (As := []) (rest := []) C lkX10_371 (c_X8_howManyLost l g C.2.2.2.2.2.2.2.2.2.2 2 (Nat.le_of_ble_eq_true rfl) M6 _ hw) hP hS rfl rfl ⟨Nat.le_of_ble_eq_true rfl, Nat.le_of_ble_eq_true rfl⟩ (xx_27 (Nat.le_of_ble_eq_true rfl)) rfl rfl hl.1 rfl (Nat.le_of_ble_eq_true rfl) dX10_tried_51) hS (fun r14 M14 hw H locs hP hS => ?_)
            exact retI (wf := (xw g)) C hP hS hw dX10_tried_54
        · have hw := hw.2 h4
          refine lv_iconst (v := (-1)) C.1 C.2.1 dX10_tried_20 (by decide) ?_
          exact retI (wf := (xw g)) C hP hS hw dX10_tried_21
def p_X10_range (a1 : Int32) (a2 : Int32) (M : Mem) (Q : Int32 → Mem → Prop) : Prop := (p_X10_isBird a1 M (fun r1 M1 => ((r1 = 0 → (Q (-2) M1)) ∧ (¬ r1 = 0 → ((a2 < (-1) → (Q (-2) M1)) ∧ (¬ a2 < (-1) → ((a2 ≤ 400 → (p_X5_push 0 M1 (fun M5 => (vp_in a1 5 ∧ (∀ x7 : Int32, x7 = (M5.1 29 0 (a1 : Int32).toNatClampNeg) → (vp_in a1 5 ∧ (∀ M8 : Mem, M8 = sI M5 29 0 (a1 : Int32).toNatClampNeg a2 → (Q x7 M8)))))))) ∧ (¬ a2 ≤ 400 → (Q (-2) M1)))))))))
set_option maxRecDepth 100000 in
set_option maxHeartbeats 4000000 in
theorem c_X10_range (l : Launch) (g : Geo) (gi : GI g) (a1 : Int32) (a2 : Int32) (M : Mem) (Q : Int32 → Mem → Prop) (hw : p_X10_range a1 a2 M Q) : Met l yX10_range (Cond.code yX10_range cX10_range 4 (some .int) :: bg) ({ frames := 3, cells := 0, slots := 0, locals := 64 } : Room) (va_Pc [.ref (g.2.1 (0 + 0)), .int a1, .int a2] (PW g (xw g M))) (va_Qi Q (PB g (xw g)) (Af 0 g)) 0 0 (Af 0 g) := by
  refine Met.ofW (cc := cX10_range) (maxL := 4) (ret := (some .int)) (by decide +kernel) rfl ?_
  intro p e s m args below meth c s₁ B hml hv
  obtain ⟨rfl, hv⟩ := hv
  have C := CX.start (own := RX10) B hml rfl gi hv
  have hP := hv.1
  have hS : va_S (Af 0 g) s.heap s.heap [] := va_S.rf
  have hl := lv_entry ([.ref (g.2.1 (0 + 0)), .int a1, .int a2]) (n := 4) (Nat.le_of_ble_eq_true rfl)
  rw [lg_entry_eq]
  generalize (lg_sl ([.ref (g.2.1 (0 + 0)), .int a1, .int a2]) ++ List.replicate (4 - (lg_sl ([.ref (g.2.1 (0 + 0)), .int a1, .int a2])).length) Slot.unset).toArray = ls at hl ⊢
  have hl : lv_has ls 4 [(0, .ref (g.2.1 (0 + 0))), (1, .int a1), (2, .int a2)] := hl
  unfold p_X10_range at hw
  refine lv_aload_n C.1 C.2.1 dX10_range_0 rfl (lv_at hl 0 rfl) ?_
  refine lv_iload_n C.1 C.2.1 dX10_range_1 rfl (lv_at hl 1 rfl) ?_
  refine goI (wf := (xw g)) (runV (w := xw g M) (As := [.int a1]) (rest := []) C lkX10_111 (c_X10_isBird l g C.2.2.2.2.2.2.2.2.2.2 a1  M _ hw) hP hS rfl rfl ⟨Nat.le_of_ble_eq_true rfl, Nat.le_of_ble_eq_true rfl⟩ (xx_0 Nat.zero_lt_one) rfl rfl hl.1 rfl (Nat.le_of_ble_eq_true rfl) dX10_range_2) hS (fun r1 M1 hw H locs hP hS => ?_)
  obtain ⟨hw, hz1⟩ := hw
  refine lv_if_eq (tgt := 20) C.1 C.2.1 dX10_range_5 (by decide) (fun h2 => ?_) (fun h2 => ?_)
  · have hw := hw.1 h2
    refine lv_bipush (v := (-2)) C.1 C.2.1 dX10_range_20 (by decide) ?_
    exact retI (wf := (xw g)) C hP hS hw dX10_range_22
  · have hw := hw.2 h2
    refine lv_iload_n C.1 C.2.1 dX10_range_8 rfl (lv_at hl 2 rfl) ?_
    refine lv_iconst (v := (-1)) C.1 C.2.1 dX10_range_9 (by decide) ?_
    refine lv_icmp_lt (tgt := 20) C.1 C.2.1 dX10_range_10 (by decide) (fun h3 => ?_) (fun h3 => ?_)
    · have hw := hw.1 h3
      refine lv_bipush (v := (-2)) C.1 C.2.1 dX10_range_20 (by decide) ?_
      exact retI (wf := (xw g)) C hP hS hw dX10_range_22
    · have hw := hw.2 h3
      refine lv_iload_n C.1 C.2.1 dX10_range_13 rfl (lv_at hl 2 rfl) ?_
      refine lv_sipush (v := 400) C.1 C.2.1 dX10_range_14 (by decide) ?_
      refine lv_icmp_le (tgt := 23) C.1 C.2.1 dX10_range_17 (by decide) (fun h4 => ?_) (fun h4 => ?_)
      · have hw := hw.1 h4
        refine lv_aload_n C.1 C.2.1 dX10_range_23 rfl (lv_at hl 0 rfl) ?_
        refine gX10_60 C hP Nat.zero_lt_one dX10_range_24 ?_
        refine lv_aload_n C.1 C.2.1 dX10_range_27 rfl (lv_at hl 0 rfl) ?_
        refine gX10_47 C hP Nat.zero_lt_one dX10_range_28 ?_
        refine goV (wf := (xw g)) (runV (w := xw g M1) (As := [.ref (g.2.1 (47 + 0))]) (rest := []) C lkX10_277 (c_X5_push l g C.2.2.2.2.2.2.2.2.2.2 0 (Nat.le_of_ble_eq_true rfl) M1 _ hw) hP hS rfl rfl ⟨Nat.le_of_ble_eq_true rfl, Nat.le_of_ble_eq_true rfl⟩ (xx_21 Nat.zero_lt_one) rfl rfl hl.1 rfl (Nat.le_of_ble_eq_true rfl) dX10_range_31) hS (fun M5 hw H locs hP hS => ?_)
        refine lv_aload_n C.1 C.2.1 dX10_range_34 rfl (lv_at hl 0 rfl) ?_
        refine gX10_47 C hP Nat.zero_lt_one dX10_range_35 ?_
        refine gX10_374 C hP (Nat.le_of_ble_eq_true rfl) dX10_range_38 ?_
        refine lv_iload_n C.1 C.2.1 dX10_range_41 rfl (lv_at hl 1 rfl) ?_
        obtain ⟨h6, hw⟩ := hw
        refine al_29 C hP (Nat.le_of_ble_eq_true rfl) h6 dX10_range_42 ?_
        refine lv_topi (fun x7 e7 => ?_)
        have hw := hw x7 e7
        refine lv_istore_n (lv' := [(3, .int x7), (0, .ref (g.2.1 (0 + 0))), (1, .int a1), (2, .int a2)]) C.1 C.2.1 dX10_range_43 rfl hl (by decide) rfl (fun ls hl => ?_)
        refine lv_aload_n C.1 C.2.1 dX10_range_44 rfl (lv_at hl 1 rfl) ?_
        refine gX10_47 C hP Nat.zero_lt_one dX10_range_45 ?_
        refine gX10_374 C hP (Nat.le_of_ble_eq_true rfl) dX10_range_48 ?_
        refine lv_iload_n C.1 C.2.1 dX10_range_51 rfl (lv_at hl 2 rfl) ?_
        refine lv_iload_n C.1 C.2.1 dX10_range_52 rfl (lv_at hl 3 rfl) ?_
        obtain ⟨h8, hw⟩ := hw
        refine as_29 C hP hS (Nat.le_of_ble_eq_true rfl) h8 dX10_range_53 (fun M8 e8 H locs hP hS => ?_)
        have hw := hw M8 e8
        refine lv_iload_n C.1 C.2.1 dX10_range_54 rfl (lv_at hl 0 rfl) ?_
        exact retI (wf := (xw g)) C hP hS hw dX10_range_55
      · have hw := hw.2 h4
        refine lv_bipush (v := (-2)) C.1 C.2.1 dX10_range_20 (by decide) ?_
        exact retI (wf := (xw g)) C hP hS hw dX10_range_22
