def p_X10_bit (a1 : Int32) (a2 : Int32) (M : Mem) (Q : Int32 → Mem → Prop) : Prop := (p_X10_isBird a1 M (fun r1 M1 => ((r1 = 0 → (Q (-1) M1)) ∧ (¬ r1 = 0 → ((a2 < 0 → (Q (-1) M1)) ∧ (¬ a2 < 0 → ((a2 ≤ 199 → (∃ w5 : Nat, M1.2.2 0 0 3 = some (23 + w5) ∧ w5 < 2 ∧ (vp_in a1 5 ∧ (p_X0_bitAt ((5 * w5 + (a1 : Int32).toNatClampNeg)) a2 M1 (fun r7 M7 => (Q r7 M7)))))) ∧ (¬ a2 ≤ 199 → (Q (-1) M1)))))))))
set_option maxRecDepth 100000 in
set_option maxHeartbeats 4000000 in
theorem c_X10_bit (l : Launch) (g : Geo) (gi : GI g) (a1 : Int32) (a2 : Int32) (M : Mem) (Q : Int32 → Mem → Prop) (hw : p_X10_bit a1 a2 M Q) : Met l yX10_bit (Cond.code yX10_bit cX10_bit 3 (some .int) :: bg) ({ frames := 1, cells := 0, slots := 0, locals := 22 } : Room) (va_Pc [.ref (g.2.1 (0 + 0)), .int a1, .int a2] (PW g (xw g M))) (va_Qi Q (PB g (xw g)) (Af 0 g)) 0 0 (Af 0 g) := by
  refine Met.ofW (cc := cX10_bit) (maxL := 3) (ret := (some .int)) (by decide +kernel) rfl ?_
  intro p e s m args below meth c s₁ B hml hv
  obtain ⟨rfl, hv⟩ := hv
  have C := CX.start (own := RX10) B hml rfl gi hv
  have hP := hv.1
  have hS : va_S (Af 0 g) s.heap s.heap [] := va_S.rf
  have hl := lv_entry ([.ref (g.2.1 (0 + 0)), .int a1, .int a2]) (n := 3) (Nat.le_of_ble_eq_true rfl)
  rw [lg_entry_eq]
  generalize (lg_sl ([.ref (g.2.1 (0 + 0)), .int a1, .int a2]) ++ List.replicate (3 - (lg_sl ([.ref (g.2.1 (0 + 0)), .int a1, .int a2])).length) Slot.unset).toArray = ls at hl ⊢
  have hl : lv_has ls 3 [(0, .ref (g.2.1 (0 + 0))), (1, .int a1), (2, .int a2)] := hl
  unfold p_X10_bit at hw
  refine lv_aload_n C.1 C.2.1 dX10_bit_0 rfl (lv_at hl 0 rfl) ?_
  refine lv_iload_n C.1 C.2.1 dX10_bit_1 rfl (lv_at hl 1 rfl) ?_
  refine goI (wf := (xw g)) (runV (w := xw g M) (As := [.int a1]) (rest := []) C lkX10_111 (c_X10_isBird l g C.2.2.2.2.2.2.2.2.2.2 a1  M _ hw) hP hS rfl rfl ⟨Nat.le_of_ble_eq_true rfl, Nat.le_of_ble_eq_true rfl⟩ (xx_0 Nat.zero_lt_one) rfl rfl hl.1 rfl (Nat.le_of_ble_eq_true rfl) dX10_bit_2) hS (fun r1 M1 hw H locs hP hS => ?_)
  obtain ⟨hw, hz1⟩ := hw
  refine lv_if_eq (tgt := 19) C.1 C.2.1 dX10_bit_5 (by decide) (fun h2 => ?_) (fun h2 => ?_)
  · have hw := hw.1 h2
    refine lv_iconst (v := (-1)) C.1 C.2.1 dX10_bit_19 (by decide) ?_
    exact retI (wf := (xw g)) C hP hS hw dX10_bit_20
  · have hw := hw.2 h2
    refine lv_iload_n C.1 C.2.1 dX10_bit_8 rfl (lv_at hl 2 rfl) ?_
    refine lv_if_lt (tgt := 19) C.1 C.2.1 dX10_bit_9 (by decide) (fun h3 => ?_) (fun h3 => ?_)
    · have hw := hw.1 h3
      refine lv_iconst (v := (-1)) C.1 C.2.1 dX10_bit_19 (by decide) ?_
      exact retI (wf := (xw g)) C hP hS hw dX10_bit_20
    · have hw := hw.2 h3
      refine lv_iload_n C.1 C.2.1 dX10_bit_12 rfl (lv_at hl 2 rfl) ?_
      refine lv_sipush (v := 199) C.1 C.2.1 dX10_bit_13 (by decide) ?_
      refine lv_icmp_le (tgt := 21) C.1 C.2.1 dX10_bit_16 (by decide) (fun h4 => ?_) (fun h4 => ?_)
      · have hw := hw.1 h4
        refine lv_aload_n C.1 C.2.1 dX10_bit_21 rfl (lv_at hl 0 rfl) ?_
        obtain ⟨w5, h5, hb5, hw⟩ := hw
        refine gX10_23f C hP Nat.zero_lt_one h5 dX10_bit_22 ?_
        refine gX10_127 C hP hb5 dX10_bit_25 ?_
        refine lv_iload_n C.1 C.2.1 dX10_bit_28 rfl (lv_at hl 1 rfl) ?_
        obtain ⟨h6, hw⟩ := hw
        have hb6 : (5 * w5 + (a1 : Int32).toNatClampNeg) < 10 := by have h9 := vp_lt h6; have h8 := hb5; omega
        refine al_24 C hP hb5 h6 dX10_bit_29 ?_
        refine lv_iload_n C.1 C.2.1 dX10_bit_30 rfl (lv_at hl 2 rfl) ?_
        refine goI (wf := (xw g)) (runV (w := xw g M1) (As := [.int a2]) (rest := []) C lkX10_185 (c_X0_bitAt l g C.2.2.2.2.2.2.2.2.2.2 ((5 * w5 + (a1 : Int32).toNatClampNeg)) a2 hb6 M1 _ hw) hP hS rfl rfl ⟨Nat.le_of_ble_eq_true rfl, Nat.le_of_ble_eq_true rfl⟩ (xx_25 hb6) rfl rfl hl.1 rfl (Nat.le_of_ble_eq_true rfl) dX10_bit_31) hS (fun r7 M7 hw H locs hP hS => ?_)
        exact retI (wf := (xw g)) C hP hS hw dX10_bit_34
      · have hw := hw.2 h4
        refine lv_iconst (v := (-1)) C.1 C.2.1 dX10_bit_19 (by decide) ?_
        exact retI (wf := (xw g)) C hP hS hw dX10_bit_20
def p_X10_sum (a1 : Int32) (a2 : Int32) (a3 : Int32) (a4 : Int32) (a5 : Int32) (M : Mem) (Q : Int32 → Mem → Prop) : Prop := (p_X10_isBird a1 M (fun r1 M1 => ((r1 = 0 → (Q 0 M1)) ∧ (¬ r1 = 0 → (p_X10_isPeriod a2 M1 (fun r3 M3 => ((r3 = 0 → (Q 0 M3)) ∧ (¬ r3 = 0 → ((a3 < 0 → (Q 0 M3)) ∧ (¬ a3 < 0 → ((930 ≤ a3 → (Q 0 M3)) ∧ (¬ 930 ≤ a3 → ((a4 < 0 → (Q 0 M3)) ∧ (¬ a4 < 0 → ((16 ≤ a4 → (Q 0 M3)) ∧ (¬ 16 ≤ a4 → ((a5 < 0 → (Q 0 M3)) ∧ (¬ a5 < 0 → ((a5 ≤ 2 → (∃ w11 : Nat, M3.2.2 0 0 3 = some (23 + w11) ∧ w11 < 2 ∧ (p_X2_hear w11 a2 M3 (fun M12 => (∃ w13 : Nat, M12.2.2 0 0 3 = some (23 + w13) ∧ w13 < 2 ∧ (vp_in a1 5 ∧ (p_X2_takeCode ((M12.1 25 (5 * w13 + (a1 : Int32).toNatClampNeg) 2)) M12 (fun M15 => (p_X2_turnBack a2 ((a3 / 62)) a4 M15 (fun M16 => (p_X2_sumAt ((a3 - a3 / 62 * 62)) M16 (fun M17 => ((a5 = 0 → (Q (M17.1 5 0 2) M17)) ∧ (a5 = 1 → (Q (M17.1 5 0 3) M17)) ∧ (¬ a5 = 0 → ¬ a5 = 1 → (p_X2_power  M17 (fun r19 M19 => (Q r19 M19))))))))))))))))) ∧ (¬ a5 ≤ 2 → (Q 0 M3)))))))))))))))))))))
set_option maxRecDepth 100000 in
set_option maxHeartbeats 4000000 in
theorem c_X10_sum (l : Launch) (g : Geo) (gi : GI g) (a1 : Int32) (a2 : Int32) (a3 : Int32) (a4 : Int32) (a5 : Int32) (M : Mem) (Q : Int32 → Mem → Prop) (hw : p_X10_sum a1 a2 a3 a4 a5 M Q) : Met l yX10_sum (Cond.code yX10_sum cX10_sum 6 (some .int) :: bg) ({ frames := 4, cells := 0, slots := 0, locals := 99 } : Room) (va_Pc [.ref (g.2.1 (0 + 0)), .int a1, .int a2, .int a3, .int a4, .int a5] (PW g (xw g M))) (va_Qi Q (PB g (xw g)) (Af 0 g)) 0 0 (Af 0 g) := by
  refine Met.ofW (cc := cX10_sum) (maxL := 6) (ret := (some .int)) (by decide +kernel) rfl ?_
  intro p e s m args below meth c s₁ B hml hv
  obtain ⟨rfl, hv⟩ := hv
  have C := CX.start (own := RX10) B hml rfl gi hv
  have hP := hv.1
  have hS : va_S (Af 0 g) s.heap s.heap [] := va_S.rf
  have hl := lv_entry ([.ref (g.2.1 (0 + 0)), .int a1, .int a2, .int a3, .int a4, .int a5]) (n := 6) (Nat.le_of_ble_eq_true rfl)
  rw [lg_entry_eq]
  generalize (lg_sl ([.ref (g.2.1 (0 + 0)), .int a1, .int a2, .int a3, .int a4, .int a5]) ++ List.replicate (6 - (lg_sl ([.ref (g.2.1 (0 + 0)), .int a1, .int a2, .int a3, .int a4, .int a5])).length) Slot.unset).toArray = ls at hl ⊢
  have hl : lv_has ls 6 [(0, .ref (g.2.1 (0 + 0))), (1, .int a1), (2, .int a2), (3, .int a3), (4, .int a4), (5, .int a5)] := hl
  unfold p_X10_sum at hw
  refine lv_aload_n C.1 C.2.1 dX10_sum_0 rfl (lv_at hl 0 rfl) ?_
  refine lv_iload_n C.1 C.2.1 dX10_sum_1 rfl (lv_at hl 1 rfl) ?_
  refine goI (wf := (xw g)) (runV (w := xw g M) (As := [.int a1]) (rest := []) C lkX10_111 (c_X10_isBird l g C.2.2.2.2.2.2.2.2.2.2 a1  M _ hw) hP hS rfl rfl ⟨Nat.le_of_ble_eq_true rfl, Nat.le_of_ble_eq_true rfl⟩ (xx_0 Nat.zero_lt_one) rfl rfl hl.1 rfl (Nat.le_of_ble_eq_true rfl) dX10_sum_2) hS (fun r1 M1 hw H locs hP hS => ?_)
  obtain ⟨hw, hz1⟩ := hw
  refine lv_if_eq (tgt := 49) C.1 C.2.1 dX10_sum_5 (by decide) (fun h2 => ?_) (fun h2 => ?_)
  · have hw := hw.1 h2
    refine lv_iconst (v := 0) C.1 C.2.1 dX10_sum_49 (by decide) ?_
    exact retI (wf := (xw g)) C hP hS hw dX10_sum_50
  · have hw := hw.2 h2
    refine lv_iload_n C.1 C.2.1 dX10_sum_8 rfl (lv_at hl 2 rfl) ?_
    refine goI (wf := (xw g)) (runS (w := xw g M1) (As := [.int a2]) (rest := []) C lkX10_138 (c_X10_isPeriod l g C.2.2.2.2.2.2.2.2.2.2 a2  M1 _ hw) hP hS rfl rfl ⟨Nat.le_of_ble_eq_true rfl, Nat.le_of_ble_eq_true rfl⟩ hl.1 rfl (Nat.le_of_ble_eq_true rfl) dX10_sum_9) hS (fun r3 M3 hw H locs hP hS => ?_)
    obtain ⟨hw, hz3⟩ := hw
    refine lv_if_eq (tgt := 49) C.1 C.2.1 dX10_sum_12 (by decide) (fun h4 => ?_) (fun h4 => ?_)
    · have hw := hw.1 h4
      refine lv_iconst (v := 0) C.1 C.2.1 dX10_sum_49 (by decide) ?_
      exact retI (wf := (xw g)) C hP hS hw dX10_sum_50
    · have hw := hw.2 h4
      refine lv_iload_n C.1 C.2.1 dX10_sum_15 rfl (lv_at hl 3 rfl) ?_
      refine lv_if_lt (tgt := 49) C.1 C.2.1 dX10_sum_16 (by decide) (fun h5 => ?_) (fun h5 => ?_)
      · have hw := hw.1 h5
        refine lv_iconst (v := 0) C.1 C.2.1 dX10_sum_49 (by decide) ?_
        exact retI (wf := (xw g)) C hP hS hw dX10_sum_50
      · have hw := hw.2 h5
        refine lv_iload_n C.1 C.2.1 dX10_sum_19 rfl (lv_at hl 3 rfl) ?_
        refine lv_sipush (v := 930) C.1 C.2.1 dX10_sum_20 (by decide) ?_
        refine lv_icmp_ge (tgt := 49) C.1 C.2.1 dX10_sum_23 (by decide) (fun h6 => ?_) (fun h6 => ?_)
        · have hw := hw.1 h6
          refine lv_iconst (v := 0) C.1 C.2.1 dX10_sum_49 (by decide) ?_
          exact retI (wf := (xw g)) C hP hS hw dX10_sum_50
        · have hw := hw.2 h6
          refine lv_iload C.1 C.2.1 dX10_sum_26 (lv_at hl 4 rfl) ?_
          refine lv_if_lt (tgt := 49) C.1 C.2.1 dX10_sum_28 (by decide) (fun h7 => ?_) (fun h7 => ?_)
          · have hw := hw.1 h7
            refine lv_iconst (v := 0) C.1 C.2.1 dX10_sum_49 (by decide) ?_
            exact retI (wf := (xw g)) C hP hS hw dX10_sum_50
          · have hw := hw.2 h7
            refine lv_iload C.1 C.2.1 dX10_sum_31 (lv_at hl 4 rfl) ?_
            refine lv_bipush (v := 16) C.1 C.2.1 dX10_sum_33 (by decide) ?_
            refine lv_icmp_ge (tgt := 49) C.1 C.2.1 dX10_sum_35 (by decide) (fun h8 => ?_) (fun h8 => ?_)
            · have hw := hw.1 h8
              refine lv_iconst (v := 0) C.1 C.2.1 dX10_sum_49 (by decide) ?_
              exact retI (wf := (xw g)) C hP hS hw dX10_sum_50
            · have hw := hw.2 h8
              refine lv_iload C.1 C.2.1 dX10_sum_38 (lv_at hl 5 rfl) ?_
              refine lv_if_lt (tgt := 49) C.1 C.2.1 dX10_sum_40 (by decide) (fun h9 => ?_) (fun h9 => ?_)
              · have hw := hw.1 h9
                refine lv_iconst (v := 0) C.1 C.2.1 dX10_sum_49 (by decide) ?_
                exact retI (wf := (xw g)) C hP hS hw dX10_sum_50
              · have hw := hw.2 h9
                refine lv_iload C.1 C.2.1 dX10_sum_43 (lv_at hl 5 rfl) ?_
                refine lv_iconst (v := 2) C.1 C.2.1 dX10_sum_45 (by decide) ?_
                refine lv_icmp_le (tgt := 51) C.1 C.2.1 dX10_sum_46 (by decide) (fun h10 => ?_) (fun h10 => ?_)
                · have hw := hw.1 h10
                  refine lv_aload_n C.1 C.2.1 dX10_sum_51 rfl (lv_at hl 0 rfl) ?_
                  refine gX10_33 C hP Nat.zero_lt_one dX10_sum_52 ?_
                  refine lv_aload_n C.1 C.2.1 dX10_sum_55 rfl (lv_at hl 0 rfl) ?_
                  obtain ⟨w11, h11, hb11, hw⟩ := hw
                  refine gX10_23f C hP Nat.zero_lt_one h11 dX10_sum_56 ?_
                  refine lv_iload_n C.1 C.2.1 dX10_sum_59 rfl (lv_at hl 2 rfl) ?_
                  refine goV (wf := (xw g)) (runV (w := xw g M3) (As := [.ref (g.2.1 (23 + w11)), .int a2]) (rest := []) C lkX10_175 (c_X2_hear l g C.2.2.2.2.2.2.2.2.2.2 w11 a2 hb11 M3 _ hw) hP hS rfl rfl ⟨Nat.le_of_ble_eq_true rfl, Nat.le_of_ble_eq_true rfl⟩ (xx_5 Nat.zero_lt_one) rfl rfl hl.1 rfl (Nat.le_of_ble_eq_true rfl) dX10_sum_60) hS (fun M12 hw H locs hP hS => ?_)
                  refine lv_aload_n C.1 C.2.1 dX10_sum_63 rfl (lv_at hl 0 rfl) ?_
                  refine gX10_33 C hP Nat.zero_lt_one dX10_sum_64 ?_
                  refine lv_aload_n C.1 C.2.1 dX10_sum_67 rfl (lv_at hl 0 rfl) ?_
                  obtain ⟨w13, h13, hb13, hw⟩ := hw
                  refine gX10_23f C hP Nat.zero_lt_one h13 dX10_sum_68 ?_
                  refine gX10_127 C hP hb13 dX10_sum_71 ?_
                  refine lv_iload_n C.1 C.2.1 dX10_sum_74 rfl (lv_at hl 1 rfl) ?_
                  obtain ⟨h14, hw⟩ := hw
                  have hb14 : (5 * w13 + (a1 : Int32).toNatClampNeg) < 10 := by have h9 := vp_lt h14; have h8 := hb13; omega
                  refine al_24 C hP hb13 h14 dX10_sum_75 ?_
                  refine gX10_141 C hP hb14 dX10_sum_76 ?_
                  refine goV (wf := (xw g)) (runV (w := xw g M12) (As := [.int (M12.1 25 (5 * w13 + (a1 : Int32).toNatClampNeg) 2)]) (rest := []) C lkX10_188 (c_X2_takeCode l g C.2.2.2.2.2.2.2.2.2.2 ((M12.1 25 (5 * w13 + (a1 : Int32).toNatClampNeg) 2))  M12 _ hw) hP hS rfl rfl ⟨Nat.le_of_ble_eq_true rfl, Nat.le_of_ble_eq_true rfl⟩ (xx_5 Nat.zero_lt_one) rfl rfl hl.1 rfl (Nat.le_of_ble_eq_true rfl) dX10_sum_79) hS (fun M15 hw H locs hP hS => ?_)
                  refine lv_aload_n C.1 C.2.1 dX10_sum_82 rfl (lv_at hl 0 rfl) ?_
                  refine gX10_33 C hP Nat.zero_lt_one dX10_sum_83 ?_
                  refine lv_iload_n C.1 C.2.1 dX10_sum_86 rfl (lv_at hl 2 rfl) ?_
                  refine lv_iload_n C.1 C.2.1 dX10_sum_87 rfl (lv_at hl 3 rfl) ?_
                  refine lv_bipush (v := 62) C.1 C.2.1 dX10_sum_88 (by decide) ?_
                  refine lv_idiv C.1 C.2.1 dX10_sum_90 (by decide) ?_
                  refine lv_iload C.1 C.2.1 dX10_sum_91 (lv_at hl 4 rfl) ?_
                  refine goV (wf := (xw g)) (runV (w := xw g M15) (As := [.int a2, .int (a3 / 62), .int a4]) (rest := []) C lkX10_191 (c_X2_turnBack l g C.2.2.2.2.2.2.2.2.2.2 a2 ((a3 / 62)) a4  M15 _ hw) hP hS rfl rfl ⟨Nat.le_of_ble_eq_true rfl, Nat.le_of_ble_eq_true rfl⟩ (xx_5 Nat.zero_lt_one) rfl rfl hl.1 rfl (Nat.le_of_ble_eq_true rfl) dX10_sum_93) hS (fun M16 hw H locs hP hS => ?_)
                  refine lv_aload_n C.1 C.2.1 dX10_sum_96 rfl (lv_at hl 0 rfl) ?_
                  refine gX10_33 C hP Nat.zero_lt_one dX10_sum_97 ?_
                  refine lv_iload_n C.1 C.2.1 dX10_sum_100 rfl (lv_at hl 3 rfl) ?_
                  refine lv_bipush (v := 62) C.1 C.2.1 dX10_sum_101 (by decide) ?_
                  refine lv_irem C.1 C.2.1 dX10_sum_103 (by decide) ?_
                  refine goV (wf := (xw g)) (runV (w := xw g M16) (As := [.int (a3 - a3 / 62 * 62)]) (rest := []) C lkX10_195 (c_X2_sumAt l g C.2.2.2.2.2.2.2.2.2.2 ((a3 - a3 / 62 * 62))  M16 _ hw) hP hS rfl rfl ⟨Nat.le_of_ble_eq_true rfl, Nat.le_of_ble_eq_true rfl⟩ (xx_5 Nat.zero_lt_one) rfl rfl hl.1 rfl (Nat.le_of_ble_eq_true rfl) dX10_sum_104) hS (fun M17 hw H locs hP hS => ?_)
                  refine lv_iload C.1 C.2.1 dX10_sum_107 (lv_at hl 5 rfl) ?_
                  by_cases q18_0 : a5 = 0
                  · have hw := hw.1 q18_0
                    refine lv_lookup (tgt := 136) (off := 27) C.1 C.2.1 dX10_sum_109 (by decide) (by rw [q18_0]; decide +kernel) (by decide) ?_
                    refine lv_aload_n C.1 C.2.1 dX10_sum_136 rfl (lv_at hl 0 rfl) ?_
                    refine gX10_33 C hP Nat.zero_lt_one dX10_sum_137 ?_
                    refine gX10_198 C hP Nat.zero_lt_one dX10_sum_140 ?_
                    exact retI (wf := (xw g)) C hP hS hw dX10_sum_143
                  by_cases q18_1 : a5 = 1
                  · have hw := hw.2.1 q18_1
                    refine lv_lookup (tgt := 144) (off := 35) C.1 C.2.1 dX10_sum_109 (by decide) (by rw [q18_1]; decide +kernel) (by decide) ?_
                    refine lv_aload_n C.1 C.2.1 dX10_sum_144 rfl (lv_at hl 0 rfl) ?_
                    refine gX10_33 C hP Nat.zero_lt_one dX10_sum_145 ?_
                    refine gX10_201 C hP Nat.zero_lt_one dX10_sum_148 ?_
                    exact retI (wf := (xw g)) C hP hS hw dX10_sum_151
                  have hw := hw.2.2 q18_0 q18_1
                  have n18_0 : a5.toInt ≠ 0 := tsw q18_0
                  have n18_1 : a5.toInt ≠ 1 := tsw q18_1
                  refine lv_lookup (tgt := 152) (off := 43) C.1 C.2.1 dX10_sum_109 (by decide) (by simp [Op.lookupswitch.offset, Ne.symm n18_0, Ne.symm n18_1]) (by decide) ?_
                  refine lv_aload_n C.1 C.2.1 dX10_sum_152 rfl (lv_at hl 0 rfl) ?_
                  refine gX10_33 C hP Nat.zero_lt_one dX10_sum_153 ?_
                  refine goI (wf := (xw g)) (runV (w := xw g M17) (As := []) (rest := []) C lkX10_204 (c_X2_power l g C.2.2.2.2.2.2.2.2.2.2   M17 _ hw) hP hS rfl rfl ⟨Nat.le_of_ble_eq_true rfl, Nat.le_of_ble_eq_true rfl⟩ (xx_5 Nat.zero_lt_one) rfl rfl hl.1 rfl (Nat.le_of_ble_eq_true rfl) dX10_sum_156) hS (fun r19 M19 hw H locs hP hS => ?_)
                  exact retI (wf := (xw g)) C hP hS hw dX10_sum_159
                · have hw := hw.2 h10
                  refine lv_iconst (v := 0) C.1 C.2.1 dX10_sum_49 (by decide) ?_
                  exact retI (wf := (xw g)) C hP hS hw dX10_sum_50
def b_X10_huntOver_64 (Q : Mem → Prop) (M : Mem) : Prop := (p_X4_judge  M (fun M3 => (Q M3)))
set_option maxRecDepth 100000 in
set_option maxHeartbeats 4000000 in
theorem k_X10_huntOver_64 {p : Program} {l : Launch} {e : Env} {s : State} {m : MethodId} {args : Array Value} {below : List Frame} {meth : Method} {c : Code} {g : Geo} (C : CX g p s m args meth c cX10_huntOver 5 none RX10) {Q : Mem → Prop} (M : Mem) (hw : b_X10_huntOver_64 Q M) {H : Heap} {locs : List Loc} {ls : Array Slot} (hl : lv_has ls 5 [(0, .ref (g.2.1 (0 + 0)))]) (hP : va_P g.1 clz (xw g M) H) (hS : va_S (Af 0 g) s.heap H locs) : W p l e ({ frames := 4, cells := 0, slots := 0, locals := 99 } : Room) s m args below meth c H locs 0 0 (MQ below (va_Qv Q (PB g (xw g)) (Af 0 g)) args s 0 0 (Af 0 g)) (F0 m 64 ls []) := by
  unfold b_X10_huntOver_64 at hw
  refine lv_aload_n C.1 C.2.1 dX10_huntOver_64 rfl (lv_at hl 0 rfl) ?_
  refine gX10_40 C hP Nat.zero_lt_one dX10_huntOver_65 ?_
  refine goV (wf := (xw g)) (runV (w := xw g M) (As := []) (rest := []) C lkX10_215 (c_X4_judge l g C.2.2.2.2.2.2.2.2.2.2   M _ hw) hP hS rfl rfl ⟨Nat.le_of_ble_eq_true rfl, Nat.le_of_ble_eq_true rfl⟩ (xx_11 Nat.zero_lt_one) rfl rfl hl.1 rfl (Nat.le_of_ble_eq_true rfl) dX10_huntOver_68) hS (fun M3 hw H locs hP hS => ?_)
  exact retV (wf := (xw g)) C hP hS hw dX10_huntOver_71
def b_X10_huntOver_10 (Q : Mem → Prop) : Nat → Int32 → Int32 → Int32 → Int32 → Mem → Prop
  | 0, _, _, _, _, _ => False
  | n + 1, v1, v2, v3, v4, M => ((v3 ≤ v4 → (b_X10_huntOver_64 Q  M)) ∧ (¬ v3 ≤ v4 → (∃ w4 : Nat, M.2.2 0 0 3 = some (23 + w4) ∧ w4 < 2 ∧ (p_X2_hear w4 ((v2 + v4)) M (fun M5 => (∃ w6 : Nat, M5.2.2 0 0 3 = some (23 + w6) ∧ w6 < 2 ∧ (vp_in v1 5 ∧ (p_X4_add ((M5.1 25 (5 * w6 + (v1 : Int32).toNatClampNeg) 2)) ((v2 + v4)) M5 (fun M8 => (∀ x9 : Int32, x9 = (v4 + 1) → (b_X10_huntOver_10 Q n v1 v2 v3 x9 M8)))))))))))
set_option maxRecDepth 100000 in
set_option maxHeartbeats 4000000 in
theorem k_X10_huntOver_10 {p : Program} {l : Launch} {e : Env} {s : State} {m : MethodId} {args : Array Value} {below : List Frame} {meth : Method} {c : Code} {g : Geo} (C : CX g p s m args meth c cX10_huntOver 5 none RX10) {Q : Mem → Prop} : ∀ (n : Nat) (v1 : Int32) (v2 : Int32) (v3 : Int32) (v4 : Int32) (M : Mem) (hw : b_X10_huntOver_10 Q n v1 v2 v3 v4 M) {H : Heap} {locs : List Loc} {ls : Array Slot} (hl : lv_has ls 5 [(0, .ref (g.2.1 (0 + 0))), (1, .int v1), (2, .int v2), (3, .int v3), (4, .int v4)]) (hP : va_P g.1 clz (xw g M) H) (hS : va_S (Af 0 g) s.heap H locs), W p l e ({ frames := 4, cells := 0, slots := 0, locals := 99 } : Room) s m args below meth c H locs 0 0 (MQ below (va_Qv Q (PB g (xw g)) (Af 0 g)) args s 0 0 (Af 0 g)) (F0 m 10 ls []) := by
  intro n
  induction n with
  | zero => intro v1 v2 v3 v4 M hw H locs ls hl hP hS; exact absurd hw (by rw [b_X10_huntOver_10]; exact fun h => h)
  | succ n ih =>
    intro v1 v2 v3 v4 M hw H locs ls hl hP hS
    rw [b_X10_huntOver_10] at hw
    refine lv_iload C.1 C.2.1 dX10_huntOver_10 (lv_at hl 4 rfl) ?_
    refine lv_iload_n C.1 C.2.1 dX10_huntOver_12 rfl (lv_at hl 3 rfl) ?_
    refine lv_icmp_ge (tgt := 64) C.1 C.2.1 dX10_huntOver_13 (by decide) (fun h2 => ?_) (fun h2 => ?_)
    · have hw := hw.1 h2
      exact k_X10_huntOver_64 (Q := Q) C   _ hw (lv_sub hl [0] rfl) hP hS
    · have hw := hw.2 h2
      refine lv_aload_n C.1 C.2.1 dX10_huntOver_16 rfl (lv_at hl 0 rfl) ?_
      refine gX10_33 C hP Nat.zero_lt_one dX10_huntOver_17 ?_
      refine lv_aload_n C.1 C.2.1 dX10_huntOver_20 rfl (lv_at hl 0 rfl) ?_
      obtain ⟨w4, h4, hb4, hw⟩ := hw
      refine gX10_23f C hP Nat.zero_lt_one h4 dX10_huntOver_21 ?_
      refine lv_iload_n C.1 C.2.1 dX10_huntOver_24 rfl (lv_at hl 2 rfl) ?_
      refine lv_iload C.1 C.2.1 dX10_huntOver_25 (lv_at hl 4 rfl) ?_
      refine lv_iadd C.1 C.2.1 dX10_huntOver_27 ?_
      refine goV (wf := (xw g)) (runV (w := xw g M) (As := [.ref (g.2.1 (23 + w4)), .int (v2 + v4)]) (rest := []) C lkX10_175 (c_X2_hear l g C.2.2.2.2.2.2.2.2.2.2 w4 ((v2 + v4)) hb4 M _ hw) hP hS rfl rfl ⟨Nat.le_of_ble_eq_true rfl, Nat.le_of_ble_eq_true rfl⟩ (xx_5 Nat.zero_lt_one) rfl rfl hl.1 rfl (Nat.le_of_ble_eq_true rfl) dX10_huntOver_28) hS (fun M5 hw H locs hP hS => ?_)
      refine lv_aload_n C.1 C.2.1 dX10_huntOver_31 rfl (lv_at hl 0 rfl) ?_
      refine gX10_40 C hP Nat.zero_lt_one dX10_huntOver_32 ?_
      refine lv_aload_n C.1 C.2.1 dX10_huntOver_35 rfl (lv_at hl 0 rfl) ?_
      refine gX10_33 C hP Nat.zero_lt_one dX10_huntOver_36 ?_
      refine lv_aload_n C.1 C.2.1 dX10_huntOver_39 rfl (lv_at hl 0 rfl) ?_
      obtain ⟨w6, h6, hb6, hw⟩ := hw
      refine gX10_23f C hP Nat.zero_lt_one h6 dX10_huntOver_40 ?_
      refine gX10_127 C hP hb6 dX10_huntOver_43 ?_
      refine lv_iload_n C.1 C.2.1 dX10_huntOver_46 rfl (lv_at hl 1 rfl) ?_
      obtain ⟨h7, hw⟩ := hw
      have hb7 : (5 * w6 + (v1 : Int32).toNatClampNeg) < 10 := by have h9 := vp_lt h7; have h8 := hb6; omega
      refine al_24 C hP hb6 h7 dX10_huntOver_47 ?_
      refine gX10_141 C hP hb7 dX10_huntOver_48 ?_
      refine lv_iload_n C.1 C.2.1 dX10_huntOver_51 rfl (lv_at hl 2 rfl) ?_
      refine lv_iload C.1 C.2.1 dX10_huntOver_52 (lv_at hl 4 rfl) ?_
      refine lv_iadd C.1 C.2.1 dX10_huntOver_54 ?_
      refine goV (wf := (xw g)) (runV (w := xw g M5) (As := [.ref (g.2.1 (5 + 0)), .int (M5.1 25 (5 * w6 + (v1 : Int32).toNatClampNeg) 2), .int (v2 + v4)]) (rest := []) C lkX10_211 (c_X4_add l g C.2.2.2.2.2.2.2.2.2.2 ((M5.1 25 (5 * w6 + (v1 : Int32).toNatClampNeg) 2)) ((v2 + v4))  M5 _ hw) hP hS rfl rfl ⟨Nat.le_of_ble_eq_true rfl, Nat.le_of_ble_eq_true rfl⟩ (xx_11 Nat.zero_lt_one) rfl rfl hl.1 rfl (Nat.le_of_ble_eq_true rfl) dX10_huntOver_55) hS (fun M8 hw H locs hP hS => ?_)
      obtain ⟨x9, e9⟩ : ∃ y : Int32, y = (v4 + 1) := ⟨_, rfl⟩
      have hw := hw x9 e9
      refine lv_iinc (v := x9) (lv' := [(4, .int x9), (0, .ref (g.2.1 (0 + 0))), (1, .int v1), (2, .int v2), (3, .int v3)]) C.1 C.2.1 dX10_huntOver_58 hl (k := 4) rfl (by rw [e9]; rfl) (by decide) rfl (fun ls hl => ?_)
      refine lv_goto (tgt := 10) C.1 C.2.1 dX10_huntOver_61 (by decide) ?_
      exact ih v1 v2 v3 x9  _ hw (lv_sub hl [1, 2, 3, 4, 0] rfl) hP hS
def p_X10_huntOver (a1 : Int32) (a2 : Int32) (a3 : Int32) (M : Mem) (Q : Mem → Prop) : Prop := (p_X4_begin  M (fun M1 => (∃ n10 : Nat, b_X10_huntOver_10 Q n10 a1 a2 a3 0 M1)))
set_option maxRecDepth 100000 in
set_option maxHeartbeats 4000000 in
theorem c_X10_huntOver (l : Launch) (g : Geo) (gi : GI g) (a1 : Int32) (a2 : Int32) (a3 : Int32) (M : Mem) (Q : Mem → Prop) (hw : p_X10_huntOver a1 a2 a3 M Q) : Met l yX10_huntOver (Cond.code yX10_huntOver cX10_huntOver 5 none :: bg) ({ frames := 4, cells := 0, slots := 0, locals := 99 } : Room) (va_Pc [.ref (g.2.1 (0 + 0)), .int a1, .int a2, .int a3] (PW g (xw g M))) (va_Qv Q (PB g (xw g)) (Af 0 g)) 0 0 (Af 0 g) := by
  refine Met.ofW (cc := cX10_huntOver) (maxL := 5) (ret := none) (by decide +kernel) rfl ?_
  intro p e s m args below meth c s₁ B hml hv
  obtain ⟨rfl, hv⟩ := hv
  have C := CX.start (own := RX10) B hml rfl gi hv
  have hP := hv.1
  have hS : va_S (Af 0 g) s.heap s.heap [] := va_S.rf
  have hl := lv_entry ([.ref (g.2.1 (0 + 0)), .int a1, .int a2, .int a3]) (n := 5) (Nat.le_of_ble_eq_true rfl)
  rw [lg_entry_eq]
  generalize (lg_sl ([.ref (g.2.1 (0 + 0)), .int a1, .int a2, .int a3]) ++ List.replicate (5 - (lg_sl ([.ref (g.2.1 (0 + 0)), .int a1, .int a2, .int a3])).length) Slot.unset).toArray = ls at hl ⊢
  have hl : lv_has ls 5 [(0, .ref (g.2.1 (0 + 0))), (1, .int a1), (2, .int a2), (3, .int a3)] := hl
  unfold p_X10_huntOver at hw
  refine lv_aload_n C.1 C.2.1 dX10_huntOver_0 rfl (lv_at hl 0 rfl) ?_
  refine gX10_40 C hP Nat.zero_lt_one dX10_huntOver_1 ?_
  refine goV (wf := (xw g)) (runV (w := xw g M) (As := []) (rest := []) C lkX10_208 (c_X4_begin l g C.2.2.2.2.2.2.2.2.2.2   M _ hw) hP hS rfl rfl ⟨Nat.le_of_ble_eq_true rfl, Nat.le_of_ble_eq_true rfl⟩ (xx_11 Nat.zero_lt_one) rfl rfl hl.1 rfl (Nat.le_of_ble_eq_true rfl) dX10_huntOver_4) hS (fun M1 hw H locs hP hS => ?_)
  refine lv_iconst (v := 0) C.1 C.2.1 dX10_huntOver_7 (by decide) ?_
  refine lv_istore (lv' := [(4, .int 0), (0, .ref (g.2.1 (0 + 0))), (1, .int a1), (2, .int a2), (3, .int a3)]) C.1 C.2.1 dX10_huntOver_8 hl (by decide) rfl (fun ls hl => ?_)
  obtain ⟨n9, hw⟩ := hw
  exact k_X10_huntOver_10 (Q := Q) C n9 a1 a2 a3 0  _ hw (lv_sub hl [1, 2, 3, 4, 0] rfl) hP hS
def p_X10_isAcquiredAs (a1 : Int32) (a2 : Int32) (a3 : Int32) (a4 : Int32) (a5 : Int32) (M : Mem) (Q : Int32 → Mem → Prop) : Prop := (∃ w1 : Nat, M.2.2 0 0 3 = some (23 + w1) ∧ w1 < 2 ∧ (p_X2_hearAs w1 a2 a3 a4 a5 M (fun M2 => (p_X4_begin  M2 (fun M3 => (∃ w4 : Nat, M3.2.2 0 0 3 = some (23 + w4) ∧ w4 < 2 ∧ (vp_in a1 5 ∧ (p_X4_add ((M3.1 25 (5 * w4 + (a1 : Int32).toNatClampNeg) 2)) a2 M3 (fun M6 => (p_X4_judge  M6 (fun M7 => (∃ w8 : Nat, M7.2.2 0 0 3 = some (23 + w8) ∧ w8 < 2 ∧ (p_X4_isAcquired ((M7.1 23 w8 9)) M7 (fun r9 M9 => (Q r9 M9)))))))))))))))
set_option maxRecDepth 100000 in
set_option maxHeartbeats 4000000 in
theorem c_X10_isAcquiredAs (l : Launch) (g : Geo) (gi : GI g) (a1 : Int32) (a2 : Int32) (a3 : Int32) (a4 : Int32) (a5 : Int32) (M : Mem) (Q : Int32 → Mem → Prop) (hw : p_X10_isAcquiredAs a1 a2 a3 a4 a5 M Q) : Met l yX10_isAcquiredAs (Cond.code yX10_isAcquiredAs cX10_isAcquiredAs 6 (some .boolean) :: bg) ({ frames := 3, cells := 0, slots := 0, locals := 77 } : Room) (va_Pc [.ref (g.2.1 (0 + 0)), .int a1, .int a2, .int a3, .int a4, .int a5] (PW g (xw g M))) (va_Qi (fun r M => Q r M ∧ narrow .boolean (.int r) = .int r) (PB g (xw g)) (Af 0 g)) 0 0 (Af 0 g) := by
  refine Met.ofW (cc := cX10_isAcquiredAs) (maxL := 6) (ret := (some .boolean)) (by decide +kernel) rfl ?_
  intro p e s m args below meth c s₁ B hml hv
  obtain ⟨rfl, hv⟩ := hv
  have C := CX.start (own := RX10) B hml rfl gi hv
  have hP := hv.1
  have hS : va_S (Af 0 g) s.heap s.heap [] := va_S.rf
  have hl := lv_entry ([.ref (g.2.1 (0 + 0)), .int a1, .int a2, .int a3, .int a4, .int a5]) (n := 6) (Nat.le_of_ble_eq_true rfl)
  rw [lg_entry_eq]
  generalize (lg_sl ([.ref (g.2.1 (0 + 0)), .int a1, .int a2, .int a3, .int a4, .int a5]) ++ List.replicate (6 - (lg_sl ([.ref (g.2.1 (0 + 0)), .int a1, .int a2, .int a3, .int a4, .int a5])).length) Slot.unset).toArray = ls at hl ⊢
  have hl : lv_has ls 6 [(0, .ref (g.2.1 (0 + 0))), (1, .int a1), (2, .int a2), (3, .int a3), (4, .int a4), (5, .int a5)] := hl
  unfold p_X10_isAcquiredAs at hw
  refine lv_aload_n C.1 C.2.1 dX10_isAcquiredAs_0 rfl (lv_at hl 0 rfl) ?_
  refine gX10_33 C hP Nat.zero_lt_one dX10_isAcquiredAs_1 ?_
  refine lv_aload_n C.1 C.2.1 dX10_isAcquiredAs_4 rfl (lv_at hl 0 rfl) ?_
  obtain ⟨w1, h1, hb1, hw⟩ := hw
  refine gX10_23f C hP Nat.zero_lt_one h1 dX10_isAcquiredAs_5 ?_
  refine lv_iload_n C.1 C.2.1 dX10_isAcquiredAs_8 rfl (lv_at hl 2 rfl) ?_
  refine lv_iload_n C.1 C.2.1 dX10_isAcquiredAs_9 rfl (lv_at hl 3 rfl) ?_
  refine lv_iload C.1 C.2.1 dX10_isAcquiredAs_10 (lv_at hl 4 rfl) ?_
  refine lv_iload C.1 C.2.1 dX10_isAcquiredAs_12 (lv_at hl 5 rfl) ?_
  refine goV (wf := (xw g)) (runV (w := xw g M) (As := [.ref (g.2.1 (23 + w1)), .int a2, .int a3, .int a4, .int a5]) (rest := []) C lkX10_218 (c_X2_hearAs l g C.2.2.2.2.2.2.2.2.2.2 w1 a2 a3 a4 a5 hb1 M _ hw) hP hS rfl rfl ⟨Nat.le_of_ble_eq_true rfl, Nat.le_of_ble_eq_true rfl⟩ (xx_5 Nat.zero_lt_one) rfl rfl hl.1 rfl (Nat.le_of_ble_eq_true rfl) dX10_isAcquiredAs_14) hS (fun M2 hw H locs hP hS => ?_)
  refine lv_aload_n C.1 C.2.1 dX10_isAcquiredAs_17 rfl (lv_at hl 0 rfl) ?_
  refine gX10_40 C hP Nat.zero_lt_one dX10_isAcquiredAs_18 ?_
  refine goV (wf := (xw g)) (runV (w := xw g M2) (As := []) (rest := []) C lkX10_208 (c_X4_begin l g C.2.2.2.2.2.2.2.2.2.2   M2 _ hw) hP hS rfl rfl ⟨Nat.le_of_ble_eq_true rfl, Nat.le_of_ble_eq_true rfl⟩ (xx_11 Nat.zero_lt_one) rfl rfl hl.1 rfl (Nat.le_of_ble_eq_true rfl) dX10_isAcquiredAs_21) hS (fun M3 hw H locs hP hS => ?_)
  refine lv_aload_n C.1 C.2.1 dX10_isAcquiredAs_24 rfl (lv_at hl 0 rfl) ?_
  refine gX10_40 C hP Nat.zero_lt_one dX10_isAcquiredAs_25 ?_
  refine lv_aload_n C.1 C.2.1 dX10_isAcquiredAs_28 rfl (lv_at hl 0 rfl) ?_
  refine gX10_33 C hP Nat.zero_lt_one dX10_isAcquiredAs_29 ?_
  refine lv_aload_n C.1 C.2.1 dX10_isAcquiredAs_32 rfl (lv_at hl 0 rfl) ?_
  obtain ⟨w4, h4, hb4, hw⟩ := hw
  refine gX10_23f C hP Nat.zero_lt_one h4 dX10_isAcquiredAs_33 ?_
  refine gX10_127 C hP hb4 dX10_isAcquiredAs_36 ?_
  refine lv_iload_n C.1 C.2.1 dX10_isAcquiredAs_39 rfl (lv_at hl 1 rfl) ?_
  obtain ⟨h5, hw⟩ := hw
  have hb5 : (5 * w4 + (a1 : Int32).toNatClampNeg) < 10 := by have h9 := vp_lt h5; have h8 := hb4; omega
  refine al_24 C hP hb4 h5 dX10_isAcquiredAs_40 ?_
  refine gX10_141 C hP hb5 dX10_isAcquiredAs_41 ?_
  refine lv_iload_n C.1 C.2.1 dX10_isAcquiredAs_44 rfl (lv_at hl 2 rfl) ?_
  refine goV (wf := (xw g)) (runV (w := xw g M3) (As := [.ref (g.2.1 (5 + 0)), .int (M3.1 25 (5 * w4 + (a1 : Int32).toNatClampNeg) 2), .int a2]) (rest := []) C lkX10_211 (c_X4_add l g C.2.2.2.2.2.2.2.2.2.2 ((M3.1 25 (5 * w4 + (a1 : Int32).toNatClampNeg) 2)) a2  M3 _ hw) hP hS rfl rfl ⟨Nat.le_of_ble_eq_true rfl, Nat.le_of_ble_eq_true rfl⟩ (xx_11 Nat.zero_lt_one) rfl rfl hl.1 rfl (Nat.le_of_ble_eq_true rfl) dX10_isAcquiredAs_45) hS (fun M6 hw H locs hP hS => ?_)
  refine lv_aload_n C.1 C.2.1 dX10_isAcquiredAs_48 rfl (lv_at hl 0 rfl) ?_
  refine gX10_40 C hP Nat.zero_lt_one dX10_isAcquiredAs_49 ?_
  refine goV (wf := (xw g)) (runV (w := xw g M6) (As := []) (rest := []) C lkX10_215 (c_X4_judge l g C.2.2.2.2.2.2.2.2.2.2   M6 _ hw) hP hS rfl rfl ⟨Nat.le_of_ble_eq_true rfl, Nat.le_of_ble_eq_true rfl⟩ (xx_11 Nat.zero_lt_one) rfl rfl hl.1 rfl (Nat.le_of_ble_eq_true rfl) dX10_isAcquiredAs_52) hS (fun M7 hw H locs hP hS => ?_)
  refine lv_aload_n C.1 C.2.1 dX10_isAcquiredAs_55 rfl (lv_at hl 0 rfl) ?_
  refine gX10_40 C hP Nat.zero_lt_one dX10_isAcquiredAs_56 ?_
  refine lv_aload_n C.1 C.2.1 dX10_isAcquiredAs_59 rfl (lv_at hl 0 rfl) ?_
  obtain ⟨w8, h8, hb8, hw⟩ := hw
  refine gX10_23f C hP Nat.zero_lt_one h8 dX10_isAcquiredAs_60 ?_
  refine gX10_222 C hP hb8 dX10_isAcquiredAs_63 ?_
  refine goI (wf := (xw g)) (runV (w := xw g M7) (As := [.int (M7.1 23 w8 9)]) (rest := []) C lkX10_225 (c_X4_isAcquired l g C.2.2.2.2.2.2.2.2.2.2 ((M7.1 23 w8 9))  M7 _ hw) hP hS rfl rfl ⟨Nat.le_of_ble_eq_true rfl, Nat.le_of_ble_eq_true rfl⟩ (xx_11 Nat.zero_lt_one) rfl rfl hl.1 rfl (Nat.le_of_ble_eq_true rfl) dX10_isAcquiredAs_66) hS (fun r9 M9 hw H locs hP hS => ?_)
  obtain ⟨hw, hz9⟩ := hw
  exact retZ (wf := (xw g)) C hP hS hz9 hw dX10_isAcquiredAs_69
def p_X10_isPeakRight (a1 : Int32) (a2 : Int32) (M : Mem) (Q : Int32 → Mem → Prop) : Prop := (∃ w1 : Nat, M.2.2 0 0 3 = some (23 + w1) ∧ w1 < 2 ∧ (vp_in a1 5 ∧ (p_X0_isHeard ((5 * w1 + (a1 : Int32).toNatClampNeg)) M (fun r3 M3 => ((r3 = 0 → (Q 0 M3)) ∧ (¬ r3 = 0 → (p_X0_startIn ((5 * w1 + (a1 : Int32).toNatClampNeg)) a2 M3 (fun r5 M5 => ((¬ (M3.1 11 0 1) = (((62 : Int32) * (M3.1 25 (5 * w1 + (a1 : Int32).toNatClampNeg) 4)) + (r5 - r5 / 62 * 62)) → (Q 0 M5)) ∧ ((M3.1 11 0 1) = (((62 : Int32) * (M3.1 25 (5 * w1 + (a1 : Int32).toNatClampNeg) 4)) + (r5 - r5 / 62 * 62)) → (Q 1 M5)))))))))))
set_option maxRecDepth 100000 in
set_option maxHeartbeats 4000000 in
theorem c_X10_isPeakRight (l : Launch) (g : Geo) (gi : GI g) (a1 : Int32) (a2 : Int32) (M : Mem) (Q : Int32 → Mem → Prop) (hw : p_X10_isPeakRight a1 a2 M Q) : Met l yX10_isPeakRight (Cond.code yX10_isPeakRight cX10_isPeakRight 4 (some .boolean) :: bg) ({ frames := 1, cells := 0, slots := 0, locals := 21 } : Room) (va_Pc [.ref (g.2.1 (0 + 0)), .int a1, .int a2] (PW g (xw g M))) (va_Qi (fun r M => Q r M ∧ narrow .boolean (.int r) = .int r) (PB g (xw g)) (Af 0 g)) 0 0 (Af 0 g) := by
  refine Met.ofW (cc := cX10_isPeakRight) (maxL := 4) (ret := (some .boolean)) (by decide +kernel) rfl ?_
  intro p e s m args below meth c s₁ B hml hv
  obtain ⟨rfl, hv⟩ := hv
  have C := CX.start (own := RX10) B hml rfl gi hv
  have hP := hv.1
  have hS : va_S (Af 0 g) s.heap s.heap [] := va_S.rf
  have hl := lv_entry ([.ref (g.2.1 (0 + 0)), .int a1, .int a2]) (n := 4) (Nat.le_of_ble_eq_true rfl)
  rw [lg_entry_eq]
  generalize (lg_sl ([.ref (g.2.1 (0 + 0)), .int a1, .int a2]) ++ List.replicate (4 - (lg_sl ([.ref (g.2.1 (0 + 0)), .int a1, .int a2])).length) Slot.unset).toArray = ls at hl ⊢
  have hl : lv_has ls 4 [(0, .ref (g.2.1 (0 + 0))), (1, .int a1), (2, .int a2)] := hl
  unfold p_X10_isPeakRight at hw
  refine lv_aload_n C.1 C.2.1 dX10_isPeakRight_0 rfl (lv_at hl 0 rfl) ?_
  obtain ⟨w1, h1, hb1, hw⟩ := hw
  refine gX10_23f C hP Nat.zero_lt_one h1 dX10_isPeakRight_1 ?_
  refine gX10_127 C hP hb1 dX10_isPeakRight_4 ?_
  refine lv_iload_n C.1 C.2.1 dX10_isPeakRight_7 rfl (lv_at hl 1 rfl) ?_
  obtain ⟨h2, hw⟩ := hw
  have hb2 : (5 * w1 + (a1 : Int32).toNatClampNeg) < 10 := by have h9 := vp_lt h2; have h8 := hb1; omega
  refine al_24 C hP hb1 h2 dX10_isPeakRight_8 ?_
  refine lv_astore_n (lv' := [(3, .ref (g.2.1 (27 + (5 * w1 + (a1 : Int32).toNatClampNeg)))), (0, .ref (g.2.1 (0 + 0))), (1, .int a1), (2, .int a2)]) C.1 C.2.1 dX10_isPeakRight_9 rfl hl (by decide) rfl (fun ls hl => ?_)
  refine lv_aload_n C.1 C.2.1 dX10_isPeakRight_10 rfl (lv_at hl 0 rfl) ?_
  refine goI (wf := (xw g)) (runV (w := xw g M) (As := []) (rest := []) C lkX10_228 (c_X0_isHeard l g C.2.2.2.2.2.2.2.2.2.2 ((5 * w1 + (a1 : Int32).toNatClampNeg)) hb2 M _ hw) hP hS rfl rfl ⟨Nat.le_of_ble_eq_true rfl, Nat.le_of_ble_eq_true rfl⟩ (xx_25 hb2) rfl rfl hl.1 rfl (Nat.le_of_ble_eq_true rfl) dX10_isPeakRight_11) hS (fun r3 M3 hw H locs hP hS => ?_)
  obtain ⟨hw, hz3⟩ := hw
  refine lv_if_eq (tgt := 47) C.1 C.2.1 dX10_isPeakRight_14 (by decide) (fun h4 => ?_) (fun h4 => ?_)
  · have hw := hw.1 h4
    refine lv_iconst (v := 0) C.1 C.2.1 dX10_isPeakRight_47 (by decide) ?_
    exact retZ (wf := (xw g)) C hP hS rfl hw dX10_isPeakRight_48
  · have hw := hw.2 h4
    refine lv_aload_n C.1 C.2.1 dX10_isPeakRight_17 rfl (lv_at hl 1 rfl) ?_
    refine gX10_40 C hP Nat.zero_lt_one dX10_isPeakRight_18 ?_
    refine gX10_232 C hP Nat.zero_lt_one dX10_isPeakRight_21 ?_
    refine lv_bipush (v := 62) C.1 C.2.1 dX10_isPeakRight_24 (by decide) ?_
    refine lv_aload_n C.1 C.2.1 dX10_isPeakRight_26 rfl (lv_at hl 0 rfl) ?_
    refine gX10_235 C hP hb2 dX10_isPeakRight_27 ?_
    refine lv_imul C.1 C.2.1 dX10_isPeakRight_30 ?_
    refine lv_aload_n C.1 C.2.1 dX10_isPeakRight_31 rfl (lv_at hl 0 rfl) ?_
    refine lv_iload_n C.1 C.2.1 dX10_isPeakRight_32 rfl (lv_at hl 3 rfl) ?_
    refine goI (wf := (xw g)) (runV (w := xw g M3) (As := [.int a2]) (rest := [.int ((62 : Int32) * (M3.1 25 (5 * w1 + (a1 : Int32).toNatClampNeg) 4)), .int (M3.1 11 0 1)]) C lkX10_238 (c_X0_startIn l g C.2.2.2.2.2.2.2.2.2.2 ((5 * w1 + (a1 : Int32).toNatClampNeg)) a2 hb2 M3 _ hw) hP hS rfl rfl ⟨Nat.le_of_ble_eq_true rfl, Nat.le_of_ble_eq_true rfl⟩ (xx_25 hb2) rfl rfl hl.1 rfl (Nat.le_of_ble_eq_true rfl) dX10_isPeakRight_33) hS (fun r5 M5 hw H locs hP hS => ?_)
    refine lv_bipush (v := 62) C.1 C.2.1 dX10_isPeakRight_36 (by decide) ?_
    refine lv_irem C.1 C.2.1 dX10_isPeakRight_38 (by decide) ?_
    refine lv_iadd C.1 C.2.1 dX10_isPeakRight_39 ?_
    refine lv_icmp_ne (tgt := 47) C.1 C.2.1 dX10_isPeakRight_40 (by decide) (fun h6 => ?_) (fun h6 => ?_)
    · have hw := hw.1 h6
      refine lv_iconst (v := 0) C.1 C.2.1 dX10_isPeakRight_47 (by decide) ?_
      exact retZ (wf := (xw g)) C hP hS rfl hw dX10_isPeakRight_48
    · have hw := hw.2 h6
      refine lv_iconst (v := 1) C.1 C.2.1 dX10_isPeakRight_43 (by decide) ?_
      refine lv_goto (tgt := 48) C.1 C.2.1 dX10_isPeakRight_44 (by decide) ?_
      exact retZ (wf := (xw g)) C hP hS rfl hw dX10_isPeakRight_48
def p_X10_hunt (a1 : Int32) (a2 : Int32) (a3 : Int32) (a4 : Int32) (M : Mem) (Q : Int32 → Mem → Prop) : Prop := (p_X10_isBird a1 M (fun r1 M1 => ((r1 = 0 → (Q (-1) M1)) ∧ (¬ r1 = 0 → (p_X10_arePeriods a2 a3 4 M1 (fun r3 M3 => ((r3 = 0 → (Q (-1) M3)) ∧ (¬ r3 = 0 → ((a4 < 0 → (Q (-1) M3)) ∧ (¬ a4 < 0 → ((a4 ≤ 3 → (p_X10_huntOver a1 a2 a3 M3 (fun M7 => ((a4 = 0 → (Q (M7.1 11 0 1) M7)) ∧ (a4 = 1 → (Q (M7.1 11 0 2) M7)) ∧ (a4 = 2 → (Q (M7.1 11 0 3) M7)) ∧ (¬ a4 = 0 → ¬ a4 = 1 → ¬ a4 = 2 → (∃ w9 : Nat, M7.2.2 0 0 3 = some (23 + w9) ∧ w9 < 2 ∧ (p_X4_isAcquired ((M7.1 23 w9 9)) M7 (fun r10 M10 => ((r10 = 0 → (Q 0 M10)) ∧ (¬ r10 = 0 → (Q 1 M10))))))))))) ∧ (¬ a4 ≤ 3 → (Q (-1) M3)))))))))))))
set_option maxRecDepth 100000 in
set_option maxHeartbeats 4000000 in
theorem c_X10_hunt (l : Launch) (g : Geo) (gi : GI g) (a1 : Int32) (a2 : Int32) (a3 : Int32) (a4 : Int32) (M : Mem) (Q : Int32 → Mem → Prop) (hw : p_X10_hunt a1 a2 a3 a4 M Q) : Met l yX10_hunt (Cond.code yX10_hunt cX10_hunt 5 (some .int) :: bg) ({ frames := 5, cells := 0, slots := 0, locals := 123 } : Room) (va_Pc [.ref (g.2.1 (0 + 0)), .int a1, .int a2, .int a3, .int a4] (PW g (xw g M))) (va_Qi Q (PB g (xw g)) (Af 0 g)) 0 0 (Af 0 g) := by
  refine Met.ofW (cc := cX10_hunt) (maxL := 5) (ret := (some .int)) (by decide +kernel) rfl ?_
  intro p e s m args below meth c s₁ B hml hv
  obtain ⟨rfl, hv⟩ := hv
  have C := CX.start (own := RX10) B hml rfl gi hv
  have hP := hv.1
  have hS : va_S (Af 0 g) s.heap s.heap [] := va_S.rf
  have hl := lv_entry ([.ref (g.2.1 (0 + 0)), .int a1, .int a2, .int a3, .int a4]) (n := 5) (Nat.le_of_ble_eq_true rfl)
  rw [lg_entry_eq]
  generalize (lg_sl ([.ref (g.2.1 (0 + 0)), .int a1, .int a2, .int a3, .int a4]) ++ List.replicate (5 - (lg_sl ([.ref (g.2.1 (0 + 0)), .int a1, .int a2, .int a3, .int a4])).length) Slot.unset).toArray = ls at hl ⊢
  have hl : lv_has ls 5 [(0, .ref (g.2.1 (0 + 0))), (1, .int a1), (2, .int a2), (3, .int a3), (4, .int a4)] := hl
  unfold p_X10_hunt at hw
  refine lv_aload_n C.1 C.2.1 dX10_hunt_0 rfl (lv_at hl 0 rfl) ?_
  refine lv_iload_n C.1 C.2.1 dX10_hunt_1 rfl (lv_at hl 1 rfl) ?_
  refine goI (wf := (xw g)) (runV (w := xw g M) (As := [.int a1]) (rest := []) C lkX10_111 (c_X10_isBird l g C.2.2.2.2.2.2.2.2.2.2 a1  M _ hw) hP hS rfl rfl ⟨Nat.le_of_ble_eq_true rfl, Nat.le_of_ble_eq_true rfl⟩ (xx_0 Nat.zero_lt_one) rfl rfl hl.1 rfl (Nat.le_of_ble_eq_true rfl) dX10_hunt_2) hS (fun r1 M1 hw H locs hP hS => ?_)
  obtain ⟨hw, hz1⟩ := hw
  refine lv_if_eq (tgt := 28) C.1 C.2.1 dX10_hunt_5 (by decide) (fun h2 => ?_) (fun h2 => ?_)
  · have hw := hw.1 h2
    refine lv_iconst (v := (-1)) C.1 C.2.1 dX10_hunt_28 (by decide) ?_
    exact retI (wf := (xw g)) C hP hS hw dX10_hunt_29
  · have hw := hw.2 h2
    refine lv_iload_n C.1 C.2.1 dX10_hunt_8 rfl (lv_at hl 2 rfl) ?_
    refine lv_iload_n C.1 C.2.1 dX10_hunt_9 rfl (lv_at hl 3 rfl) ?_
    refine lv_iconst (v := 4) C.1 C.2.1 dX10_hunt_10 (by decide) ?_
    refine goI (wf := (xw g)) (runS (w := xw g M1) (As := [.int a2, .int a3, .int 4]) (rest := []) C lkX10_241 (c_X10_arePeriods l g C.2.2.2.2.2.2.2.2.2.2 a2 a3 4  M1 _ hw) hP hS rfl rfl ⟨Nat.le_of_ble_eq_true rfl, Nat.le_of_ble_eq_true rfl⟩ hl.1 rfl (Nat.le_of_ble_eq_true rfl) dX10_hunt_11) hS (fun r3 M3 hw H locs hP hS => ?_)
    obtain ⟨hw, hz3⟩ := hw
    refine lv_if_eq (tgt := 28) C.1 C.2.1 dX10_hunt_14 (by decide) (fun h4 => ?_) (fun h4 => ?_)
    · have hw := hw.1 h4
      refine lv_iconst (v := (-1)) C.1 C.2.1 dX10_hunt_28 (by decide) ?_
      exact retI (wf := (xw g)) C hP hS hw dX10_hunt_29
    · have hw := hw.2 h4
      refine lv_iload C.1 C.2.1 dX10_hunt_17 (lv_at hl 4 rfl) ?_
      refine lv_if_lt (tgt := 28) C.1 C.2.1 dX10_hunt_19 (by decide) (fun h5 => ?_) (fun h5 => ?_)
      · have hw := hw.1 h5
        refine lv_iconst (v := (-1)) C.1 C.2.1 dX10_hunt_28 (by decide) ?_
        exact retI (wf := (xw g)) C hP hS hw dX10_hunt_29
      · have hw := hw.2 h5
        refine lv_iload C.1 C.2.1 dX10_hunt_22 (lv_at hl 4 rfl) ?_
        refine lv_iconst (v := 3) C.1 C.2.1 dX10_hunt_24 (by decide) ?_
        refine lv_icmp_le (tgt := 30) C.1 C.2.1 dX10_hunt_25 (by decide) (fun h6 => ?_) (fun h6 => ?_)
        · have hw := hw.1 h6
          refine lv_aload_n C.1 C.2.1 dX10_hunt_30 rfl (lv_at hl 0 rfl) ?_
          refine lv_iload_n C.1 C.2.1 dX10_hunt_31 rfl (lv_at hl 1 rfl) ?_
          refine lv_iload_n C.1 C.2.1 dX10_hunt_32 rfl (lv_at hl 2 rfl) ?_
          refine lv_iload_n C.1 C.2.1 dX10_hunt_33 rfl (lv_at hl 3 rfl) ?_
          refine goV (wf := (xw g)) (runV (w := xw g M3) (As := [.int a1, .int a2, .int a3]) (rest := []) C lkX10_245 (c_X10_huntOver l g C.2.2.2.2.2.2.2.2.2.2 a1 a2 a3  M3 _ hw) hP hS rfl rfl ⟨Nat.le_of_ble_eq_true rfl, Nat.le_of_ble_eq_true rfl⟩ (xx_0 Nat.zero_lt_one) rfl rfl hl.1 rfl (Nat.le_of_ble_eq_true rfl) dX10_hunt_34) hS (fun M7 hw H locs hP hS => ?_)
          refine lv_iload C.1 C.2.1 dX10_hunt_37 (lv_at hl 4 rfl) ?_
          by_cases q8_0 : a4 = 0
          · have hw := hw.1 q8_0
            refine lv_tableIn (tgt := 64) (off := 25) C.1 C.2.1 dX10_hunt_39 (by rw [q8_0]; decide) (by rw [q8_0]; decide) (by rw [q8_0]; decide +kernel) (by decide) ?_
            refine lv_aload_n C.1 C.2.1 dX10_hunt_64 rfl (lv_at hl 0 rfl) ?_
            refine gX10_40 C hP Nat.zero_lt_one dX10_hunt_65 ?_
            refine gX10_232 C hP Nat.zero_lt_one dX10_hunt_68 ?_
            exact retI (wf := (xw g)) C hP hS hw dX10_hunt_71
          by_cases q8_1 : a4 = 1
          · have hw := hw.2.1 q8_1
            refine lv_tableIn (tgt := 72) (off := 33) C.1 C.2.1 dX10_hunt_39 (by rw [q8_1]; decide) (by rw [q8_1]; decide) (by rw [q8_1]; decide +kernel) (by decide) ?_
            refine lv_aload_n C.1 C.2.1 dX10_hunt_72 rfl (lv_at hl 0 rfl) ?_
            refine gX10_40 C hP Nat.zero_lt_one dX10_hunt_73 ?_
            refine gX10_248 C hP Nat.zero_lt_one dX10_hunt_76 ?_
            exact retI (wf := (xw g)) C hP hS hw dX10_hunt_79
          by_cases q8_2 : a4 = 2
          · have hw := hw.2.2.1 q8_2
            refine lv_tableIn (tgt := 80) (off := 41) C.1 C.2.1 dX10_hunt_39 (by rw [q8_2]; decide) (by rw [q8_2]; decide) (by rw [q8_2]; decide +kernel) (by decide) ?_
            refine lv_aload_n C.1 C.2.1 dX10_hunt_80 rfl (lv_at hl 0 rfl) ?_
            refine gX10_40 C hP Nat.zero_lt_one dX10_hunt_81 ?_
            refine gX10_251 C hP Nat.zero_lt_one dX10_hunt_84 ?_
            exact retI (wf := (xw g)) C hP hS hw dX10_hunt_87
          have hw := hw.2.2.2 q8_0 q8_1 q8_2
          have n8_0 : a4.toInt ≠ 0 := tsw q8_0
          have n8_1 : a4.toInt ≠ 1 := tsw q8_1
          have n8_2 : a4.toInt ≠ 2 := tsw q8_2
          refine lv_tableOut (tgt := 88) C.1 C.2.1 dX10_hunt_39 (by omega) (by decide) ?_
          refine lv_aload_n C.1 C.2.1 dX10_hunt_88 rfl (lv_at hl 0 rfl) ?_
          refine gX10_40 C hP Nat.zero_lt_one dX10_hunt_89 ?_
          refine lv_aload_n C.1 C.2.1 dX10_hunt_92 rfl (lv_at hl 0 rfl) ?_
          obtain ⟨w9, h9, hb9, hw⟩ := hw
          refine gX10_23f C hP Nat.zero_lt_one h9 dX10_hunt_93 ?_
          refine gX10_222 C hP hb9 dX10_hunt_96 ?_
          refine goI (wf := (xw g)) (runV (w := xw g M7) (As := [.int (M7.1 23 w9 9)]) (rest := []) C lkX10_225 (c_X4_isAcquired l g C.2.2.2.2.2.2.2.2.2.2 ((M7.1 23 w9 9))  M7 _ hw) hP hS rfl rfl ⟨Nat.le_of_ble_eq_true rfl, Nat.le_of_ble_eq_true rfl⟩ (xx_11 Nat.zero_lt_one) rfl rfl hl.1 rfl (Nat.le_of_ble_eq_true rfl) dX10_hunt_99) hS (fun r10 M10 hw H locs hP hS => ?_)
          obtain ⟨hw, hz10⟩ := hw
          refine lv_if_eq (tgt := 109) C.1 C.2.1 dX10_hunt_102 (by decide) (fun h11 => ?_) (fun h11 => ?_)
          · have hw := hw.1 h11
            refine lv_iconst (v := 0) C.1 C.2.1 dX10_hunt_109 (by decide) ?_
            exact retI (wf := (xw g)) C hP hS hw dX10_hunt_110
          · have hw := hw.2 h11
            refine lv_iconst (v := 1) C.1 C.2.1 dX10_hunt_105 (by decide) ?_
            refine lv_goto (tgt := 110) C.1 C.2.1 dX10_hunt_106 (by decide) ?_
            exact retI (wf := (xw g)) C hP hS hw dX10_hunt_110
        · have hw := hw.2 h6
          refine lv_iconst (v := (-1)) C.1 C.2.1 dX10_hunt_28 (by decide) ?_
          exact retI (wf := (xw g)) C hP hS hw dX10_hunt_29
def b_X10_listen_138 (Q : Int32 → Mem → Prop) (k44 : Int32 → Int32 → Int32 → Mem → Prop) (v1 : Int32) (v2 : Int32) (v3 : Int32) (M : Mem) : Prop := (∀ x22 : Int32, x22 = (v3 + 1) → (k44 v1 v2 x22 M))
set_option maxRecDepth 100000 in
set_option maxHeartbeats 4000000 in
theorem k_X10_listen_138 {p : Program} {l : Launch} {e : Env} {s : State} {m : MethodId} {args : Array Value} {below : List Frame} {meth : Method} {c : Code} {g : Geo} (C : CX g p s m args meth c cX10_listen 5 (some .int) RX10) {Q : Int32 → Mem → Prop} {k44 : Int32 → Int32 → Int32 → Mem → Prop} (hk44 : ∀ (v1 : Int32) (v2 : Int32) (v3 : Int32) (M : Mem), k44 v1 v2 v3 M → ∀ (H : Heap) (locs : List Loc) (ls : Array Slot), lv_has ls 5 [(0, .ref (g.2.1 (0 + 0))), (1, .int v1), (2, .int v2), (3, .int v3)] → va_P g.1 clz (xw g M) H → va_S (Af 0 g) s.heap H locs → W p l e ({ frames := 4, cells := 0, slots := 0, locals := 99 } : Room) s m args below meth c H locs 0 0 (MQ below (va_Qi Q (PB g (xw g)) (Af 0 g)) args s 0 0 (Af 0 g)) (F0 m 44 ls [])) (v1 : Int32) (v2 : Int32) (v3 : Int32) (M : Mem) (hw : b_X10_listen_138 Q k44 v1 v2 v3 M) {H : Heap} {locs : List Loc} {ls : Array Slot} (hl : lv_has ls 5 [(0, .ref (g.2.1 (0 + 0))), (1, .int v1), (2, .int v2), (3, .int v3)]) (hP : va_P g.1 clz (xw g M) H) (hS : va_S (Af 0 g) s.heap H locs) : W p l e ({ frames := 4, cells := 0, slots := 0, locals := 99 } : Room) s m args below meth c H locs 0 0 (MQ below (va_Qi Q (PB g (xw g)) (Af 0 g)) args s 0 0 (Af 0 g)) (F0 m 138 ls []) := by
  unfold b_X10_listen_138 at hw
  obtain ⟨x22, e22⟩ : ∃ y : Int32, y = (v3 + 1) := ⟨_, rfl⟩
  have hw := hw x22 e22
  refine lv_iinc (v := x22) (lv' := [(3, .int x22), (0, .ref (g.2.1 (0 + 0))), (1, .int v1), (2, .int v2)]) C.1 C.2.1 dX10_listen_138 hl (k := 3) rfl (by rw [e22]; rfl) (by decide) rfl (fun ls hl => ?_)
  refine lv_goto (tgt := 44) C.1 C.2.1 dX10_listen_141 (by decide) ?_
  exact hk44 v1 v2 x22  _ hw _ _ _ (lv_sub hl [1, 2, 3, 0] rfl) hP hS
def b_X10_listen_44 (Q : Int32 → Mem → Prop) : Nat → Int32 → Int32 → Int32 → Mem → Prop
  | 0, _, _, _, _ => False
  | n + 1, v1, v2, v3, M => ((4 < v3 → (Q (-3) M)) ∧ (¬ 4 < v3 → ((200 < (v2 + v3) → (Q (-3) M)) ∧ (¬ 200 < (v2 + v3) → (∀ x12 : Int32, x12 = ((v2 + v3) - 1) → (∃ w13 : Nat, M.2.2 0 0 3 = some (23 + w13) ∧ w13 < 2 ∧ (p_X2_hear w13 x12 M (fun M14 => (∃ w15 : Nat, M14.2.2 0 0 3 = some (23 + w15) ∧ w15 < 2 ∧ (vp_in v1 5 ∧ (p_X4_add ((M14.1 25 (5 * w15 + (v1 : Int32).toNatClampNeg) 2)) x12 M14 (fun M17 => (p_X4_judge  M17 (fun M18 => (∃ w19 : Nat, M18.2.2 0 0 3 = some (23 + w19) ∧ w19 < 2 ∧ (p_X4_isAcquired ((M18.1 23 w19 9)) M18 (fun r20 M20 => ((r20 = 0 → (b_X10_listen_138 Q (fun v1 v2 v3 M => b_X10_listen_44 Q n v1 v2 v3 M) v1 v2 v3 M20)) ∧ (¬ r20 = 0 → (p_X10_isPeakRight v1 v2 M20 (fun r23 M23 => ((r23 = 0 → (b_X10_listen_138 Q (fun v1 v2 v3 M => b_X10_listen_44 Q n v1 v2 v3 M) v1 v2 v3 M23)) ∧ (¬ r23 = 0 → (Q v3 M23))))))))))))))))))))))))
set_option maxRecDepth 100000 in
set_option maxHeartbeats 4000000 in
theorem k_X10_listen_44 {p : Program} {l : Launch} {e : Env} {s : State} {m : MethodId} {args : Array Value} {below : List Frame} {meth : Method} {c : Code} {g : Geo} (C : CX g p s m args meth c cX10_listen 5 (some .int) RX10) {Q : Int32 → Mem → Prop} : ∀ (n : Nat) (v1 : Int32) (v2 : Int32) (v3 : Int32) (M : Mem) (hw : b_X10_listen_44 Q n v1 v2 v3 M) {H : Heap} {locs : List Loc} {ls : Array Slot} (hl : lv_has ls 5 [(0, .ref (g.2.1 (0 + 0))), (1, .int v1), (2, .int v2), (3, .int v3)]) (hP : va_P g.1 clz (xw g M) H) (hS : va_S (Af 0 g) s.heap H locs), W p l e ({ frames := 4, cells := 0, slots := 0, locals := 99 } : Room) s m args below meth c H locs 0 0 (MQ below (va_Qi Q (PB g (xw g)) (Af 0 g)) args s 0 0 (Af 0 g)) (F0 m 44 ls []) := by
  intro n
  induction n with
  | zero => intro v1 v2 v3 M hw H locs ls hl hP hS; exact absurd hw (by rw [b_X10_listen_44]; exact fun h => h)
  | succ n ih =>
    intro v1 v2 v3 M hw H locs ls hl hP hS
    rw [b_X10_listen_44] at hw
    refine lv_iload_n C.1 C.2.1 dX10_listen_44 rfl (lv_at hl 3 rfl) ?_
    refine lv_iconst (v := 4) C.1 C.2.1 dX10_listen_45 (by decide) ?_
    refine lv_icmp_gt (tgt := 144) C.1 C.2.1 dX10_listen_46 (by decide) (fun h10 => ?_) (fun h10 => ?_)
    · have hw := hw.1 h10
      refine lv_bipush (v := (-3)) C.1 C.2.1 dX10_listen_144 (by decide) ?_
      exact retI (wf := (xw g)) C hP hS hw dX10_listen_146
    · have hw := hw.2 h10
      refine lv_iload_n C.1 C.2.1 dX10_listen_49 rfl (lv_at hl 2 rfl) ?_
      refine lv_iload_n C.1 C.2.1 dX10_listen_50 rfl (lv_at hl 3 rfl) ?_
      refine lv_iadd C.1 C.2.1 dX10_listen_51 ?_
      refine lv_sipush (v := 200) C.1 C.2.1 dX10_listen_52 (by decide) ?_
      refine lv_icmp_gt (tgt := 144) C.1 C.2.1 dX10_listen_55 (by decide) (fun h11 => ?_) (fun h11 => ?_)
      · have hw := hw.1 h11
        refine lv_bipush (v := (-3)) C.1 C.2.1 dX10_listen_144 (by decide) ?_
        exact retI (wf := (xw g)) C hP hS hw dX10_listen_146
      · have hw := hw.2 h11
        refine lv_iload_n C.1 C.2.1 dX10_listen_58 rfl (lv_at hl 2 rfl) ?_
        refine lv_iload_n C.1 C.2.1 dX10_listen_59 rfl (lv_at hl 3 rfl) ?_
        refine lv_iadd C.1 C.2.1 dX10_listen_60 ?_
        refine lv_iconst (v := 1) C.1 C.2.1 dX10_listen_61 (by decide) ?_
        refine lv_isub C.1 C.2.1 dX10_listen_62 ?_
        refine lv_topi (fun x12 e12 => ?_)
        have hw := hw x12 e12
        refine lv_istore (lv' := [(4, .int x12), (0, .ref (g.2.1 (0 + 0))), (1, .int v1), (2, .int v2), (3, .int v3)]) C.1 C.2.1 dX10_listen_63 hl (by decide) rfl (fun ls hl => ?_)
        refine lv_aload_n C.1 C.2.1 dX10_listen_65 rfl (lv_at hl 1 rfl) ?_
        refine gX10_33 C hP Nat.zero_lt_one dX10_listen_66 ?_
        refine lv_aload_n C.1 C.2.1 dX10_listen_69 rfl (lv_at hl 1 rfl) ?_
        obtain ⟨w13, h13, hb13, hw⟩ := hw
        refine gX10_23f C hP Nat.zero_lt_one h13 dX10_listen_70 ?_
        refine lv_iload C.1 C.2.1 dX10_listen_73 (lv_at hl 0 rfl) ?_
        refine goV (wf := (xw g)) (runV (w := xw g M) (As := [.ref (g.2.1 (23 + w13)), .int x12]) (rest := []) C lkX10_175 (c_X2_hear l g C.2.2.2.2.2.2.2.2.2.2 w13 x12 hb13 M _ hw) hP hS rfl rfl ⟨Nat.le_of_ble_eq_true rfl, Nat.le_of_ble_eq_true rfl⟩ (xx_5 Nat.zero_lt_one) rfl rfl hl.1 rfl (Nat.le_of_ble_eq_true rfl) dX10_listen_75) hS (fun M14 hw H locs hP hS => ?_)
        refine lv_aload_n C.1 C.2.1 dX10_listen_78 rfl (lv_at hl 1 rfl) ?_
        refine gX10_40 C hP Nat.zero_lt_one dX10_listen_79 ?_
        refine lv_aload_n C.1 C.2.1 dX10_listen_82 rfl (lv_at hl 1 rfl) ?_
        refine gX10_33 C hP Nat.zero_lt_one dX10_listen_83 ?_
        refine lv_aload_n C.1 C.2.1 dX10_listen_86 rfl (lv_at hl 1 rfl) ?_
        obtain ⟨w15, h15, hb15, hw⟩ := hw
        refine gX10_23f C hP Nat.zero_lt_one h15 dX10_listen_87 ?_
        refine gX10_127 C hP hb15 dX10_listen_90 ?_
        refine lv_iload_n C.1 C.2.1 dX10_listen_93 rfl (lv_at hl 2 rfl) ?_
        obtain ⟨h16, hw⟩ := hw
        have hb16 : (5 * w15 + (v1 : Int32).toNatClampNeg) < 10 := by have h9 := vp_lt h16; have h8 := hb15; omega
        refine al_24 C hP hb15 h16 dX10_listen_94 ?_
        refine gX10_141 C hP hb16 dX10_listen_95 ?_
        refine lv_iload C.1 C.2.1 dX10_listen_98 (lv_at hl 0 rfl) ?_
        refine goV (wf := (xw g)) (runV (w := xw g M14) (As := [.ref (g.2.1 (5 + 0)), .int (M14.1 25 (5 * w15 + (v1 : Int32).toNatClampNeg) 2), .int x12]) (rest := []) C lkX10_211 (c_X4_add l g C.2.2.2.2.2.2.2.2.2.2 ((M14.1 25 (5 * w15 + (v1 : Int32).toNatClampNeg) 2)) x12  M14 _ hw) hP hS rfl rfl ⟨Nat.le_of_ble_eq_true rfl, Nat.le_of_ble_eq_true rfl⟩ (xx_11 Nat.zero_lt_one) rfl rfl hl.1 rfl (Nat.le_of_ble_eq_true rfl) dX10_listen_100) hS (fun M17 hw H locs hP hS => ?_)
        refine lv_aload_n C.1 C.2.1 dX10_listen_103 rfl (lv_at hl 1 rfl) ?_
        refine gX10_40 C hP Nat.zero_lt_one dX10_listen_104 ?_
        refine goV (wf := (xw g)) (runV (w := xw g M17) (As := []) (rest := []) C lkX10_215 (c_X4_judge l g C.2.2.2.2.2.2.2.2.2.2   M17 _ hw) hP hS rfl rfl ⟨Nat.le_of_ble_eq_true rfl, Nat.le_of_ble_eq_true rfl⟩ (xx_11 Nat.zero_lt_one) rfl rfl hl.1 rfl (Nat.le_of_ble_eq_true rfl) dX10_listen_107) hS (fun M18 hw H locs hP hS => ?_)
        refine lv_aload_n C.1 C.2.1 dX10_listen_110 rfl (lv_at hl 1 rfl) ?_
        refine gX10_40 C hP Nat.zero_lt_one dX10_listen_111 ?_
        refine lv_aload_n C.1 C.2.1 dX10_listen_114 rfl (lv_at hl 1 rfl) ?_
        obtain ⟨w19, h19, hb19, hw⟩ := hw
        refine gX10_23f C hP Nat.zero_lt_one h19 dX10_listen_115 ?_
        refine gX10_222 C hP hb19 dX10_listen_118 ?_
        refine goI (wf := (xw g)) (runV (w := xw g M18) (As := [.int (M18.1 23 w19 9)]) (rest := []) C lkX10_225 (c_X4_isAcquired l g C.2.2.2.2.2.2.2.2.2.2 ((M18.1 23 w19 9))  M18 _ hw) hP hS rfl rfl ⟨Nat.le_of_ble_eq_true rfl, Nat.le_of_ble_eq_true rfl⟩ (xx_11 Nat.zero_lt_one) rfl rfl hl.1 rfl (Nat.le_of_ble_eq_true rfl) dX10_listen_121) hS (fun r20 M20 hw H locs hP hS => ?_)
        obtain ⟨hw, hz20⟩ := hw
        refine lv_if_eq (tgt := 138) C.1 C.2.1 dX10_listen_124 (by decide) (fun h21 => ?_) (fun h21 => ?_)
        · have hw := hw.1 h21
          exact k_X10_listen_138 (Q := Q) C (fun v1 v2 v3  M hw H locs ls hl hP hS => ih v1 v2 v3  M hw hl hP hS) v1 v2 v3  _ hw (lv_sub hl [1, 2, 3, 4] rfl) hP hS
        · have hw := hw.2 h21
          refine lv_aload_n C.1 C.2.1 dX10_listen_127 rfl (lv_at hl 1 rfl) ?_
          refine lv_iload_n C.1 C.2.1 dX10_listen_128 rfl (lv_at hl 2 rfl) ?_
          refine lv_iload_n C.1 C.2.1 dX10_listen_129 rfl (lv_at hl 3 rfl) ?_
          refine goI (wf := (xw g)) (runV (w := xw g M20) (As := [.int v1, .int v2]) (rest := []) C lkX10_254 (c_X10_isPeakRight l g C.2.2.2.2.2.2.2.2.2.2 v1 v2  M20 _ hw) hP hS rfl rfl ⟨Nat.le_of_ble_eq_true rfl, Nat.le_of_ble_eq_true rfl⟩ (xx_0 Nat.zero_lt_one) rfl rfl hl.1 rfl (Nat.le_of_ble_eq_true rfl) dX10_listen_130) hS (fun r23 M23 hw H locs hP hS => ?_)
          obtain ⟨hw, hz23⟩ := hw
          refine lv_if_eq (tgt := 138) C.1 C.2.1 dX10_listen_133 (by decide) (fun h24 => ?_) (fun h24 => ?_)
          · have hw := hw.1 h24
            exact k_X10_listen_138 (Q := Q) C (fun v1 v2 v3  M hw H locs ls hl hP hS => ih v1 v2 v3  M hw hl hP hS) v1 v2 v3  _ hw (lv_sub hl [1, 2, 3, 4] rfl) hP hS
          · have hw := hw.2 h24
            refine lv_iload_n C.1 C.2.1 dX10_listen_136 rfl (lv_at hl 4 rfl) ?_
            exact retI (wf := (xw g)) C hP hS hw dX10_listen_137
def p_X10_listen (a1 : Int32) (a2 : Int32) (M : Mem) (Q : Int32 → Mem → Prop) : Prop := (p_X10_isBird a1 M (fun r1 M1 => ((r1 = 0 → (Q (-1) M1)) ∧ (¬ r1 = 0 → (p_X10_isPeriod a2 M1 (fun r3 M3 => ((¬ r3 = 0 → (∃ w5 : Nat, M3.2.2 0 0 3 = some (23 + w5) ∧ w5 < 2 ∧ (vp_in a1 5 ∧ (p_X0_isHeard ((5 * w5 + (a1 : Int32).toNatClampNeg)) M3 (fun r7 M7 => ((¬ r7 = 0 → (p_X4_begin  M7 (fun M9 => (∃ n44 : Nat, b_X10_listen_44 Q n44 a1 a2 1 M9)))) ∧ (r7 = 0 → (Q (-2) M7)))))))) ∧ (r3 = 0 → (Q (-1) M3)))))))))
set_option maxRecDepth 100000 in
set_option maxHeartbeats 4000000 in
theorem c_X10_listen (l : Launch) (g : Geo) (gi : GI g) (a1 : Int32) (a2 : Int32) (M : Mem) (Q : Int32 → Mem → Prop) (hw : p_X10_listen a1 a2 M Q) : Met l yX10_listen (Cond.code yX10_listen cX10_listen 5 (some .int) :: bg) ({ frames := 4, cells := 0, slots := 0, locals := 99 } : Room) (va_Pc [.ref (g.2.1 (0 + 0)), .int a1, .int a2] (PW g (xw g M))) (va_Qi Q (PB g (xw g)) (Af 0 g)) 0 0 (Af 0 g) := by
  refine Met.ofW (cc := cX10_listen) (maxL := 5) (ret := (some .int)) (by decide +kernel) rfl ?_
  intro p e s m args below meth c s₁ B hml hv
  obtain ⟨rfl, hv⟩ := hv
  have C := CX.start (own := RX10) B hml rfl gi hv
  have hP := hv.1
  have hS : va_S (Af 0 g) s.heap s.heap [] := va_S.rf
  have hl := lv_entry ([.ref (g.2.1 (0 + 0)), .int a1, .int a2]) (n := 5) (Nat.le_of_ble_eq_true rfl)
  rw [lg_entry_eq]
  generalize (lg_sl ([.ref (g.2.1 (0 + 0)), .int a1, .int a2]) ++ List.replicate (5 - (lg_sl ([.ref (g.2.1 (0 + 0)), .int a1, .int a2])).length) Slot.unset).toArray = ls at hl ⊢
  have hl : lv_has ls 5 [(0, .ref (g.2.1 (0 + 0))), (1, .int a1), (2, .int a2)] := hl
  unfold p_X10_listen at hw
  refine lv_aload_n C.1 C.2.1 dX10_listen_0 rfl (lv_at hl 0 rfl) ?_
  refine lv_iload_n C.1 C.2.1 dX10_listen_1 rfl (lv_at hl 1 rfl) ?_
  refine goI (wf := (xw g)) (runV (w := xw g M) (As := [.int a1]) (rest := []) C lkX10_111 (c_X10_isBird l g C.2.2.2.2.2.2.2.2.2.2 a1  M _ hw) hP hS rfl rfl ⟨Nat.le_of_ble_eq_true rfl, Nat.le_of_ble_eq_true rfl⟩ (xx_0 Nat.zero_lt_one) rfl rfl hl.1 rfl (Nat.le_of_ble_eq_true rfl) dX10_listen_2) hS (fun r1 M1 hw H locs hP hS => ?_)
  obtain ⟨hw, hz1⟩ := hw
  refine lv_if_eq (tgt := 15) C.1 C.2.1 dX10_listen_5 (by decide) (fun h2 => ?_) (fun h2 => ?_)
  · have hw := hw.1 h2
    refine lv_iconst (v := (-1)) C.1 C.2.1 dX10_listen_15 (by decide) ?_
    exact retI (wf := (xw g)) C hP hS hw dX10_listen_16
  · have hw := hw.2 h2
    refine lv_iload_n C.1 C.2.1 dX10_listen_8 rfl (lv_at hl 2 rfl) ?_
    refine goI (wf := (xw g)) (runS (w := xw g M1) (As := [.int a2]) (rest := []) C lkX10_138 (c_X10_isPeriod l g C.2.2.2.2.2.2.2.2.2.2 a2  M1 _ hw) hP hS rfl rfl ⟨Nat.le_of_ble_eq_true rfl, Nat.le_of_ble_eq_true rfl⟩ hl.1 rfl (Nat.le_of_ble_eq_true rfl) dX10_listen_9) hS (fun r3 M3 hw H locs hP hS => ?_)
    obtain ⟨hw, hz3⟩ := hw
    refine lv_if_ne (tgt := 17) C.1 C.2.1 dX10_listen_12 (by decide) (fun h4 => ?_) (fun h4 => ?_)
    · have hw := hw.1 h4
      refine lv_aload_n C.1 C.2.1 dX10_listen_17 rfl (lv_at hl 0 rfl) ?_
      obtain ⟨w5, h5, hb5, hw⟩ := hw
      refine gX10_23f C hP Nat.zero_lt_one h5 dX10_listen_18 ?_
      refine gX10_127 C hP hb5 dX10_listen_21 ?_
      refine lv_iload_n C.1 C.2.1 dX10_listen_24 rfl (lv_at hl 1 rfl) ?_
      obtain ⟨h6, hw⟩ := hw
      have hb6 : (5 * w5 + (a1 : Int32).toNatClampNeg) < 10 := by have h9 := vp_lt h6; have h8 := hb5; omega
      refine al_24 C hP hb5 h6 dX10_listen_25 ?_
      refine goI (wf := (xw g)) (runV (w := xw g M3) (As := []) (rest := []) C lkX10_228 (c_X0_isHeard l g C.2.2.2.2.2.2.2.2.2.2 ((5 * w5 + (a1 : Int32).toNatClampNeg)) hb6 M3 _ hw) hP hS rfl rfl ⟨Nat.le_of_ble_eq_true rfl, Nat.le_of_ble_eq_true rfl⟩ (xx_25 hb6) rfl rfl hl.1 rfl (Nat.le_of_ble_eq_true rfl) dX10_listen_26) hS (fun r7 M7 hw H locs hP hS => ?_)
      obtain ⟨hw, hz7⟩ := hw
      refine lv_if_ne (tgt := 35) C.1 C.2.1 dX10_listen_29 (by decide) (fun h8 => ?_) (fun h8 => ?_)
      · have hw := hw.1 h8
        refine lv_aload_n C.1 C.2.1 dX10_listen_35 rfl (lv_at hl 0 rfl) ?_
        refine gX10_40 C hP Nat.zero_lt_one dX10_listen_36 ?_
        refine goV (wf := (xw g)) (runV (w := xw g M7) (As := []) (rest := []) C lkX10_208 (c_X4_begin l g C.2.2.2.2.2.2.2.2.2.2   M7 _ hw) hP hS rfl rfl ⟨Nat.le_of_ble_eq_true rfl, Nat.le_of_ble_eq_true rfl⟩ (xx_11 Nat.zero_lt_one) rfl rfl hl.1 rfl (Nat.le_of_ble_eq_true rfl) dX10_listen_39) hS (fun M9 hw H locs hP hS => ?_)
        refine lv_iconst (v := 1) C.1 C.2.1 dX10_listen_42 (by decide) ?_
        refine lv_istore_n (lv' := [(3, .int 1), (0, .ref (g.2.1 (0 + 0))), (1, .int a1), (2, .int a2)]) C.1 C.2.1 dX10_listen_43 rfl hl (by decide) rfl (fun ls hl => ?_)
        obtain ⟨n9, hw⟩ := hw
        exact k_X10_listen_44 (Q := Q) C n9 a1 a2 1  _ hw (lv_sub hl [1, 2, 3, 0] rfl) hP hS
      · have hw := hw.2 h8
        refine lv_bipush (v := (-2)) C.1 C.2.1 dX10_listen_32 (by decide) ?_
        exact retI (wf := (xw g)) C hP hS hw dX10_listen_34
    · have hw := hw.2 h4
      refine lv_iconst (v := (-1)) C.1 C.2.1 dX10_listen_15 (by decide) ?_
      exact retI (wf := (xw g)) C hP hS hw dX10_listen_16
def b_X10_clear_53 (Q : Int32 → Mem → Prop) (v1 : Int32) (v2 : Int32) (v4 : Int32) (s0 : Int32) (M : Mem) : Prop := (∃ w9 : Nat, M.2.2 0 0 3 = some (23 + w9) ∧ w9 < 2 ∧ (p_X10_isAcquiredAs v1 v2 v4 ((M.1 23 w9 8)) s0 M (fun r10 M10 => ((r10 = 0 → (Q 0 M10)) ∧ (¬ r10 = 0 → (Q 1 M10))))))
set_option maxRecDepth 100000 in
set_option maxHeartbeats 4000000 in
theorem k_X10_clear_53 {p : Program} {l : Launch} {e : Env} {s : State} {m : MethodId} {args : Array Value} {below : List Frame} {meth : Method} {c : Code} {g : Geo} (C : CX g p s m args meth c cX10_clear 6 (some .int) RX10) {Q : Int32 → Mem → Prop} (v1 : Int32) (v2 : Int32) (v4 : Int32) (s0 : Int32) (M : Mem) (hw : b_X10_clear_53 Q v1 v2 v4 s0 M) {H : Heap} {locs : List Loc} {ls : Array Slot} (hl : lv_has ls 6 [(0, .ref (g.2.1 (0 + 0))), (1, .int v1), (2, .int v2), (4, .int v4)]) (hP : va_P g.1 clz (xw g M) H) (hS : va_S (Af 0 g) s.heap H locs) : W p l e ({ frames := 4, cells := 0, slots := 0, locals := 102 } : Room) s m args below meth c H locs 0 0 (MQ below (va_Qi Q (PB g (xw g)) (Af 0 g)) args s 0 0 (Af 0 g)) (F0 m 53 ls [.int s0]) := by
  unfold b_X10_clear_53 at hw
  refine lv_istore (lv' := [(5, .int s0), (0, .ref (g.2.1 (0 + 0))), (1, .int v1), (2, .int v2), (4, .int v4)]) C.1 C.2.1 dX10_clear_53 hl (by decide) rfl (fun ls hl => ?_)
  refine lv_aload_n C.1 C.2.1 dX10_clear_55 rfl (lv_at hl 1 rfl) ?_
  refine lv_iload_n C.1 C.2.1 dX10_clear_56 rfl (lv_at hl 2 rfl) ?_
  refine lv_iload_n C.1 C.2.1 dX10_clear_57 rfl (lv_at hl 3 rfl) ?_
  refine lv_iload C.1 C.2.1 dX10_clear_58 (lv_at hl 4 rfl) ?_
  refine lv_aload_n C.1 C.2.1 dX10_clear_60 rfl (lv_at hl 1 rfl) ?_
  obtain ⟨w9, h9, hb9, hw⟩ := hw
  refine gX10_23f C hP Nat.zero_lt_one h9 dX10_clear_61 ?_
  refine gX10_261 C hP hb9 dX10_clear_64 ?_
  refine lv_iload C.1 C.2.1 dX10_clear_67 (lv_at hl 0 rfl) ?_
  refine goI (wf := (xw g)) (runV (w := xw g M) (As := [.int v1, .int v2, .int v4, .int (M.1 23 w9 8), .int s0]) (rest := []) C lkX10_264 (c_X10_isAcquiredAs l g C.2.2.2.2.2.2.2.2.2.2 v1 v2 v4 ((M.1 23 w9 8)) s0  M _ hw) hP hS rfl rfl ⟨Nat.le_of_ble_eq_true rfl, Nat.le_of_ble_eq_true rfl⟩ (xx_0 Nat.zero_lt_one) rfl rfl hl.1 rfl (Nat.le_of_ble_eq_true rfl) dX10_clear_69) hS (fun r10 M10 hw H locs hP hS => ?_)
  obtain ⟨hw, hz10⟩ := hw
  refine lv_if_eq (tgt := 79) C.1 C.2.1 dX10_clear_72 (by decide) (fun h11 => ?_) (fun h11 => ?_)
  · have hw := hw.1 h11
    refine lv_iconst (v := 0) C.1 C.2.1 dX10_clear_79 (by decide) ?_
    exact retI (wf := (xw g)) C hP hS hw dX10_clear_80
  · have hw := hw.2 h11
    refine lv_iconst (v := 1) C.1 C.2.1 dX10_clear_75 (by decide) ?_
    refine lv_goto (tgt := 80) C.1 C.2.1 dX10_clear_76 (by decide) ?_
    exact retI (wf := (xw g)) C hP hS hw dX10_clear_80
def b_X10_clear_42 (Q : Int32 → Mem → Prop) (v1 : Int32) (v2 : Int32) (v3 : Int32) (s0 : Int32) (M : Mem) : Prop := ((¬ v3 = 0 → (b_X10_clear_53 Q v1 v2 s0 v1 M)) ∧ (v3 = 0 → (b_X10_clear_53 Q v1 v2 s0 (-1) M)))
set_option maxRecDepth 100000 in
set_option maxHeartbeats 4000000 in
theorem k_X10_clear_42 {p : Program} {l : Launch} {e : Env} {s : State} {m : MethodId} {args : Array Value} {below : List Frame} {meth : Method} {c : Code} {g : Geo} (C : CX g p s m args meth c cX10_clear 6 (some .int) RX10) {Q : Int32 → Mem → Prop} (v1 : Int32) (v2 : Int32) (v3 : Int32) (s0 : Int32) (M : Mem) (hw : b_X10_clear_42 Q v1 v2 v3 s0 M) {H : Heap} {locs : List Loc} {ls : Array Slot} (hl : lv_has ls 6 [(0, .ref (g.2.1 (0 + 0))), (1, .int v1), (2, .int v2), (3, .int v3)]) (hP : va_P g.1 clz (xw g M) H) (hS : va_S (Af 0 g) s.heap H locs) : W p l e ({ frames := 4, cells := 0, slots := 0, locals := 102 } : Room) s m args below meth c H locs 0 0 (MQ below (va_Qi Q (PB g (xw g)) (Af 0 g)) args s 0 0 (Af 0 g)) (F0 m 42 ls [.int s0]) := by
  unfold b_X10_clear_42 at hw
  refine lv_istore (lv' := [(4, .int s0), (0, .ref (g.2.1 (0 + 0))), (1, .int v1), (2, .int v2), (3, .int v3)]) C.1 C.2.1 dX10_clear_42 hl (by decide) rfl (fun ls hl => ?_)
  refine lv_iload_n C.1 C.2.1 dX10_clear_44 rfl (lv_at hl 4 rfl) ?_
  refine lv_if_ne (tgt := 52) C.1 C.2.1 dX10_clear_45 (by decide) (fun h8 => ?_) (fun h8 => ?_)
  · have hw := hw.1 h8
    refine lv_iload_n C.1 C.2.1 dX10_clear_52 rfl (lv_at hl 2 rfl) ?_
    exact k_X10_clear_53 (Q := Q) C v1 v2 s0 v1  _ hw (lv_sub hl [1, 2, 3, 0] rfl) hP hS
  · have hw := hw.2 h8
    refine lv_iconst (v := (-1)) C.1 C.2.1 dX10_clear_48 (by decide) ?_
    refine lv_goto (tgt := 53) C.1 C.2.1 dX10_clear_49 (by decide) ?_
    exact k_X10_clear_53 (Q := Q) C v1 v2 s0 (-1)  _ hw (lv_sub hl [1, 2, 3, 0] rfl) hP hS
def p_X10_clear (a1 : Int32) (a2 : Int32) (a3 : Int32) (M : Mem) (Q : Int32 → Mem → Prop) : Prop := (p_X10_isBird a1 M (fun r1 M1 => ((r1 = 0 → (Q (-1) M1)) ∧ (¬ r1 = 0 → (p_X10_isPeriod a2 M1 (fun r3 M3 => ((r3 = 0 → (Q (-1) M3)) ∧ (¬ r3 = 0 → ((a3 < 0 → (Q (-1) M3)) ∧ (¬ a3 < 0 → ((a3 ≤ 2 → ((¬ a3 = 1 → (b_X10_clear_42 Q a1 a2 a3 0 M3)) ∧ (a3 = 1 → (∃ w12 : Nat, M3.2.2 0 0 3 = some (23 + w12) ∧ w12 < 2 ∧ (b_X10_clear_42 Q a1 a2 a3 ((M3.1 23 w12 7)) M3))))) ∧ (¬ a3 ≤ 2 → (Q (-1) M3)))))))))))))
set_option maxRecDepth 100000 in
set_option maxHeartbeats 4000000 in
theorem c_X10_clear (l : Launch) (g : Geo) (gi : GI g) (a1 : Int32) (a2 : Int32) (a3 : Int32) (M : Mem) (Q : Int32 → Mem → Prop) (hw : p_X10_clear a1 a2 a3 M Q) : Met l yX10_clear (Cond.code yX10_clear cX10_clear 6 (some .int) :: bg) ({ frames := 4, cells := 0, slots := 0, locals := 102 } : Room) (va_Pc [.ref (g.2.1 (0 + 0)), .int a1, .int a2, .int a3] (PW g (xw g M))) (va_Qi Q (PB g (xw g)) (Af 0 g)) 0 0 (Af 0 g) := by
  refine Met.ofW (cc := cX10_clear) (maxL := 6) (ret := (some .int)) (by decide +kernel) rfl ?_
  intro p e s m args below meth c s₁ B hml hv
  obtain ⟨rfl, hv⟩ := hv
  have C := CX.start (own := RX10) B hml rfl gi hv
  have hP := hv.1
  have hS : va_S (Af 0 g) s.heap s.heap [] := va_S.rf
  have hl := lv_entry ([.ref (g.2.1 (0 + 0)), .int a1, .int a2, .int a3]) (n := 6) (Nat.le_of_ble_eq_true rfl)
  rw [lg_entry_eq]
  generalize (lg_sl ([.ref (g.2.1 (0 + 0)), .int a1, .int a2, .int a3]) ++ List.replicate (6 - (lg_sl ([.ref (g.2.1 (0 + 0)), .int a1, .int a2, .int a3])).length) Slot.unset).toArray = ls at hl ⊢
  have hl : lv_has ls 6 [(0, .ref (g.2.1 (0 + 0))), (1, .int a1), (2, .int a2), (3, .int a3)] := hl
  unfold p_X10_clear at hw
  refine lv_aload_n C.1 C.2.1 dX10_clear_0 rfl (lv_at hl 0 rfl) ?_
  refine lv_iload_n C.1 C.2.1 dX10_clear_1 rfl (lv_at hl 1 rfl) ?_
  refine goI (wf := (xw g)) (runV (w := xw g M) (As := [.int a1]) (rest := []) C lkX10_111 (c_X10_isBird l g C.2.2.2.2.2.2.2.2.2.2 a1  M _ hw) hP hS rfl rfl ⟨Nat.le_of_ble_eq_true rfl, Nat.le_of_ble_eq_true rfl⟩ (xx_0 Nat.zero_lt_one) rfl rfl hl.1 rfl (Nat.le_of_ble_eq_true rfl) dX10_clear_2) hS (fun r1 M1 hw H locs hP hS => ?_)
  obtain ⟨hw, hz1⟩ := hw
  refine lv_if_eq (tgt := 24) C.1 C.2.1 dX10_clear_5 (by decide) (fun h2 => ?_) (fun h2 => ?_)
  · have hw := hw.1 h2
    refine lv_iconst (v := (-1)) C.1 C.2.1 dX10_clear_24 (by decide) ?_
    exact retI (wf := (xw g)) C hP hS hw dX10_clear_25
  · have hw := hw.2 h2
    refine lv_iload_n C.1 C.2.1 dX10_clear_8 rfl (lv_at hl 2 rfl) ?_
    refine goI (wf := (xw g)) (runS (w := xw g M1) (As := [.int a2]) (rest := []) C lkX10_138 (c_X10_isPeriod l g C.2.2.2.2.2.2.2.2.2.2 a2  M1 _ hw) hP hS rfl rfl ⟨Nat.le_of_ble_eq_true rfl, Nat.le_of_ble_eq_true rfl⟩ hl.1 rfl (Nat.le_of_ble_eq_true rfl) dX10_clear_9) hS (fun r3 M3 hw H locs hP hS => ?_)
    obtain ⟨hw, hz3⟩ := hw
    refine lv_if_eq (tgt := 24) C.1 C.2.1 dX10_clear_12 (by decide) (fun h4 => ?_) (fun h4 => ?_)
    · have hw := hw.1 h4
      refine lv_iconst (v := (-1)) C.1 C.2.1 dX10_clear_24 (by decide) ?_
      exact retI (wf := (xw g)) C hP hS hw dX10_clear_25
    · have hw := hw.2 h4
      refine lv_iload_n C.1 C.2.1 dX10_clear_15 rfl (lv_at hl 3 rfl) ?_
      refine lv_if_lt (tgt := 24) C.1 C.2.1 dX10_clear_16 (by decide) (fun h5 => ?_) (fun h5 => ?_)
      · have hw := hw.1 h5
        refine lv_iconst (v := (-1)) C.1 C.2.1 dX10_clear_24 (by decide) ?_
        exact retI (wf := (xw g)) C hP hS hw dX10_clear_25
      · have hw := hw.2 h5
        refine lv_iload_n C.1 C.2.1 dX10_clear_19 rfl (lv_at hl 3 rfl) ?_
        refine lv_iconst (v := 2) C.1 C.2.1 dX10_clear_20 (by decide) ?_
        refine lv_icmp_le (tgt := 26) C.1 C.2.1 dX10_clear_21 (by decide) (fun h6 => ?_) (fun h6 => ?_)
        · have hw := hw.1 h6
          refine lv_iload_n C.1 C.2.1 dX10_clear_26 rfl (lv_at hl 3 rfl) ?_
          refine lv_iconst (v := 1) C.1 C.2.1 dX10_clear_27 (by decide) ?_
          refine lv_icmp_ne (tgt := 41) C.1 C.2.1 dX10_clear_28 (by decide) (fun h7 => ?_) (fun h7 => ?_)
          · have hw := hw.1 h7
            refine lv_iconst (v := 0) C.1 C.2.1 dX10_clear_41 (by decide) ?_
            exact k_X10_clear_42 (Q := Q) C a1 a2 a3 0  _ hw (lv_sub hl [0, 1, 2, 3] rfl) hP hS
          · have hw := hw.2 h7
            refine lv_aload_n C.1 C.2.1 dX10_clear_31 rfl (lv_at hl 0 rfl) ?_
            obtain ⟨w12, h12, hb12, hw⟩ := hw
            refine gX10_23f C hP Nat.zero_lt_one h12 dX10_clear_32 ?_
            refine gX10_258 C hP hb12 dX10_clear_35 ?_
            refine lv_goto (tgt := 42) C.1 C.2.1 dX10_clear_38 (by decide) ?_
            exact k_X10_clear_42 (Q := Q) C a1 a2 a3 ((M3.1 23 w12 7))  _ hw (lv_sub hl [0, 1, 2, 3] rfl) hP hS
        · have hw := hw.2 h6
          refine lv_iconst (v := (-1)) C.1 C.2.1 dX10_clear_24 (by decide) ?_
          exact retI (wf := (xw g)) C hP hS hw dX10_clear_25
def b_X10_limit_19 (Q : Int32 → Mem → Prop) : Nat → Int32 → Int32 → Int32 → Mem → Prop
  | 0, _, _, _, _ => False
  | n + 1, v1, v2, v3, M => ((99 < v3 → (Q (-2) M)) ∧ (¬ 99 < v3 → (∃ w6 : Nat, M.2.2 0 0 3 = some (23 + w6) ∧ w6 < 2 ∧ (p_X10_isAcquiredAs v1 v2 v3 ((M.1 23 w6 8)) (-1) M (fun r7 M7 => ((¬ r7 = 0 → (∀ x9 : Int32, x9 = (v3 + 9) → (b_X10_limit_19 Q n v1 v2 x9 M7))) ∧ (r7 = 0 → (Q v3 M7))))))))
set_option maxRecDepth 100000 in
set_option maxHeartbeats 4000000 in
theorem k_X10_limit_19 {p : Program} {l : Launch} {e : Env} {s : State} {m : MethodId} {args : Array Value} {below : List Frame} {meth : Method} {c : Code} {g : Geo} (C : CX g p s m args meth c cX10_limit 4 (some .int) RX10) {Q : Int32 → Mem → Prop} : ∀ (n : Nat) (v1 : Int32) (v2 : Int32) (v3 : Int32) (M : Mem) (hw : b_X10_limit_19 Q n v1 v2 v3 M) {H : Heap} {locs : List Loc} {ls : Array Slot} (hl : lv_has ls 4 [(0, .ref (g.2.1 (0 + 0))), (1, .int v1), (2, .int v2), (3, .int v3)]) (hP : va_P g.1 clz (xw g M) H) (hS : va_S (Af 0 g) s.heap H locs), W p l e ({ frames := 4, cells := 0, slots := 0, locals := 102 } : Room) s m args below meth c H locs 0 0 (MQ below (va_Qi Q (PB g (xw g)) (Af 0 g)) args s 0 0 (Af 0 g)) (F0 m 19 ls []) := by
  intro n
  induction n with
  | zero => intro v1 v2 v3 M hw H locs ls hl hP hS; exact absurd hw (by rw [b_X10_limit_19]; exact fun h => h)
  | succ n ih =>
    intro v1 v2 v3 M hw H locs ls hl hP hS
    rw [b_X10_limit_19] at hw
    refine lv_iload_n C.1 C.2.1 dX10_limit_19 rfl (lv_at hl 3 rfl) ?_
    refine lv_bipush (v := 99) C.1 C.2.1 dX10_limit_20 (by decide) ?_
    refine lv_icmp_gt (tgt := 51) C.1 C.2.1 dX10_limit_22 (by decide) (fun h5 => ?_) (fun h5 => ?_)
    · have hw := hw.1 h5
      refine lv_bipush (v := (-2)) C.1 C.2.1 dX10_limit_51 (by decide) ?_
      exact retI (wf := (xw g)) C hP hS hw dX10_limit_53
    · have hw := hw.2 h5
      refine lv_aload_n C.1 C.2.1 dX10_limit_25 rfl (lv_at hl 0 rfl) ?_
      refine lv_iload_n C.1 C.2.1 dX10_limit_26 rfl (lv_at hl 1 rfl) ?_
      refine lv_iload_n C.1 C.2.1 dX10_limit_27 rfl (lv_at hl 2 rfl) ?_
      refine lv_iload_n C.1 C.2.1 dX10_limit_28 rfl (lv_at hl 3 rfl) ?_
      refine lv_aload_n C.1 C.2.1 dX10_limit_29 rfl (lv_at hl 0 rfl) ?_
      obtain ⟨w6, h6, hb6, hw⟩ := hw
      refine gX10_23f C hP Nat.zero_lt_one h6 dX10_limit_30 ?_
      refine gX10_261 C hP hb6 dX10_limit_33 ?_
      refine lv_iconst (v := (-1)) C.1 C.2.1 dX10_limit_36 (by decide) ?_
      refine goI (wf := (xw g)) (runV (w := xw g M) (As := [.int v1, .int v2, .int v3, .int (M.1 23 w6 8), .int (-1)]) (rest := []) C lkX10_264 (c_X10_isAcquiredAs l g C.2.2.2.2.2.2.2.2.2.2 v1 v2 v3 ((M.1 23 w6 8)) (-1)  M _ hw) hP hS rfl rfl ⟨Nat.le_of_ble_eq_true rfl, Nat.le_of_ble_eq_true rfl⟩ (xx_0 Nat.zero_lt_one) rfl rfl hl.1 rfl (Nat.le_of_ble_eq_true rfl) dX10_limit_37) hS (fun r7 M7 hw H locs hP hS => ?_)
      obtain ⟨hw, hz7⟩ := hw
      refine lv_if_ne (tgt := 45) C.1 C.2.1 dX10_limit_40 (by decide) (fun h8 => ?_) (fun h8 => ?_)
      · have hw := hw.1 h8
        obtain ⟨x9, e9⟩ : ∃ y : Int32, y = (v3 + 9) := ⟨_, rfl⟩
        have hw := hw x9 e9
        refine lv_iinc (v := x9) (lv' := [(3, .int x9), (0, .ref (g.2.1 (0 + 0))), (1, .int v1), (2, .int v2)]) C.1 C.2.1 dX10_limit_45 hl (k := 3) rfl (by rw [e9]; rfl) (by decide) rfl (fun ls hl => ?_)
        refine lv_goto (tgt := 19) C.1 C.2.1 dX10_limit_48 (by decide) ?_
        exact ih v1 v2 x9  _ hw (lv_sub hl [1, 2, 3, 0] rfl) hP hS
      · have hw := hw.2 h8
        refine lv_iload_n C.1 C.2.1 dX10_limit_43 rfl (lv_at hl 3 rfl) ?_
        exact retI (wf := (xw g)) C hP hS hw dX10_limit_44
def p_X10_limit (a1 : Int32) (a2 : Int32) (M : Mem) (Q : Int32 → Mem → Prop) : Prop := (p_X10_isBird a1 M (fun r1 M1 => ((r1 = 0 → (Q (-1) M1)) ∧ (¬ r1 = 0 → (p_X10_isPeriod a2 M1 (fun r3 M3 => ((¬ r3 = 0 → (∃ n19 : Nat, b_X10_limit_19 Q n19 a1 a2 0 M3)) ∧ (r3 = 0 → (Q (-1) M3)))))))))
set_option maxRecDepth 100000 in
set_option maxHeartbeats 4000000 in
theorem c_X10_limit (l : Launch) (g : Geo) (gi : GI g) (a1 : Int32) (a2 : Int32) (M : Mem) (Q : Int32 → Mem → Prop) (hw : p_X10_limit a1 a2 M Q) : Met l yX10_limit (Cond.code yX10_limit cX10_limit 4 (some .int) :: bg) ({ frames := 4, cells := 0, slots := 0, locals := 102 } : Room) (va_Pc [.ref (g.2.1 (0 + 0)), .int a1, .int a2] (PW g (xw g M))) (va_Qi Q (PB g (xw g)) (Af 0 g)) 0 0 (Af 0 g) := by
  refine Met.ofW (cc := cX10_limit) (maxL := 4) (ret := (some .int)) (by decide +kernel) rfl ?_
  intro p e s m args below meth c s₁ B hml hv
  obtain ⟨rfl, hv⟩ := hv
  have C := CX.start (own := RX10) B hml rfl gi hv
  have hP := hv.1
  have hS : va_S (Af 0 g) s.heap s.heap [] := va_S.rf
  have hl := lv_entry ([.ref (g.2.1 (0 + 0)), .int a1, .int a2]) (n := 4) (Nat.le_of_ble_eq_true rfl)
  rw [lg_entry_eq]
  generalize (lg_sl ([.ref (g.2.1 (0 + 0)), .int a1, .int a2]) ++ List.replicate (4 - (lg_sl ([.ref (g.2.1 (0 + 0)), .int a1, .int a2])).length) Slot.unset).toArray = ls at hl ⊢
  have hl : lv_has ls 4 [(0, .ref (g.2.1 (0 + 0))), (1, .int a1), (2, .int a2)] := hl
  unfold p_X10_limit at hw
  refine lv_aload_n C.1 C.2.1 dX10_limit_0 rfl (lv_at hl 0 rfl) ?_
  refine lv_iload_n C.1 C.2.1 dX10_limit_1 rfl (lv_at hl 1 rfl) ?_
  refine goI (wf := (xw g)) (runV (w := xw g M) (As := [.int a1]) (rest := []) C lkX10_111 (c_X10_isBird l g C.2.2.2.2.2.2.2.2.2.2 a1  M _ hw) hP hS rfl rfl ⟨Nat.le_of_ble_eq_true rfl, Nat.le_of_ble_eq_true rfl⟩ (xx_0 Nat.zero_lt_one) rfl rfl hl.1 rfl (Nat.le_of_ble_eq_true rfl) dX10_limit_2) hS (fun r1 M1 hw H locs hP hS => ?_)
  obtain ⟨hw, hz1⟩ := hw
  refine lv_if_eq (tgt := 15) C.1 C.2.1 dX10_limit_5 (by decide) (fun h2 => ?_) (fun h2 => ?_)
  · have hw := hw.1 h2
    refine lv_iconst (v := (-1)) C.1 C.2.1 dX10_limit_15 (by decide) ?_
    exact retI (wf := (xw g)) C hP hS hw dX10_limit_16
  · have hw := hw.2 h2
    refine lv_iload_n C.1 C.2.1 dX10_limit_8 rfl (lv_at hl 2 rfl) ?_
    refine goI (wf := (xw g)) (runS (w := xw g M1) (As := [.int a2]) (rest := []) C lkX10_138 (c_X10_isPeriod l g C.2.2.2.2.2.2.2.2.2.2 a2  M1 _ hw) hP hS rfl rfl ⟨Nat.le_of_ble_eq_true rfl, Nat.le_of_ble_eq_true rfl⟩ hl.1 rfl (Nat.le_of_ble_eq_true rfl) dX10_limit_9) hS (fun r3 M3 hw H locs hP hS => ?_)
    obtain ⟨hw, hz3⟩ := hw
    refine lv_if_ne (tgt := 17) C.1 C.2.1 dX10_limit_12 (by decide) (fun h4 => ?_) (fun h4 => ?_)
    · have hw := hw.1 h4
      refine lv_iconst (v := 0) C.1 C.2.1 dX10_limit_17 (by decide) ?_
      refine lv_istore_n (lv' := [(3, .int 0), (0, .ref (g.2.1 (0 + 0))), (1, .int a1), (2, .int a2)]) C.1 C.2.1 dX10_limit_18 rfl hl (by decide) rfl (fun ls hl => ?_)
      obtain ⟨n9, hw⟩ := hw
      exact k_X10_limit_19 (Q := Q) C n9 a1 a2 0  _ hw (lv_sub hl [1, 2, 3, 0] rfl) hP hS
    · have hw := hw.2 h4
      refine lv_iconst (v := (-1)) C.1 C.2.1 dX10_limit_15 (by decide) ?_
      exact retI (wf := (xw g)) C hP hS hw dX10_limit_16
def b_X10_chance_111 (Q : Int32 → Mem → Prop) (k54 : Int32 → Int32 → Int32 → Int32 → Int32 → Int32 → Int32 → Mem → Prop) (v1 : Int32) (v2 : Int32) (v3 : Int32) (v4 : Int32) (v5 : Int32) (v6 : Int32) (v7 : Int32) (M : Mem) : Prop := (∀ x16 : Int32, x16 = (v7 + 1) → (k54 v1 v2 v3 v4 v5 v6 x16 M))
set_option maxRecDepth 100000 in
set_option maxHeartbeats 4000000 in
theorem k_X10_chance_111 {p : Program} {l : Launch} {e : Env} {s : State} {m : MethodId} {args : Array Value} {below : List Frame} {meth : Method} {c : Code} {g : Geo} (C : CX g p s m args meth c cX10_chance 9 (some .int) RX10) {Q : Int32 → Mem → Prop} {k54 : Int32 → Int32 → Int32 → Int32 → Int32 → Int32 → Int32 → Mem → Prop} (hk54 : ∀ (v1 : Int32) (v2 : Int32) (v3 : Int32) (v4 : Int32) (v5 : Int32) (v6 : Int32) (v7 : Int32) (M : Mem), k54 v1 v2 v3 v4 v5 v6 v7 M → ∀ (H : Heap) (locs : List Loc) (ls : Array Slot), lv_has ls 9 [(0, .ref (g.2.1 (0 + 0))), (1, .int v1), (2, .int v2), (3, .int v3), (4, .int v4), (5, .int v5), (6, .int v6), (7, .int v7)] → va_P g.1 clz (xw g M) H → va_S (Af 0 g) s.heap H locs → W p l e ({ frames := 4, cells := 0, slots := 0, locals := 102 } : Room) s m args below meth c H locs 0 0 (MQ below (va_Qi Q (PB g (xw g)) (Af 0 g)) args s 0 0 (Af 0 g)) (F0 m 54 ls [])) (v1 : Int32) (v2 : Int32) (v3 : Int32) (v4 : Int32) (v5 : Int32) (v6 : Int32) (v7 : Int32) (M : Mem) (hw : b_X10_chance_111 Q k54 v1 v2 v3 v4 v5 v6 v7 M) {H : Heap} {locs : List Loc} {ls : Array Slot} (hl : lv_has ls 9 [(0, .ref (g.2.1 (0 + 0))), (1, .int v1), (2, .int v2), (3, .int v3), (4, .int v4), (5, .int v5), (6, .int v6), (7, .int v7)]) (hP : va_P g.1 clz (xw g M) H) (hS : va_S (Af 0 g) s.heap H locs) : W p l e ({ frames := 4, cells := 0, slots := 0, locals := 102 } : Room) s m args below meth c H locs 0 0 (MQ below (va_Qi Q (PB g (xw g)) (Af 0 g)) args s 0 0 (Af 0 g)) (F0 m 111 ls []) := by
  unfold b_X10_chance_111 at hw
  obtain ⟨x16, e16⟩ : ∃ y : Int32, y = (v7 + 1) := ⟨_, rfl⟩
  have hw := hw x16 e16
  refine lv_iinc (v := x16) (lv' := [(7, .int x16), (0, .ref (g.2.1 (0 + 0))), (1, .int v1), (2, .int v2), (3, .int v3), (4, .int v4), (5, .int v5), (6, .int v6)]) C.1 C.2.1 dX10_chance_111 hl (k := 7) rfl (by rw [e16]; rfl) (by decide) rfl (fun ls hl => ?_)
  refine lv_goto (tgt := 54) C.1 C.2.1 dX10_chance_114 (by decide) ?_
  exact hk54 v1 v2 v3 v4 v5 v6 x16  _ hw _ _ _ (lv_sub hl [1, 2, 3, 4, 5, 6, 7, 0] rfl) hP hS
def b_X10_chance_108 (Q : Int32 → Mem → Prop) (k111 : Int32 → Int32 → Int32 → Int32 → Int32 → Int32 → Int32 → Mem → Prop) (v1 : Int32) (v2 : Int32) (v3 : Int32) (v4 : Int32) (v5 : Int32) (v6 : Int32) (v7 : Int32) (M : Mem) : Prop := (∀ x18 : Int32, x18 = (v5 + 1) → (k111 v1 v2 v3 v4 x18 v6 v7 M))
set_option maxRecDepth 100000 in
set_option maxHeartbeats 4000000 in
theorem k_X10_chance_108 {p : Program} {l : Launch} {e : Env} {s : State} {m : MethodId} {args : Array Value} {below : List Frame} {meth : Method} {c : Code} {g : Geo} (C : CX g p s m args meth c cX10_chance 9 (some .int) RX10) {Q : Int32 → Mem → Prop} {k111 : Int32 → Int32 → Int32 → Int32 → Int32 → Int32 → Int32 → Mem → Prop} (hk111 : ∀ (v1 : Int32) (v2 : Int32) (v3 : Int32) (v4 : Int32) (v5 : Int32) (v6 : Int32) (v7 : Int32) (M : Mem), k111 v1 v2 v3 v4 v5 v6 v7 M → ∀ (H : Heap) (locs : List Loc) (ls : Array Slot), lv_has ls 9 [(0, .ref (g.2.1 (0 + 0))), (1, .int v1), (2, .int v2), (3, .int v3), (4, .int v4), (5, .int v5), (6, .int v6), (7, .int v7)] → va_P g.1 clz (xw g M) H → va_S (Af 0 g) s.heap H locs → W p l e ({ frames := 4, cells := 0, slots := 0, locals := 102 } : Room) s m args below meth c H locs 0 0 (MQ below (va_Qi Q (PB g (xw g)) (Af 0 g)) args s 0 0 (Af 0 g)) (F0 m 111 ls [])) (v1 : Int32) (v2 : Int32) (v3 : Int32) (v4 : Int32) (v5 : Int32) (v6 : Int32) (v7 : Int32) (M : Mem) (hw : b_X10_chance_108 Q k111 v1 v2 v3 v4 v5 v6 v7 M) {H : Heap} {locs : List Loc} {ls : Array Slot} (hl : lv_has ls 9 [(0, .ref (g.2.1 (0 + 0))), (1, .int v1), (2, .int v2), (3, .int v3), (4, .int v4), (5, .int v5), (6, .int v6), (7, .int v7)]) (hP : va_P g.1 clz (xw g M) H) (hS : va_S (Af 0 g) s.heap H locs) : W p l e ({ frames := 4, cells := 0, slots := 0, locals := 102 } : Room) s m args below meth c H locs 0 0 (MQ below (va_Qi Q (PB g (xw g)) (Af 0 g)) args s 0 0 (Af 0 g)) (F0 m 108 ls []) := by
  unfold b_X10_chance_108 at hw
  obtain ⟨x18, e18⟩ : ∃ y : Int32, y = (v5 + 1) := ⟨_, rfl⟩
  have hw := hw x18 e18
  refine lv_iinc (v := x18) (lv' := [(5, .int x18), (0, .ref (g.2.1 (0 + 0))), (1, .int v1), (2, .int v2), (3, .int v3), (4, .int v4), (6, .int v6), (7, .int v7)]) C.1 C.2.1 dX10_chance_108 hl (k := 5) rfl (by rw [e18]; rfl) (by decide) rfl (fun ls hl => ?_)
  exact hk111 v1 v2 v3 v4 x18 v6 v7  _ hw _ _ _ (lv_sub hl [1, 2, 3, 4, 5, 0, 6, 7] rfl) hP hS
def b_X10_chance_54 (Q : Int32 → Mem → Prop) : Nat → Int32 → Int32 → Int32 → Int32 → Int32 → Int32 → Int32 → Mem → Prop
  | 0, _, _, _, _, _, _, _, _ => False
  | n + 1, v1, v2, v3, v4, v5, v6, v7, M => ((v3 ≤ v7 → (Q v5 M)) ∧ (¬ v3 ≤ v7 → (p_X10_nextNumber v6 M (fun r12 M12 => (∃ w13 : Nat, M12.2.2 0 0 3 = some (23 + w13) ∧ w13 < 2 ∧ (p_X10_isAcquiredAs v1 v2 ((M12.1 23 w13 7)) ((r12 - r12 / 100000 * 100000)) (-1) M12 (fun r14 M14 => ((r14 = 0 → (b_X10_chance_111 Q (fun v1 v2 v3 v4 v5 v6 v7 M => b_X10_chance_54 Q n v1 v2 v3 v4 v5 v6 v7 M) v1 v2 v3 v4 v5 r12 v7 M14)) ∧ (¬ r14 = 0 → ((v4 = 0 → (b_X10_chance_108 Q (fun v1 v2 v3 v4 v5 v6 v7 M => b_X10_chance_111 Q (fun v1 v2 v3 v4 v5 v6 v7 M => b_X10_chance_54 Q n v1 v2 v3 v4 v5 v6 v7 M) v1 v2 v3 v4 v5 v6 v7 M) v1 v2 v3 v4 v5 r12 v7 M14)) ∧ (¬ v4 = 0 → (p_X10_isPeakRight v1 v2 M14 (fun r19 M19 => ((r19 = 0 → (b_X10_chance_111 Q (fun v1 v2 v3 v4 v5 v6 v7 M => b_X10_chance_54 Q n v1 v2 v3 v4 v5 v6 v7 M) v1 v2 v3 v4 v5 r12 v7 M19)) ∧ (¬ r19 = 0 → (b_X10_chance_108 Q (fun v1 v2 v3 v4 v5 v6 v7 M => b_X10_chance_111 Q (fun v1 v2 v3 v4 v5 v6 v7 M => b_X10_chance_54 Q n v1 v2 v3 v4 v5 v6 v7 M) v1 v2 v3 v4 v5 v6 v7 M) v1 v2 v3 v4 v5 r12 v7 M19))))))))))))))))
set_option maxRecDepth 100000 in
set_option maxHeartbeats 4000000 in
theorem k_X10_chance_54 {p : Program} {l : Launch} {e : Env} {s : State} {m : MethodId} {args : Array Value} {below : List Frame} {meth : Method} {c : Code} {g : Geo} (C : CX g p s m args meth c cX10_chance 9 (some .int) RX10) {Q : Int32 → Mem → Prop} : ∀ (n : Nat) (v1 : Int32) (v2 : Int32) (v3 : Int32) (v4 : Int32) (v5 : Int32) (v6 : Int32) (v7 : Int32) (M : Mem) (hw : b_X10_chance_54 Q n v1 v2 v3 v4 v5 v6 v7 M) {H : Heap} {locs : List Loc} {ls : Array Slot} (hl : lv_has ls 9 [(0, .ref (g.2.1 (0 + 0))), (1, .int v1), (2, .int v2), (3, .int v3), (4, .int v4), (5, .int v5), (6, .int v6), (7, .int v7)]) (hP : va_P g.1 clz (xw g M) H) (hS : va_S (Af 0 g) s.heap H locs), W p l e ({ frames := 4, cells := 0, slots := 0, locals := 102 } : Room) s m args below meth c H locs 0 0 (MQ below (va_Qi Q (PB g (xw g)) (Af 0 g)) args s 0 0 (Af 0 g)) (F0 m 54 ls []) := by
  intro n
  induction n with
  | zero => intro v1 v2 v3 v4 v5 v6 v7 M hw H locs ls hl hP hS; exact absurd hw (by rw [b_X10_chance_54]; exact fun h => h)
  | succ n ih =>
    intro v1 v2 v3 v4 v5 v6 v7 M hw H locs ls hl hP hS
    rw [b_X10_chance_54] at hw
    refine lv_iload C.1 C.2.1 dX10_chance_54 (lv_at hl 7 rfl) ?_
    refine lv_iload_n C.1 C.2.1 dX10_chance_56 rfl (lv_at hl 3 rfl) ?_
    refine lv_icmp_ge (tgt := 117) C.1 C.2.1 dX10_chance_57 (by decide) (fun h11 => ?_) (fun h11 => ?_)
    · have hw := hw.1 h11
      refine lv_iload C.1 C.2.1 dX10_chance_117 (lv_at hl 5 rfl) ?_
      exact retI (wf := (xw g)) C hP hS hw dX10_chance_119
    · have hw := hw.2 h11
      refine lv_iload C.1 C.2.1 dX10_chance_60 (lv_at hl 6 rfl) ?_
      refine goI (wf := (xw g)) (runS (w := xw g M) (As := [.int v6]) (rest := []) C lkX10_268 (c_X10_nextNumber l g C.2.2.2.2.2.2.2.2.2.2 v6  M _ hw) hP hS rfl rfl ⟨Nat.le_of_ble_eq_true rfl, Nat.le_of_ble_eq_true rfl⟩ hl.1 rfl (Nat.le_of_ble_eq_true rfl) dX10_chance_62) hS (fun r12 M12 hw H locs hP hS => ?_)
      refine lv_istore (lv' := [(6, .int r12), (0, .ref (g.2.1 (0 + 0))), (1, .int v1), (2, .int v2), (3, .int v3), (4, .int v4), (5, .int v5), (7, .int v7)]) C.1 C.2.1 dX10_chance_65 hl (by decide) rfl (fun ls hl => ?_)
      refine lv_aload_n C.1 C.2.1 dX10_chance_67 rfl (lv_at hl 1 rfl) ?_
      refine lv_iload_n C.1 C.2.1 dX10_chance_68 rfl (lv_at hl 2 rfl) ?_
      refine lv_iload_n C.1 C.2.1 dX10_chance_69 rfl (lv_at hl 3 rfl) ?_
      refine lv_aload_n C.1 C.2.1 dX10_chance_70 rfl (lv_at hl 1 rfl) ?_
      obtain ⟨w13, h13, hb13, hw⟩ := hw
      refine gX10_23f C hP Nat.zero_lt_one h13 dX10_chance_71 ?_
      refine gX10_258 C hP hb13 dX10_chance_74 ?_
      refine lv_iload C.1 C.2.1 dX10_chance_77 (lv_at hl 0 rfl) ?_
      refine lv_ldcw (v := 100000) C.1 C.2.1 C.2.2.2.2.1 (C.2.2.2.2.2.1 _ (bg_of 944 (by decide +kernel) rfl)) dX10_chance_79 ?_
      refine lv_irem C.1 C.2.1 dX10_chance_82 (by decide) ?_
      refine lv_iconst (v := (-1)) C.1 C.2.1 dX10_chance_83 (by decide) ?_
      refine goI (wf := (xw g)) (runV (w := xw g M12) (As := [.int v1, .int v2, .int (M12.1 23 w13 7), .int (r12 - r12 / 100000 * 100000), .int (-1)]) (rest := []) C lkX10_264 (c_X10_isAcquiredAs l g C.2.2.2.2.2.2.2.2.2.2 v1 v2 ((M12.1 23 w13 7)) ((r12 - r12 / 100000 * 100000)) (-1)  M12 _ hw) hP hS rfl rfl ⟨Nat.le_of_ble_eq_true rfl, Nat.le_of_ble_eq_true rfl⟩ (xx_0 Nat.zero_lt_one) rfl rfl hl.1 rfl (Nat.le_of_ble_eq_true rfl) dX10_chance_84) hS (fun r14 M14 hw H locs hP hS => ?_)
      obtain ⟨hw, hz14⟩ := hw
      refine lv_istore (lv' := [(8, .int r14), (6, .int r12), (0, .ref (g.2.1 (0 + 0))), (1, .int v1), (2, .int v2), (3, .int v3), (4, .int v4), (5, .int v5), (7, .int v7)]) C.1 C.2.1 dX10_chance_87 hl (by decide) rfl (fun ls hl => ?_)
      refine lv_iload C.1 C.2.1 dX10_chance_89 (lv_at hl 0 rfl) ?_
      refine lv_if_eq (tgt := 111) C.1 C.2.1 dX10_chance_91 (by decide) (fun h15 => ?_) (fun h15 => ?_)
      · have hw := hw.1 h15
        exact k_X10_chance_111 (Q := Q) C (fun v1 v2 v3 v4 v5 v6 v7  M hw H locs ls hl hP hS => ih v1 v2 v3 v4 v5 v6 v7  M hw hl hP hS) v1 v2 v3 v4 v5 r12 v7  _ hw (lv_sub hl [2, 3, 4, 5, 6, 7, 1, 8] rfl) hP hS
      · have hw := hw.2 h15
        refine lv_iload C.1 C.2.1 dX10_chance_94 (lv_at hl 6 rfl) ?_
        refine lv_if_eq (tgt := 108) C.1 C.2.1 dX10_chance_96 (by decide) (fun h17 => ?_) (fun h17 => ?_)
        · have hw := hw.1 h17
          exact k_X10_chance_108 (Q := Q) C (fun v1 v2 v3 v4 v5 v6 v7  M hw H locs ls hl hP hS => k_X10_chance_111 (Q := Q) C (fun v1 v2 v3 v4 v5 v6 v7  M hw H locs ls hl hP hS => ih v1 v2 v3 v4 v5 v6 v7  M hw hl hP hS) v1 v2 v3 v4 v5 v6 v7  M hw hl hP hS) v1 v2 v3 v4 v5 r12 v7  _ hw (lv_sub hl [2, 3, 4, 5, 6, 7, 1, 8] rfl) hP hS
        · have hw := hw.2 h17
          refine lv_aload_n C.1 C.2.1 dX10_chance_99 rfl (lv_at hl 2 rfl) ?_
          refine lv_iload_n C.1 C.2.1 dX10_chance_100 rfl (lv_at hl 3 rfl) ?_
          refine lv_iload_n C.1 C.2.1 dX10_chance_101 rfl (lv_at hl 4 rfl) ?_
          refine goI (wf := (xw g)) (runV (w := xw g M14) (As := [.int v1, .int v2]) (rest := []) C lkX10_254 (c_X10_isPeakRight l g C.2.2.2.2.2.2.2.2.2.2 v1 v2  M14 _ hw) hP hS rfl rfl ⟨Nat.le_of_ble_eq_true rfl, Nat.le_of_ble_eq_true rfl⟩ (xx_0 Nat.zero_lt_one) rfl rfl hl.1 rfl (Nat.le_of_ble_eq_true rfl) dX10_chance_102) hS (fun r19 M19 hw H locs hP hS => ?_)
          obtain ⟨hw, hz19⟩ := hw
          refine lv_if_eq (tgt := 111) C.1 C.2.1 dX10_chance_105 (by decide) (fun h20 => ?_) (fun h20 => ?_)
          · have hw := hw.1 h20
            exact k_X10_chance_111 (Q := Q) C (fun v1 v2 v3 v4 v5 v6 v7  M hw H locs ls hl hP hS => ih v1 v2 v3 v4 v5 v6 v7  M hw hl hP hS) v1 v2 v3 v4 v5 r12 v7  _ hw (lv_sub hl [2, 3, 4, 5, 6, 7, 1, 8] rfl) hP hS
          · have hw := hw.2 h20
            exact k_X10_chance_108 (Q := Q) C (fun v1 v2 v3 v4 v5 v6 v7  M hw H locs ls hl hP hS => k_X10_chance_111 (Q := Q) C (fun v1 v2 v3 v4 v5 v6 v7  M hw H locs ls hl hP hS => ih v1 v2 v3 v4 v5 v6 v7  M hw hl hP hS) v1 v2 v3 v4 v5 v6 v7  M hw hl hP hS) v1 v2 v3 v4 v5 r12 v7  _ hw (lv_sub hl [2, 3, 4, 5, 6, 7, 1, 8] rfl) hP hS
def p_X10_chance (a1 : Int32) (a2 : Int32) (a3 : Int32) (a4 : Int32) (M : Mem) (Q : Int32 → Mem → Prop) : Prop := (p_X10_isBird a1 M (fun r1 M1 => ((r1 = 0 → (Q (-1) M1)) ∧ (¬ r1 = 0 → (p_X10_isPeriod a2 M1 (fun r3 M3 => ((r3 = 0 → (Q (-1) M3)) ∧ (¬ r3 = 0 → ((a3 < 1 → (Q (-1) M3)) ∧ (¬ a3 < 1 → ((10 < a3 → (Q (-1) M3)) ∧ (¬ 10 < a3 → ((a4 < 0 → (Q (-1) M3)) ∧ (¬ a4 < 0 → ((a4 ≤ 1 → (∃ w9 : Nat, M3.2.2 0 0 3 = some (23 + w9) ∧ w9 < 2 ∧ (∀ x10 : Int32, x10 = (M3.1 23 w9 8) → (∃ n54 : Nat, b_X10_chance_54 Q n54 a1 a2 a3 a4 0 x10 0 M3)))) ∧ (¬ a4 ≤ 1 → (Q (-1) M3)))))))))))))))))
set_option maxRecDepth 100000 in
set_option maxHeartbeats 4000000 in
theorem c_X10_chance (l : Launch) (g : Geo) (gi : GI g) (a1 : Int32) (a2 : Int32) (a3 : Int32) (a4 : Int32) (M : Mem) (Q : Int32 → Mem → Prop) (hw : p_X10_chance a1 a2 a3 a4 M Q) : Met l yX10_chance (Cond.code yX10_chance cX10_chance 9 (some .int) :: bg) ({ frames := 4, cells := 0, slots := 0, locals := 102 } : Room) (va_Pc [.ref (g.2.1 (0 + 0)), .int a1, .int a2, .int a3, .int a4] (PW g (xw g M))) (va_Qi Q (PB g (xw g)) (Af 0 g)) 0 0 (Af 0 g) := by
  refine Met.ofW (cc := cX10_chance) (maxL := 9) (ret := (some .int)) (by decide +kernel) rfl ?_
  intro p e s m args below meth c s₁ B hml hv
  obtain ⟨rfl, hv⟩ := hv
  have C := CX.start (own := RX10) B hml rfl gi hv
  have hP := hv.1
  have hS : va_S (Af 0 g) s.heap s.heap [] := va_S.rf
  have hl := lv_entry ([.ref (g.2.1 (0 + 0)), .int a1, .int a2, .int a3, .int a4]) (n := 9) (Nat.le_of_ble_eq_true rfl)
  rw [lg_entry_eq]
  generalize (lg_sl ([.ref (g.2.1 (0 + 0)), .int a1, .int a2, .int a3, .int a4]) ++ List.replicate (9 - (lg_sl ([.ref (g.2.1 (0 + 0)), .int a1, .int a2, .int a3, .int a4])).length) Slot.unset).toArray = ls at hl ⊢
  have hl : lv_has ls 9 [(0, .ref (g.2.1 (0 + 0))), (1, .int a1), (2, .int a2), (3, .int a3), (4, .int a4)] := hl
  unfold p_X10_chance at hw
  refine lv_aload_n C.1 C.2.1 dX10_chance_0 rfl (lv_at hl 0 rfl) ?_
  refine lv_iload_n C.1 C.2.1 dX10_chance_1 rfl (lv_at hl 1 rfl) ?_
  refine goI (wf := (xw g)) (runV (w := xw g M) (As := [.int a1]) (rest := []) C lkX10_111 (c_X10_isBird l g C.2.2.2.2.2.2.2.2.2.2 a1  M _ hw) hP hS rfl rfl ⟨Nat.le_of_ble_eq_true rfl, Nat.le_of_ble_eq_true rfl⟩ (xx_0 Nat.zero_lt_one) rfl rfl hl.1 rfl (Nat.le_of_ble_eq_true rfl) dX10_chance_2) hS (fun r1 M1 hw H locs hP hS => ?_)
  obtain ⟨hw, hz1⟩ := hw
  refine lv_if_eq (tgt := 37) C.1 C.2.1 dX10_chance_5 (by decide) (fun h2 => ?_) (fun h2 => ?_)
  · have hw := hw.1 h2
    refine lv_iconst (v := (-1)) C.1 C.2.1 dX10_chance_37 (by decide) ?_
    exact retI (wf := (xw g)) C hP hS hw dX10_chance_38
  · have hw := hw.2 h2
    refine lv_iload_n C.1 C.2.1 dX10_chance_8 rfl (lv_at hl 2 rfl) ?_
    refine goI (wf := (xw g)) (runS (w := xw g M1) (As := [.int a2]) (rest := []) C lkX10_138 (c_X10_isPeriod l g C.2.2.2.2.2.2.2.2.2.2 a2  M1 _ hw) hP hS rfl rfl ⟨Nat.le_of_ble_eq_true rfl, Nat.le_of_ble_eq_true rfl⟩ hl.1 rfl (Nat.le_of_ble_eq_true rfl) dX10_chance_9) hS (fun r3 M3 hw H locs hP hS => ?_)
    obtain ⟨hw, hz3⟩ := hw
    refine lv_if_eq (tgt := 37) C.1 C.2.1 dX10_chance_12 (by decide) (fun h4 => ?_) (fun h4 => ?_)
    · have hw := hw.1 h4
      refine lv_iconst (v := (-1)) C.1 C.2.1 dX10_chance_37 (by decide) ?_
      exact retI (wf := (xw g)) C hP hS hw dX10_chance_38
    · have hw := hw.2 h4
      refine lv_iload_n C.1 C.2.1 dX10_chance_15 rfl (lv_at hl 3 rfl) ?_
      refine lv_iconst (v := 1) C.1 C.2.1 dX10_chance_16 (by decide) ?_
      refine lv_icmp_lt (tgt := 37) C.1 C.2.1 dX10_chance_17 (by decide) (fun h5 => ?_) (fun h5 => ?_)
      · have hw := hw.1 h5
        refine lv_iconst (v := (-1)) C.1 C.2.1 dX10_chance_37 (by decide) ?_
        exact retI (wf := (xw g)) C hP hS hw dX10_chance_38
      · have hw := hw.2 h5
        refine lv_iload_n C.1 C.2.1 dX10_chance_20 rfl (lv_at hl 3 rfl) ?_
        refine lv_bipush (v := 10) C.1 C.2.1 dX10_chance_21 (by decide) ?_
        refine lv_icmp_gt (tgt := 37) C.1 C.2.1 dX10_chance_23 (by decide) (fun h6 => ?_) (fun h6 => ?_)
        · have hw := hw.1 h6
          refine lv_iconst (v := (-1)) C.1 C.2.1 dX10_chance_37 (by decide) ?_
          exact retI (wf := (xw g)) C hP hS hw dX10_chance_38
        · have hw := hw.2 h6
          refine lv_iload C.1 C.2.1 dX10_chance_26 (lv_at hl 4 rfl) ?_
          refine lv_if_lt (tgt := 37) C.1 C.2.1 dX10_chance_28 (by decide) (fun h7 => ?_) (fun h7 => ?_)
          · have hw := hw.1 h7
            refine lv_iconst (v := (-1)) C.1 C.2.1 dX10_chance_37 (by decide) ?_
            exact retI (wf := (xw g)) C hP hS hw dX10_chance_38
          · have hw := hw.2 h7
            refine lv_iload C.1 C.2.1 dX10_chance_31 (lv_at hl 4 rfl) ?_
            refine lv_iconst (v := 1) C.1 C.2.1 dX10_chance_33 (by decide) ?_
            refine lv_icmp_le (tgt := 39) C.1 C.2.1 dX10_chance_34 (by decide) (fun h8 => ?_) (fun h8 => ?_)
            · have hw := hw.1 h8
              refine lv_iconst (v := 0) C.1 C.2.1 dX10_chance_39 (by decide) ?_
              refine lv_istore (lv' := [(5, .int 0), (0, .ref (g.2.1 (0 + 0))), (1, .int a1), (2, .int a2), (3, .int a3), (4, .int a4)]) C.1 C.2.1 dX10_chance_40 hl (by decide) rfl (fun ls hl => ?_)
              refine lv_aload_n C.1 C.2.1 dX10_chance_42 rfl (lv_at hl 1 rfl) ?_
              obtain ⟨w9, h9, hb9, hw⟩ := hw
              refine gX10_23f C hP Nat.zero_lt_one h9 dX10_chance_43 ?_
              refine gX10_261 C hP hb9 dX10_chance_46 ?_
              refine lv_topi (fun x10 e10 => ?_)
              have hw := hw x10 e10
              refine lv_istore (lv' := [(6, .int x10), (5, .int 0), (0, .ref (g.2.1 (0 + 0))), (1, .int a1), (2, .int a2), (3, .int a3), (4, .int a4)]) C.1 C.2.1 dX10_chance_49 hl (by decide) rfl (fun ls hl => ?_)
              refine lv_iconst (v := 0) C.1 C.2.1 dX10_chance_51 (by decide) ?_
              refine lv_istore (lv' := [(7, .int 0), (6, .int x10), (5, .int 0), (0, .ref (g.2.1 (0 + 0))), (1, .int a1), (2, .int a2), (3, .int a3), (4, .int a4)]) C.1 C.2.1 dX10_chance_52 hl (by decide) rfl (fun ls hl => ?_)
              obtain ⟨n9, hw⟩ := hw
              exact k_X10_chance_54 (Q := Q) C n9 a1 a2 a3 a4 0 x10 0  _ hw (lv_sub hl [3, 4, 5, 6, 7, 2, 1, 0] rfl) hP hS
            · have hw := hw.2 h8
              refine lv_iconst (v := (-1)) C.1 C.2.1 dX10_chance_37 (by decide) ?_
              exact retI (wf := (xw g)) C hP hS hw dX10_chance_38
def b_X10_clearest_112 (Q : Int32 → Mem → Prop) (k34 : Int32 → Int32 → Int32 → Int32 → Int64 → Int64 → Int32 → Mem → Prop) (v1 : Int32) (v2 : Int32) (v3 : Int32) (v4 : Int32) (v5 : Int64) (v7 : Int64) (v9 : Int32) (M : Mem) : Prop := (∀ x10 : Int32, x10 = (v9 + 1) → (k34 v1 v2 v3 v4 v5 v7 x10 M))
set_option maxRecDepth 100000 in
set_option maxHeartbeats 4000000 in
theorem k_X10_clearest_112 {p : Program} {l : Launch} {e : Env} {s : State} {m : MethodId} {args : Array Value} {below : List Frame} {meth : Method} {c : Code} {g : Geo} (C : CX g p s m args meth c cX10_clearest 14 (some .int) RX10) {Q : Int32 → Mem → Prop} {k34 : Int32 → Int32 → Int32 → Int32 → Int64 → Int64 → Int32 → Mem → Prop} (hk34 : ∀ (v1 : Int32) (v2 : Int32) (v3 : Int32) (v4 : Int32) (v5 : Int64) (v7 : Int64) (v9 : Int32) (M : Mem), k34 v1 v2 v3 v4 v5 v7 v9 M → ∀ (H : Heap) (locs : List Loc) (ls : Array Slot), lv_has ls 14 [(0, .ref (g.2.1 (0 + 0))), (1, .int v1), (2, .int v2), (3, .int v3), (4, .int v4), (5, .long v5), (7, .long v7), (9, .int v9)] → va_P g.1 clz (xw g M) H → va_S (Af 0 g) s.heap H locs → W p l e ({ frames := 5, cells := 0, slots := 0, locals := 123 } : Room) s m args below meth c H locs 0 0 (MQ below (va_Qi Q (PB g (xw g)) (Af 0 g)) args s 0 0 (Af 0 g)) (F0 m 34 ls [])) (v1 : Int32) (v2 : Int32) (v3 : Int32) (v4 : Int32) (v5 : Int64) (v7 : Int64) (v9 : Int32) (M : Mem) (hw : b_X10_clearest_112 Q k34 v1 v2 v3 v4 v5 v7 v9 M) {H : Heap} {locs : List Loc} {ls : Array Slot} (hl : lv_has ls 14 [(0, .ref (g.2.1 (0 + 0))), (1, .int v1), (2, .int v2), (3, .int v3), (4, .int v4), (5, .long v5), (7, .long v7), (9, .int v9)]) (hP : va_P g.1 clz (xw g M) H) (hS : va_S (Af 0 g) s.heap H locs) : W p l e ({ frames := 5, cells := 0, slots := 0, locals := 123 } : Room) s m args below meth c H locs 0 0 (MQ below (va_Qi Q (PB g (xw g)) (Af 0 g)) args s 0 0 (Af 0 g)) (F0 m 112 ls []) := by
  unfold b_X10_clearest_112 at hw
  obtain ⟨x10, e10⟩ : ∃ y : Int32, y = (v9 + 1) := ⟨_, rfl⟩
  have hw := hw x10 e10
  refine lv_iinc (v := x10) (lv' := [(9, .int x10), (0, .ref (g.2.1 (0 + 0))), (1, .int v1), (2, .int v2), (3, .int v3), (4, .int v4), (5, .long v5), (7, .long v7)]) C.1 C.2.1 dX10_clearest_112 hl (k := 7) rfl (by rw [e10]; rfl) (by decide) rfl (fun ls hl => ?_)
  refine lv_goto (tgt := 34) C.1 C.2.1 dX10_clearest_115 (by decide) ?_
  exact hk34 v1 v2 v3 v4 v5 v7 x10  _ hw _ _ _ (lv_sub hl [1, 2, 3, 4, 5, 6, 7, 0] rfl) hP hS
def b_X10_clearest_82 (Q : Int32 → Mem → Prop) (k34 : Int32 → Int32 → Int32 → Int32 → Int64 → Int64 → Int32 → Mem → Prop) (v1 : Int32) (v2 : Int32) (v3 : Int32) (v4 : Int32) (v5 : Int64) (v7 : Int64) (v9 : Int32) (v10 : Int64) (s0 : Int64) (M : Mem) : Prop := (((lg_cmp (v10 * v7) (v5 * s0)) ≤ 0 → (b_X10_clearest_112 Q k34 v1 v2 v3 v4 v5 v7 v9 M)) ∧ (¬ (lg_cmp (v10 * v7) (v5 * s0)) ≤ 0 → (∀ x11 : Int32, x11 = (v2 + v9) → (b_X10_clearest_112 Q k34 v1 v2 v3 x11 v10 s0 v9 M))))
set_option maxRecDepth 100000 in
set_option maxHeartbeats 4000000 in
theorem k_X10_clearest_82 {p : Program} {l : Launch} {e : Env} {s : State} {m : MethodId} {args : Array Value} {below : List Frame} {meth : Method} {c : Code} {g : Geo} (C : CX g p s m args meth c cX10_clearest 14 (some .int) RX10) {Q : Int32 → Mem → Prop} {k34 : Int32 → Int32 → Int32 → Int32 → Int64 → Int64 → Int32 → Mem → Prop} (hk34 : ∀ (v1 : Int32) (v2 : Int32) (v3 : Int32) (v4 : Int32) (v5 : Int64) (v7 : Int64) (v9 : Int32) (M : Mem), k34 v1 v2 v3 v4 v5 v7 v9 M → ∀ (H : Heap) (locs : List Loc) (ls : Array Slot), lv_has ls 14 [(0, .ref (g.2.1 (0 + 0))), (1, .int v1), (2, .int v2), (3, .int v3), (4, .int v4), (5, .long v5), (7, .long v7), (9, .int v9)] → va_P g.1 clz (xw g M) H → va_S (Af 0 g) s.heap H locs → W p l e ({ frames := 5, cells := 0, slots := 0, locals := 123 } : Room) s m args below meth c H locs 0 0 (MQ below (va_Qi Q (PB g (xw g)) (Af 0 g)) args s 0 0 (Af 0 g)) (F0 m 34 ls [])) (v1 : Int32) (v2 : Int32) (v3 : Int32) (v4 : Int32) (v5 : Int64) (v7 : Int64) (v9 : Int32) (v10 : Int64) (s0 : Int64) (M : Mem) (hw : b_X10_clearest_82 Q k34 v1 v2 v3 v4 v5 v7 v9 v10 s0 M) {H : Heap} {locs : List Loc} {ls : Array Slot} (hl : lv_has ls 14 [(0, .ref (g.2.1 (0 + 0))), (1, .int v1), (2, .int v2), (3, .int v3), (4, .int v4), (5, .long v5), (7, .long v7), (9, .int v9), (10, .long v10)]) (hP : va_P g.1 clz (xw g M) H) (hS : va_S (Af 0 g) s.heap H locs) : W p l e ({ frames := 5, cells := 0, slots := 0, locals := 123 } : Room) s m args below meth c H locs 0 0 (MQ below (va_Qi Q (PB g (xw g)) (Af 0 g)) args s 0 0 (Af 0 g)) (F0 m 82 ls [.long s0]) := by
  unfold b_X10_clearest_82 at hw
  refine lv_lstore (lv' := [(12, .long s0), (0, .ref (g.2.1 (0 + 0))), (1, .int v1), (2, .int v2), (3, .int v3), (4, .int v4), (5, .long v5), (7, .long v7), (9, .int v9), (10, .long v10)]) C.1 C.2.1 dX10_clearest_82 hl (by decide) rfl (fun ls hl => ?_)
  refine lv_lload C.1 C.2.1 dX10_clearest_84 (lv_at hl 9 rfl) ?_
  refine lv_lload C.1 C.2.1 dX10_clearest_86 (lv_at hl 7 rfl) ?_
  refine lv_lmul C.1 C.2.1 dX10_clearest_88 ?_
  refine lv_lload C.1 C.2.1 dX10_clearest_89 (lv_at hl 6 rfl) ?_
  refine lv_lload C.1 C.2.1 dX10_clearest_91 (lv_at hl 0 rfl) ?_
  refine lv_lmul C.1 C.2.1 dX10_clearest_93 ?_
  refine W.lcmp C.1 C.2.1 dX10_clearest_94 ?_
  refine lv_if_le (tgt := 112) C.1 C.2.1 dX10_clearest_95 (by decide) (fun h9 => ?_) (fun h9 => ?_)
  · have hw := hw.1 h9
    exact k_X10_clearest_112 (Q := Q) C hk34 v1 v2 v3 v4 v5 v7 v9  _ hw (lv_sub hl [1, 2, 3, 4, 5, 6, 7, 8] rfl) hP hS
  · have hw := hw.2 h9
    refine lv_iload_n C.1 C.2.1 dX10_clearest_98 rfl (lv_at hl 3 rfl) ?_
    refine lv_iload C.1 C.2.1 dX10_clearest_99 (lv_at hl 8 rfl) ?_
    refine lv_iadd C.1 C.2.1 dX10_clearest_101 ?_
    refine lv_topi (fun x11 e11 => ?_)
    have hw := hw x11 e11
    refine lv_istore (lv' := [(4, .int x11), (12, .long s0), (0, .ref (g.2.1 (0 + 0))), (1, .int v1), (2, .int v2), (3, .int v3), (5, .long v5), (7, .long v7), (9, .int v9), (10, .long v10)]) C.1 C.2.1 dX10_clearest_102 hl (by decide) rfl (fun ls hl => ?_)
    refine lv_lload C.1 C.2.1 dX10_clearest_104 (lv_at hl 9 rfl) ?_
    refine lv_lstore (lv' := [(5, .long v10), (4, .int x11), (12, .long s0), (0, .ref (g.2.1 (0 + 0))), (1, .int v1), (2, .int v2), (3, .int v3), (7, .long v7), (9, .int v9), (10, .long v10)]) C.1 C.2.1 dX10_clearest_106 hl (by decide) rfl (fun ls hl => ?_)
    refine lv_lload C.1 C.2.1 dX10_clearest_108 (lv_at hl 2 rfl) ?_
    refine lv_lstore (lv' := [(7, .long s0), (5, .long v10), (4, .int x11), (12, .long s0), (0, .ref (g.2.1 (0 + 0))), (1, .int v1), (2, .int v2), (3, .int v3), (9, .int v9), (10, .long v10)]) C.1 C.2.1 dX10_clearest_110 hl (by decide) rfl (fun ls hl => ?_)
    exact k_X10_clearest_112 (Q := Q) C hk34 v1 v2 v3 x11 v10 s0 v9  _ hw (lv_sub hl [4, 5, 6, 7, 2, 1, 0, 8] rfl) hP hS
def b_X10_clearest_34 (Q : Int32 → Mem → Prop) : Nat → Int32 → Int32 → Int32 → Int32 → Int64 → Int64 → Int32 → Mem → Prop
  | 0, _, _, _, _, _, _, _, _ => False
  | n + 1, v1, v2, v3, v4, v5, v7, v9, M => ((v3 ≤ v9 → (Q v4 M)) ∧ (¬ v3 ≤ v9 → (p_X10_huntOver v1 ((v2 + v9)) 1 M (fun M6 => (∀ x7 : Int64, x7 = ((M6.1 11 0 2) : Int32).toInt64 → ((¬ (M6.1 11 0 3) = 0 → (b_X10_clearest_82 Q (fun v1 v2 v3 v4 v5 v7 v9 M => b_X10_clearest_34 Q n v1 v2 v3 v4 v5 v7 v9 M) v1 v2 v3 v4 v5 v7 v9 x7 (((M6.1 11 0 3) : Int32).toInt64) M6)) ∧ ((M6.1 11 0 3) = 0 → (b_X10_clearest_82 Q (fun v1 v2 v3 v4 v5 v7 v9 M => b_X10_clearest_34 Q n v1 v2 v3 v4 v5 v7 v9 M) v1 v2 v3 v4 v5 v7 v9 x7 1 M6))))))))
set_option maxRecDepth 100000 in
set_option maxHeartbeats 4000000 in
theorem k_X10_clearest_34 {p : Program} {l : Launch} {e : Env} {s : State} {m : MethodId} {args : Array Value} {below : List Frame} {meth : Method} {c : Code} {g : Geo} (C : CX g p s m args meth c cX10_clearest 14 (some .int) RX10) {Q : Int32 → Mem → Prop} : ∀ (n : Nat) (v1 : Int32) (v2 : Int32) (v3 : Int32) (v4 : Int32) (v5 : Int64) (v7 : Int64) (v9 : Int32) (M : Mem) (hw : b_X10_clearest_34 Q n v1 v2 v3 v4 v5 v7 v9 M) {H : Heap} {locs : List Loc} {ls : Array Slot} (hl : lv_has ls 14 [(0, .ref (g.2.1 (0 + 0))), (1, .int v1), (2, .int v2), (3, .int v3), (4, .int v4), (5, .long v5), (7, .long v7), (9, .int v9)]) (hP : va_P g.1 clz (xw g M) H) (hS : va_S (Af 0 g) s.heap H locs), W p l e ({ frames := 5, cells := 0, slots := 0, locals := 123 } : Room) s m args below meth c H locs 0 0 (MQ below (va_Qi Q (PB g (xw g)) (Af 0 g)) args s 0 0 (Af 0 g)) (F0 m 34 ls []) := by
  intro n
  induction n with
  | zero => intro v1 v2 v3 v4 v5 v7 v9 M hw H locs ls hl hP hS; exact absurd hw (by rw [b_X10_clearest_34]; exact fun h => h)
  | succ n ih =>
    intro v1 v2 v3 v4 v5 v7 v9 M hw H locs ls hl hP hS
    rw [b_X10_clearest_34] at hw
    refine lv_iload C.1 C.2.1 dX10_clearest_34 (lv_at hl 7 rfl) ?_
    refine lv_iload_n C.1 C.2.1 dX10_clearest_36 rfl (lv_at hl 3 rfl) ?_
    refine lv_icmp_ge (tgt := 118) C.1 C.2.1 dX10_clearest_37 (by decide) (fun h5 => ?_) (fun h5 => ?_)
    · have hw := hw.1 h5
      refine lv_iload C.1 C.2.1 dX10_clearest_118 (lv_at hl 4 rfl) ?_
      exact retI (wf := (xw g)) C hP hS hw dX10_clearest_120
    · have hw := hw.2 h5
      refine lv_aload_n C.1 C.2.1 dX10_clearest_40 rfl (lv_at hl 0 rfl) ?_
      refine lv_iload_n C.1 C.2.1 dX10_clearest_41 rfl (lv_at hl 1 rfl) ?_
      refine lv_iload_n C.1 C.2.1 dX10_clearest_42 rfl (lv_at hl 2 rfl) ?_
      refine lv_iload C.1 C.2.1 dX10_clearest_43 (lv_at hl 7 rfl) ?_
      refine lv_iadd C.1 C.2.1 dX10_clearest_45 ?_
      refine lv_iconst (v := 1) C.1 C.2.1 dX10_clearest_46 (by decide) ?_
      refine goV (wf := (xw g)) (runV (w := xw g M) (As := [.int v1, .int (v2 + v9), .int 1]) (rest := []) C lkX10_245 (c_X10_huntOver l g C.2.2.2.2.2.2.2.2.2.2 v1 ((v2 + v9)) 1  M _ hw) hP hS rfl rfl ⟨Nat.le_of_ble_eq_true rfl, Nat.le_of_ble_eq_true rfl⟩ (xx_0 Nat.zero_lt_one) rfl rfl hl.1 rfl (Nat.le_of_ble_eq_true rfl) dX10_clearest_47) hS (fun M6 hw H locs hP hS => ?_)
      refine lv_aload_n C.1 C.2.1 dX10_clearest_50 rfl (lv_at hl 0 rfl) ?_
      refine gX10_40 C hP Nat.zero_lt_one dX10_clearest_51 ?_
      refine gX10_248 C hP Nat.zero_lt_one dX10_clearest_54 ?_
      refine lv_i2l C.1 C.2.1 dX10_clearest_57 rfl ?_
      refine lv_topl (fun x7 e7 => ?_)
      have hw := hw x7 e7
      refine lv_lstore (lv' := [(10, .long x7), (0, .ref (g.2.1 (0 + 0))), (1, .int v1), (2, .int v2), (3, .int v3), (4, .int v4), (5, .long v5), (7, .long v7), (9, .int v9)]) C.1 C.2.1 dX10_clearest_58 hl (by decide) rfl (fun ls hl => ?_)
      refine lv_aload_n C.1 C.2.1 dX10_clearest_60 rfl (lv_at hl 1 rfl) ?_
      refine gX10_40 C hP Nat.zero_lt_one dX10_clearest_61 ?_
      refine gX10_251 C hP Nat.zero_lt_one dX10_clearest_64 ?_
      refine lv_if_ne (tgt := 74) C.1 C.2.1 dX10_clearest_67 (by decide) (fun h8 => ?_) (fun h8 => ?_)
      · have hw := hw.1 h8
        refine lv_aload_n C.1 C.2.1 dX10_clearest_74 rfl (lv_at hl 1 rfl) ?_
        refine gX10_40 C hP Nat.zero_lt_one dX10_clearest_75 ?_
        refine gX10_251 C hP Nat.zero_lt_one dX10_clearest_78 ?_
        refine lv_i2l C.1 C.2.1 dX10_clearest_81 rfl ?_
        exact k_X10_clearest_82 (Q := Q) C (fun v1 v2 v3 v4 v5 v7 v9  M hw H locs ls hl hP hS => ih v1 v2 v3 v4 v5 v7 v9  M hw hl hP hS) v1 v2 v3 v4 v5 v7 v9 x7 (((M6.1 11 0 3) : Int32).toInt64)  _ hw (lv_sub hl [1, 2, 3, 4, 5, 6, 7, 8, 0] rfl) hP hS
      · have hw := hw.2 h8
        refine lv_lconst (v := 1) C.1 C.2.1 dX10_clearest_70 (by decide) ?_
        refine lv_goto (tgt := 82) C.1 C.2.1 dX10_clearest_71 (by decide) ?_
        exact k_X10_clearest_82 (Q := Q) C (fun v1 v2 v3 v4 v5 v7 v9  M hw H locs ls hl hP hS => ih v1 v2 v3 v4 v5 v7 v9  M hw hl hP hS) v1 v2 v3 v4 v5 v7 v9 x7 1  _ hw (lv_sub hl [1, 2, 3, 4, 5, 6, 7, 8, 0] rfl) hP hS
def p_X10_clearest (a1 : Int32) (a2 : Int32) (a3 : Int32) (M : Mem) (Q : Int32 → Mem → Prop) : Prop := (p_X10_isBird a1 M (fun r1 M1 => ((r1 = 0 → (Q (-1) M1)) ∧ (¬ r1 = 0 → (p_X10_arePeriods a2 a3 8 M1 (fun r3 M3 => ((¬ r3 = 0 → (∃ n34 : Nat, b_X10_clearest_34 Q n34 a1 a2 a3 a2 (-1) 1 0 M3)) ∧ (r3 = 0 → (Q (-1) M3)))))))))
set_option maxRecDepth 100000 in
set_option maxHeartbeats 4000000 in
theorem c_X10_clearest (l : Launch) (g : Geo) (gi : GI g) (a1 : Int32) (a2 : Int32) (a3 : Int32) (M : Mem) (Q : Int32 → Mem → Prop) (hw : p_X10_clearest a1 a2 a3 M Q) : Met l yX10_clearest (Cond.code yX10_clearest cX10_clearest 14 (some .int) :: bg) ({ frames := 5, cells := 0, slots := 0, locals := 123 } : Room) (va_Pc [.ref (g.2.1 (0 + 0)), .int a1, .int a2, .int a3] (PW g (xw g M))) (va_Qi Q (PB g (xw g)) (Af 0 g)) 0 0 (Af 0 g) := by
  refine Met.ofW (cc := cX10_clearest) (maxL := 14) (ret := (some .int)) (by decide +kernel) rfl ?_
  intro p e s m args below meth c s₁ B hml hv
  obtain ⟨rfl, hv⟩ := hv
  have C := CX.start (own := RX10) B hml rfl gi hv
  have hP := hv.1
  have hS : va_S (Af 0 g) s.heap s.heap [] := va_S.rf
  have hl := lv_entry ([.ref (g.2.1 (0 + 0)), .int a1, .int a2, .int a3]) (n := 14) (Nat.le_of_ble_eq_true rfl)
  rw [lg_entry_eq]
  generalize (lg_sl ([.ref (g.2.1 (0 + 0)), .int a1, .int a2, .int a3]) ++ List.replicate (14 - (lg_sl ([.ref (g.2.1 (0 + 0)), .int a1, .int a2, .int a3])).length) Slot.unset).toArray = ls at hl ⊢
  have hl : lv_has ls 14 [(0, .ref (g.2.1 (0 + 0))), (1, .int a1), (2, .int a2), (3, .int a3)] := hl
  unfold p_X10_clearest at hw
  refine lv_aload_n C.1 C.2.1 dX10_clearest_0 rfl (lv_at hl 0 rfl) ?_
  refine lv_iload_n C.1 C.2.1 dX10_clearest_1 rfl (lv_at hl 1 rfl) ?_
  refine goI (wf := (xw g)) (runV (w := xw g M) (As := [.int a1]) (rest := []) C lkX10_111 (c_X10_isBird l g C.2.2.2.2.2.2.2.2.2.2 a1  M _ hw) hP hS rfl rfl ⟨Nat.le_of_ble_eq_true rfl, Nat.le_of_ble_eq_true rfl⟩ (xx_0 Nat.zero_lt_one) rfl rfl hl.1 rfl (Nat.le_of_ble_eq_true rfl) dX10_clearest_2) hS (fun r1 M1 hw H locs hP hS => ?_)
  obtain ⟨hw, hz1⟩ := hw
  refine lv_if_eq (tgt := 18) C.1 C.2.1 dX10_clearest_5 (by decide) (fun h2 => ?_) (fun h2 => ?_)
  · have hw := hw.1 h2
    refine lv_iconst (v := (-1)) C.1 C.2.1 dX10_clearest_18 (by decide) ?_
    exact retI (wf := (xw g)) C hP hS hw dX10_clearest_19
  · have hw := hw.2 h2
    refine lv_iload_n C.1 C.2.1 dX10_clearest_8 rfl (lv_at hl 2 rfl) ?_
    refine lv_iload_n C.1 C.2.1 dX10_clearest_9 rfl (lv_at hl 3 rfl) ?_
    refine lv_bipush (v := 8) C.1 C.2.1 dX10_clearest_10 (by decide) ?_
    refine goI (wf := (xw g)) (runS (w := xw g M1) (As := [.int a2, .int a3, .int 8]) (rest := []) C lkX10_241 (c_X10_arePeriods l g C.2.2.2.2.2.2.2.2.2.2 a2 a3 8  M1 _ hw) hP hS rfl rfl ⟨Nat.le_of_ble_eq_true rfl, Nat.le_of_ble_eq_true rfl⟩ hl.1 rfl (Nat.le_of_ble_eq_true rfl) dX10_clearest_12) hS (fun r3 M3 hw H locs hP hS => ?_)
    obtain ⟨hw, hz3⟩ := hw
    refine lv_if_ne (tgt := 20) C.1 C.2.1 dX10_clearest_15 (by decide) (fun h4 => ?_) (fun h4 => ?_)
    · have hw := hw.1 h4
      refine lv_iload_n C.1 C.2.1 dX10_clearest_20 rfl (lv_at hl 2 rfl) ?_
      refine lv_istore (lv' := [(4, .int a2), (0, .ref (g.2.1 (0 + 0))), (1, .int a1), (2, .int a2), (3, .int a3)]) C.1 C.2.1 dX10_clearest_21 hl (by decide) rfl (fun ls hl => ?_)
      refine lv_ldc2 (v := (-1)) C.1 C.2.1 C.2.2.2.2.1 (C.2.2.2.2.2.1 _ (bg_of 949 (by decide +kernel) rfl)) dX10_clearest_23 ?_
      refine lv_lstore (lv' := [(5, .long (-1)), (4, .int a2), (0, .ref (g.2.1 (0 + 0))), (1, .int a1), (2, .int a2), (3, .int a3)]) C.1 C.2.1 dX10_clearest_26 hl (by decide) rfl (fun ls hl => ?_)
      refine lv_lconst (v := 1) C.1 C.2.1 dX10_clearest_28 (by decide) ?_
      refine lv_lstore (lv' := [(7, .long 1), (5, .long (-1)), (4, .int a2), (0, .ref (g.2.1 (0 + 0))), (1, .int a1), (2, .int a2), (3, .int a3)]) C.1 C.2.1 dX10_clearest_29 hl (by decide) rfl (fun ls hl => ?_)
      refine lv_iconst (v := 0) C.1 C.2.1 dX10_clearest_31 (by decide) ?_
      refine lv_istore (lv' := [(9, .int 0), (7, .long 1), (5, .long (-1)), (4, .int a2), (0, .ref (g.2.1 (0 + 0))), (1, .int a1), (2, .int a2), (3, .int a3)]) C.1 C.2.1 dX10_clearest_32 hl (by decide) rfl (fun ls hl => ?_)
      obtain ⟨n9, hw⟩ := hw
      exact k_X10_clearest_34 (Q := Q) C n9 a1 a2 a3 a2 (-1) 1 0  _ hw (lv_sub hl [4, 5, 6, 7, 3, 2, 1, 0] rfl) hP hS
    · have hw := hw.2 h4
      refine lv_iconst (v := (-1)) C.1 C.2.1 dX10_clearest_18 (by decide) ?_
      exact retI (wf := (xw g)) C hP hS hw dX10_clearest_19
def b_X10_tune_118 (Q : Int32 → Mem → Prop) (k67 : Int32 → Int32 → Int32 → Int32 → Int32 → Mem → Prop) (v2 : Int32) (v3 : Int32) (v4 : Int32) (v5 : Int32) (v6 : Int32) (M : Mem) : Prop := (∀ x17 : Int32, x17 = (v6 + 1) → (k67 v2 v3 v4 v5 x17 M))
set_option maxRecDepth 100000 in
set_option maxHeartbeats 4000000 in
theorem k_X10_tune_118 {p : Program} {l : Launch} {e : Env} {s : State} {m : MethodId} {args : Array Value} {below : List Frame} {meth : Method} {c : Code} {g : Geo} (C : CX g p s m args meth c cX10_tune 7 (some .int) RX10) {Q : Int32 → Mem → Prop} {k67 : Int32 → Int32 → Int32 → Int32 → Int32 → Mem → Prop} (hk67 : ∀ (v2 : Int32) (v3 : Int32) (v4 : Int32) (v5 : Int32) (v6 : Int32) (M : Mem), k67 v2 v3 v4 v5 v6 M → ∀ (H : Heap) (locs : List Loc) (ls : Array Slot), lv_has ls 7 [(0, .ref (g.2.1 (0 + 0))), (2, .int v2), (3, .int v3), (4, .int v4), (5, .int v5), (6, .int v6)] → va_P g.1 clz (xw g M) H → va_S (Af 0 g) s.heap H locs → W p l e ({ frames := 4, cells := 0, slots := 0, locals := 99 } : Room) s m args below meth c H locs 0 0 (MQ below (va_Qi Q (PB g (xw g)) (Af 0 g)) args s 0 0 (Af 0 g)) (F0 m 67 ls [])) (v2 : Int32) (v3 : Int32) (v4 : Int32) (v5 : Int32) (v6 : Int32) (M : Mem) (hw : b_X10_tune_118 Q k67 v2 v3 v4 v5 v6 M) {H : Heap} {locs : List Loc} {ls : Array Slot} (hl : lv_has ls 7 [(0, .ref (g.2.1 (0 + 0))), (2, .int v2), (3, .int v3), (4, .int v4), (5, .int v5), (6, .int v6)]) (hP : va_P g.1 clz (xw g M) H) (hS : va_S (Af 0 g) s.heap H locs) : W p l e ({ frames := 4, cells := 0, slots := 0, locals := 99 } : Room) s m args below meth c H locs 0 0 (MQ below (va_Qi Q (PB g (xw g)) (Af 0 g)) args s 0 0 (Af 0 g)) (F0 m 118 ls []) := by
  unfold b_X10_tune_118 at hw
  obtain ⟨x17, e17⟩ : ∃ y : Int32, y = (v6 + 1) := ⟨_, rfl⟩
  have hw := hw x17 e17
  refine lv_iinc (v := x17) (lv' := [(6, .int x17), (0, .ref (g.2.1 (0 + 0))), (2, .int v2), (3, .int v3), (4, .int v4), (5, .int v5)]) C.1 C.2.1 dX10_tune_118 hl (k := 5) rfl (by rw [e17]; rfl) (by decide) rfl (fun ls hl => ?_)
  refine lv_goto (tgt := 67) C.1 C.2.1 dX10_tune_121 (by decide) ?_
  exact hk67 v2 v3 v4 v5 x17  _ hw _ _ _ (lv_sub hl [1, 2, 3, 4, 5, 0] rfl) hP hS
def b_X10_tune_67 (Q : Int32 → Mem → Prop) : Nat → Int32 → Int32 → Int32 → Int32 → Int32 → Mem → Prop
  | 0, _, _, _, _, _, _ => False
  | n + 1, v2, v3, v4, v5, v6, M => ((15 ≤ v6 → (Q v4 M)) ∧ (¬ 15 ≤ v6 → (p_X2_turnBack v2 v6 0 M (fun M13 => (p_X2_sumAt v3 M13 (fun M14 => (p_X2_power  M14 (fun r15 M15 => ((r15 ≤ v5 → (b_X10_tune_118 Q (fun v2 v3 v4 v5 v6 M => b_X10_tune_67 Q n v2 v3 v4 v5 v6 M) v2 v3 v4 v5 v6 M15)) ∧ (¬ r15 ≤ v5 → (p_X2_power  M15 (fun r18 M18 => (b_X10_tune_118 Q (fun v2 v3 v4 v5 v6 M => b_X10_tune_67 Q n v2 v3 v4 v5 v6 M) v2 v3 v6 r18 v6 M18)))))))))))))
set_option maxRecDepth 100000 in
set_option maxHeartbeats 4000000 in
theorem k_X10_tune_67 {p : Program} {l : Launch} {e : Env} {s : State} {m : MethodId} {args : Array Value} {below : List Frame} {meth : Method} {c : Code} {g : Geo} (C : CX g p s m args meth c cX10_tune 7 (some .int) RX10) {Q : Int32 → Mem → Prop} : ∀ (n : Nat) (v2 : Int32) (v3 : Int32) (v4 : Int32) (v5 : Int32) (v6 : Int32) (M : Mem) (hw : b_X10_tune_67 Q n v2 v3 v4 v5 v6 M) {H : Heap} {locs : List Loc} {ls : Array Slot} (hl : lv_has ls 7 [(0, .ref (g.2.1 (0 + 0))), (2, .int v2), (3, .int v3), (4, .int v4), (5, .int v5), (6, .int v6)]) (hP : va_P g.1 clz (xw g M) H) (hS : va_S (Af 0 g) s.heap H locs), W p l e ({ frames := 4, cells := 0, slots := 0, locals := 99 } : Room) s m args below meth c H locs 0 0 (MQ below (va_Qi Q (PB g (xw g)) (Af 0 g)) args s 0 0 (Af 0 g)) (F0 m 67 ls []) := by
  intro n
  induction n with
  | zero => intro v2 v3 v4 v5 v6 M hw H locs ls hl hP hS; exact absurd hw (by rw [b_X10_tune_67]; exact fun h => h)
  | succ n ih =>
    intro v2 v3 v4 v5 v6 M hw H locs ls hl hP hS
    rw [b_X10_tune_67] at hw
    refine lv_iload C.1 C.2.1 dX10_tune_67 (lv_at hl 5 rfl) ?_
    refine lv_bipush (v := 15) C.1 C.2.1 dX10_tune_69 (by decide) ?_
    refine lv_icmp_ge (tgt := 124) C.1 C.2.1 dX10_tune_71 (by decide) (fun h12 => ?_) (fun h12 => ?_)
    · have hw := hw.1 h12
      refine lv_iload C.1 C.2.1 dX10_tune_124 (lv_at hl 3 rfl) ?_
      exact retI (wf := (xw g)) C hP hS hw dX10_tune_126
    · have hw := hw.2 h12
      refine lv_aload_n C.1 C.2.1 dX10_tune_74 rfl (lv_at hl 0 rfl) ?_
      refine gX10_33 C hP Nat.zero_lt_one dX10_tune_75 ?_
      refine lv_iload_n C.1 C.2.1 dX10_tune_78 rfl (lv_at hl 1 rfl) ?_
      refine lv_iload C.1 C.2.1 dX10_tune_79 (lv_at hl 5 rfl) ?_
      refine lv_iconst (v := 0) C.1 C.2.1 dX10_tune_81 (by decide) ?_
      refine goV (wf := (xw g)) (runV (w := xw g M) (As := [.int v2, .int v6, .int 0]) (rest := []) C lkX10_191 (c_X2_turnBack l g C.2.2.2.2.2.2.2.2.2.2 v2 v6 0  M _ hw) hP hS rfl rfl ⟨Nat.le_of_ble_eq_true rfl, Nat.le_of_ble_eq_true rfl⟩ (xx_5 Nat.zero_lt_one) rfl rfl hl.1 rfl (Nat.le_of_ble_eq_true rfl) dX10_tune_82) hS (fun M13 hw H locs hP hS => ?_)
      refine lv_aload_n C.1 C.2.1 dX10_tune_85 rfl (lv_at hl 0 rfl) ?_
      refine gX10_33 C hP Nat.zero_lt_one dX10_tune_86 ?_
      refine lv_iload_n C.1 C.2.1 dX10_tune_89 rfl (lv_at hl 2 rfl) ?_
      refine goV (wf := (xw g)) (runV (w := xw g M13) (As := [.int v3]) (rest := []) C lkX10_195 (c_X2_sumAt l g C.2.2.2.2.2.2.2.2.2.2 v3  M13 _ hw) hP hS rfl rfl ⟨Nat.le_of_ble_eq_true rfl, Nat.le_of_ble_eq_true rfl⟩ (xx_5 Nat.zero_lt_one) rfl rfl hl.1 rfl (Nat.le_of_ble_eq_true rfl) dX10_tune_90) hS (fun M14 hw H locs hP hS => ?_)
      refine lv_aload_n C.1 C.2.1 dX10_tune_93 rfl (lv_at hl 0 rfl) ?_
      refine gX10_33 C hP Nat.zero_lt_one dX10_tune_94 ?_
      refine goI (wf := (xw g)) (runV (w := xw g M14) (As := []) (rest := []) C lkX10_204 (c_X2_power l g C.2.2.2.2.2.2.2.2.2.2   M14 _ hw) hP hS rfl rfl ⟨Nat.le_of_ble_eq_true rfl, Nat.le_of_ble_eq_true rfl⟩ (xx_5 Nat.zero_lt_one) rfl rfl hl.1 rfl (Nat.le_of_ble_eq_true rfl) dX10_tune_97) hS (fun r15 M15 hw H locs hP hS => ?_)
      refine lv_iload C.1 C.2.1 dX10_tune_100 (lv_at hl 4 rfl) ?_
      refine lv_icmp_le (tgt := 118) C.1 C.2.1 dX10_tune_102 (by decide) (fun h16 => ?_) (fun h16 => ?_)
      · have hw := hw.1 h16
        exact k_X10_tune_118 (Q := Q) C (fun v2 v3 v4 v5 v6  M hw H locs ls hl hP hS => ih v2 v3 v4 v5 v6  M hw hl hP hS) v2 v3 v4 v5 v6  _ hw (lv_sub hl [0, 1, 2, 3, 4, 5] rfl) hP hS
      · have hw := hw.2 h16
        refine lv_aload_n C.1 C.2.1 dX10_tune_105 rfl (lv_at hl 0 rfl) ?_
        refine gX10_33 C hP Nat.zero_lt_one dX10_tune_106 ?_
        refine goI (wf := (xw g)) (runV (w := xw g M15) (As := []) (rest := []) C lkX10_204 (c_X2_power l g C.2.2.2.2.2.2.2.2.2.2   M15 _ hw) hP hS rfl rfl ⟨Nat.le_of_ble_eq_true rfl, Nat.le_of_ble_eq_true rfl⟩ (xx_5 Nat.zero_lt_one) rfl rfl hl.1 rfl (Nat.le_of_ble_eq_true rfl) dX10_tune_109) hS (fun r18 M18 hw H locs hP hS => ?_)
        refine lv_istore (lv' := [(5, .int r18), (0, .ref (g.2.1 (0 + 0))), (2, .int v2), (3, .int v3), (4, .int v4), (6, .int v6)]) C.1 C.2.1 dX10_tune_112 hl (by decide) rfl (fun ls hl => ?_)
        refine lv_iload C.1 C.2.1 dX10_tune_114 (lv_at hl 5 rfl) ?_
        refine lv_istore (lv' := [(4, .int v6), (5, .int r18), (0, .ref (g.2.1 (0 + 0))), (2, .int v2), (3, .int v3), (6, .int v6)]) C.1 C.2.1 dX10_tune_116 hl (by decide) rfl (fun ls hl => ?_)
        exact k_X10_tune_118 (Q := Q) C (fun v2 v3 v4 v5 v6  M hw H locs ls hl hP hS => ih v2 v3 v4 v5 v6  M hw hl hP hS) v2 v3 v6 r18 v6  _ hw (lv_sub hl [2, 3, 4, 0, 1, 5] rfl) hP hS
def p_X10_tune (a1 : Int32) (a2 : Int32) (a3 : Int32) (M : Mem) (Q : Int32 → Mem → Prop) : Prop := (p_X10_isBird a1 M (fun r1 M1 => ((r1 = 0 → (Q (-1) M1)) ∧ (¬ r1 = 0 → (p_X10_isPeriod a2 M1 (fun r3 M3 => ((r3 = 0 → (Q (-1) M3)) ∧ (¬ r3 = 0 → ((a3 < 0 → (Q (-1) M3)) ∧ (¬ a3 < 0 → ((a3 < 62 → (∃ w7 : Nat, M3.2.2 0 0 3 = some (23 + w7) ∧ w7 < 2 ∧ (p_X2_hear w7 a2 M3 (fun M8 => (∃ w9 : Nat, M8.2.2 0 0 3 = some (23 + w9) ∧ w9 < 2 ∧ (vp_in a1 5 ∧ (p_X2_takeCode ((M8.1 25 (5 * w9 + (a1 : Int32).toNatClampNeg) 2)) M8 (fun M11 => (∃ n67 : Nat, b_X10_tune_67 Q n67 a2 a3 0 (-1) 0 M11))))))))) ∧ (¬ a3 < 62 → (Q (-1) M3)))))))))))))
set_option maxRecDepth 100000 in
set_option maxHeartbeats 4000000 in
theorem c_X10_tune (l : Launch) (g : Geo) (gi : GI g) (a1 : Int32) (a2 : Int32) (a3 : Int32) (M : Mem) (Q : Int32 → Mem → Prop) (hw : p_X10_tune a1 a2 a3 M Q) : Met l yX10_tune (Cond.code yX10_tune cX10_tune 7 (some .int) :: bg) ({ frames := 4, cells := 0, slots := 0, locals := 99 } : Room) (va_Pc [.ref (g.2.1 (0 + 0)), .int a1, .int a2, .int a3] (PW g (xw g M))) (va_Qi Q (PB g (xw g)) (Af 0 g)) 0 0 (Af 0 g) := by
  refine Met.ofW (cc := cX10_tune) (maxL := 7) (ret := (some .int)) (by decide +kernel) rfl ?_
  intro p e s m args below meth c s₁ B hml hv
  obtain ⟨rfl, hv⟩ := hv
  have C := CX.start (own := RX10) B hml rfl gi hv
  have hP := hv.1
  have hS : va_S (Af 0 g) s.heap s.heap [] := va_S.rf
  have hl := lv_entry ([.ref (g.2.1 (0 + 0)), .int a1, .int a2, .int a3]) (n := 7) (Nat.le_of_ble_eq_true rfl)
  rw [lg_entry_eq]
  generalize (lg_sl ([.ref (g.2.1 (0 + 0)), .int a1, .int a2, .int a3]) ++ List.replicate (7 - (lg_sl ([.ref (g.2.1 (0 + 0)), .int a1, .int a2, .int a3])).length) Slot.unset).toArray = ls at hl ⊢
  have hl : lv_has ls 7 [(0, .ref (g.2.1 (0 + 0))), (1, .int a1), (2, .int a2), (3, .int a3)] := hl
  unfold p_X10_tune at hw
  refine lv_aload_n C.1 C.2.1 dX10_tune_0 rfl (lv_at hl 0 rfl) ?_
  refine lv_iload_n C.1 C.2.1 dX10_tune_1 rfl (lv_at hl 1 rfl) ?_
  refine goI (wf := (xw g)) (runV (w := xw g M) (As := [.int a1]) (rest := []) C lkX10_111 (c_X10_isBird l g C.2.2.2.2.2.2.2.2.2.2 a1  M _ hw) hP hS rfl rfl ⟨Nat.le_of_ble_eq_true rfl, Nat.le_of_ble_eq_true rfl⟩ (xx_0 Nat.zero_lt_one) rfl rfl hl.1 rfl (Nat.le_of_ble_eq_true rfl) dX10_tune_2) hS (fun r1 M1 hw H locs hP hS => ?_)
  obtain ⟨hw, hz1⟩ := hw
  refine lv_if_eq (tgt := 25) C.1 C.2.1 dX10_tune_5 (by decide) (fun h2 => ?_) (fun h2 => ?_)
  · have hw := hw.1 h2
    refine lv_iconst (v := (-1)) C.1 C.2.1 dX10_tune_25 (by decide) ?_
    exact retI (wf := (xw g)) C hP hS hw dX10_tune_26
  · have hw := hw.2 h2
    refine lv_iload_n C.1 C.2.1 dX10_tune_8 rfl (lv_at hl 2 rfl) ?_
    refine goI (wf := (xw g)) (runS (w := xw g M1) (As := [.int a2]) (rest := []) C lkX10_138 (c_X10_isPeriod l g C.2.2.2.2.2.2.2.2.2.2 a2  M1 _ hw) hP hS rfl rfl ⟨Nat.le_of_ble_eq_true rfl, Nat.le_of_ble_eq_true rfl⟩ hl.1 rfl (Nat.le_of_ble_eq_true rfl) dX10_tune_9) hS (fun r3 M3 hw H locs hP hS => ?_)
    obtain ⟨hw, hz3⟩ := hw
    refine lv_if_eq (tgt := 25) C.1 C.2.1 dX10_tune_12 (by decide) (fun h4 => ?_) (fun h4 => ?_)
    · have hw := hw.1 h4
      refine lv_iconst (v := (-1)) C.1 C.2.1 dX10_tune_25 (by decide) ?_
      exact retI (wf := (xw g)) C hP hS hw dX10_tune_26
    · have hw := hw.2 h4
      refine lv_iload_n C.1 C.2.1 dX10_tune_15 rfl (lv_at hl 3 rfl) ?_
      refine lv_if_lt (tgt := 25) C.1 C.2.1 dX10_tune_16 (by decide) (fun h5 => ?_) (fun h5 => ?_)
      · have hw := hw.1 h5
        refine lv_iconst (v := (-1)) C.1 C.2.1 dX10_tune_25 (by decide) ?_
        exact retI (wf := (xw g)) C hP hS hw dX10_tune_26
      · have hw := hw.2 h5
        refine lv_iload_n C.1 C.2.1 dX10_tune_19 rfl (lv_at hl 3 rfl) ?_
        refine lv_bipush (v := 62) C.1 C.2.1 dX10_tune_20 (by decide) ?_
        refine lv_icmp_lt (tgt := 27) C.1 C.2.1 dX10_tune_22 (by decide) (fun h6 => ?_) (fun h6 => ?_)
        · have hw := hw.1 h6
          refine lv_aload_n C.1 C.2.1 dX10_tune_27 rfl (lv_at hl 0 rfl) ?_
          refine gX10_33 C hP Nat.zero_lt_one dX10_tune_28 ?_
          refine lv_aload_n C.1 C.2.1 dX10_tune_31 rfl (lv_at hl 0 rfl) ?_
          obtain ⟨w7, h7, hb7, hw⟩ := hw
          refine gX10_23f C hP Nat.zero_lt_one h7 dX10_tune_32 ?_
          refine lv_iload_n C.1 C.2.1 dX10_tune_35 rfl (lv_at hl 2 rfl) ?_
          refine goV (wf := (xw g)) (runV (w := xw g M3) (As := [.ref (g.2.1 (23 + w7)), .int a2]) (rest := []) C lkX10_175 (c_X2_hear l g C.2.2.2.2.2.2.2.2.2.2 w7 a2 hb7 M3 _ hw) hP hS rfl rfl ⟨Nat.le_of_ble_eq_true rfl, Nat.le_of_ble_eq_true rfl⟩ (xx_5 Nat.zero_lt_one) rfl rfl hl.1 rfl (Nat.le_of_ble_eq_true rfl) dX10_tune_36) hS (fun M8 hw H locs hP hS => ?_)
          refine lv_aload_n C.1 C.2.1 dX10_tune_39 rfl (lv_at hl 0 rfl) ?_
          refine gX10_33 C hP Nat.zero_lt_one dX10_tune_40 ?_
          refine lv_aload_n C.1 C.2.1 dX10_tune_43 rfl (lv_at hl 0 rfl) ?_
          obtain ⟨w9, h9, hb9, hw⟩ := hw
          refine gX10_23f C hP Nat.zero_lt_one h9 dX10_tune_44 ?_
          refine gX10_127 C hP hb9 dX10_tune_47 ?_
          refine lv_iload_n C.1 C.2.1 dX10_tune_50 rfl (lv_at hl 1 rfl) ?_
          obtain ⟨h10, hw⟩ := hw
          have hb10 : (5 * w9 + (a1 : Int32).toNatClampNeg) < 10 := by have h9 := vp_lt h10; have h8 := hb9; omega
          refine al_24 C hP hb9 h10 dX10_tune_51 ?_
          refine gX10_141 C hP hb10 dX10_tune_52 ?_
          refine goV (wf := (xw g)) (runV (w := xw g M8) (As := [.int (M8.1 25 (5 * w9 + (a1 : Int32).toNatClampNeg) 2)]) (rest := []) C lkX10_188 (c_X2_takeCode l g C.2.2.2.2.2.2.2.2.2.2 ((M8.1 25 (5 * w9 + (a1 : Int32).toNatClampNeg) 2))  M8 _ hw) hP hS rfl rfl ⟨Nat.le_of_ble_eq_true rfl, Nat.le_of_ble_eq_true rfl⟩ (xx_5 Nat.zero_lt_one) rfl rfl hl.1 rfl (Nat.le_of_ble_eq_true rfl) dX10_tune_55) hS (fun M11 hw H locs hP hS => ?_)
          refine lv_iconst (v := 0) C.1 C.2.1 dX10_tune_58 (by decide) ?_
          refine lv_istore (lv' := [(4, .int 0), (0, .ref (g.2.1 (0 + 0))), (1, .int a1), (2, .int a2), (3, .int a3)]) C.1 C.2.1 dX10_tune_59 hl (by decide) rfl (fun ls hl => ?_)
          refine lv_iconst (v := (-1)) C.1 C.2.1 dX10_tune_61 (by decide) ?_
          refine lv_istore (lv' := [(5, .int (-1)), (4, .int 0), (0, .ref (g.2.1 (0 + 0))), (1, .int a1), (2, .int a2), (3, .int a3)]) C.1 C.2.1 dX10_tune_62 hl (by decide) rfl (fun ls hl => ?_)
          refine lv_iconst (v := 0) C.1 C.2.1 dX10_tune_64 (by decide) ?_
          refine lv_istore (lv' := [(6, .int 0), (5, .int (-1)), (4, .int 0), (0, .ref (g.2.1 (0 + 0))), (1, .int a1), (2, .int a2), (3, .int a3)]) C.1 C.2.1 dX10_tune_65 hl (by decide) rfl (fun ls hl => ?_)
          obtain ⟨n9, hw⟩ := hw
          exact k_X10_tune_67 (Q := Q) C n9 a2 a3 0 (-1) 0  _ hw (lv_sub hl [3, 5, 6, 2, 1, 0] rfl) hP hS
        · have hw := hw.2 h6
          refine lv_iconst (v := (-1)) C.1 C.2.1 dX10_tune_25 (by decide) ?_
          exact retI (wf := (xw g)) C hP hS hw dX10_tune_26
