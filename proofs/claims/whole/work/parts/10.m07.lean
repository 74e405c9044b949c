def p_X10_measuredRange (a1 : Int32) (a2 : Int32) (M : Mem) (Q : Int32 → Mem → Prop) : Prop := (∃ w1 : Nat, M.2.2 0 0 3 = some (23 + w1) ∧ w1 < 2 ∧ (vp_in a1 5 ∧ (∃ w3 : Nat, M.2.2 0 0 3 = some (23 + w3) ∧ w3 < 2 ∧ (∃ w4 : Nat, M.2.2 0 0 3 = some (23 + w4) ∧ w4 < 2 ∧ (∃ w5 : Nat, M.2.2 0 0 3 = some (23 + w5) ∧ w5 < 2 ∧ (p_X7_way (((M.1 25 (5 * w1 + (a1 : Int32).toNatClampNeg) 10) - (M.1 23 w3 11))) (((M.1 25 (5 * w1 + (a1 : Int32).toNatClampNeg) 11) - (M.1 23 w4 12))) (((M.1 25 (5 * w1 + (a1 : Int32).toNatClampNeg) 12) - (M.1 23 w5 13))) M (fun r6 M6 => (∃ w7 : Nat, M6.2.2 0 0 3 = some (23 + w7) ∧ w7 < 2 ∧ (p_X10_nextNumber ((((M6.1 23 w7 8) + a1) + 1000)) M6 (fun r8 M8 => (p_X10_noiseOf r8 a2 M8 (fun r9 M9 => (∃ w10 : Nat, M9.2.2 0 0 3 = some (23 + w10) ∧ w10 < 2 ∧ (Q (if 0 < (if ((r6 + ((4 : Int32) * (M9.1 23 w10 14))) + r9) < 400 then ((r6 + ((4 : Int32) * (M9.1 23 w10 14))) + r9) else 400) then (if ((r6 + ((4 : Int32) * (M9.1 23 w10 14))) + r9) < 400 then ((r6 + ((4 : Int32) * (M9.1 23 w10 14))) + r9) else 400) else 0) M9))))))))))))))
set_option maxRecDepth 100000 in
set_option maxHeartbeats 4000000 in
theorem c_X10_measuredRange (l : Launch) (g : Geo) (gi : GI g) (a1 : Int32) (a2 : Int32) (M : Mem) (Q : Int32 → Mem → Prop) (hw : p_X10_measuredRange a1 a2 M Q) : Met l yX10_measuredRange (Cond.code yX10_measuredRange cX10_measuredRange 6 (some .int) :: bg) ({ frames := 1, cells := 0, slots := 0, locals := 24 } : Room) (va_Pc [.ref (g.2.1 (0 + 0)), .int a1, .int a2] (PW g (xw g M))) (va_Qi Q (PB g (xw g)) (Af 0 g)) 0 0 (Af 0 g) := by
  refine Met.ofW (cc := cX10_measuredRange) (maxL := 6) (ret := (some .int)) (by decide +kernel) rfl ?_
  intro p e s m args below meth c s₁ B hml hv
  obtain ⟨rfl, hv⟩ := hv
  have C := CX.start (own := RX10) B hml rfl gi hv
  have hP := hv.1
  have hS : va_S (Af 0 g) s.heap s.heap [] := va_S.rf
  have hl := lv_entry ([.ref (g.2.1 (0 + 0)), .int a1, .int a2]) (n := 6) (Nat.le_of_ble_eq_true rfl)
  rw [lg_entry_eq]
  generalize (lg_sl ([.ref (g.2.1 (0 + 0)), .int a1, .int a2]) ++ List.replicate (6 - (lg_sl ([.ref (g.2.1 (0 + 0)), .int a1, .int a2])).length) Slot.unset).toArray = ls at hl ⊢
  have hl : lv_has ls 6 [(0, .ref (g.2.1 (0 + 0))), (1, .int a1), (2, .int a2)] := hl
  unfold p_X10_measuredRange at hw
  refine lv_aload_n C.1 C.2.1 dX10_measuredRange_0 rfl (lv_at hl 0 rfl) ?_
  obtain ⟨w1, h1, hb1, hw⟩ := hw
  refine gX10_23f C hP Nat.zero_lt_one h1 dX10_measuredRange_1 ?_
  refine gX10_127 C hP hb1 dX10_measuredRange_4 ?_
  refine lv_iload_n C.1 C.2.1 dX10_measuredRange_7 rfl (lv_at hl 1 rfl) ?_
  obtain ⟨h2, hw⟩ := hw
  have hb2 : (5 * w1 + (a1 : Int32).toNatClampNeg) < 10 := by have h9 := vp_lt h2; have h8 := hb1; omega
  refine al_24 C hP hb1 h2 dX10_measuredRange_8 ?_
  refine lv_astore_n (lv' := [(3, .ref (g.2.1 (27 + (5 * w1 + (a1 : Int32).toNatClampNeg)))), (0, .ref (g.2.1 (0 + 0))), (1, .int a1), (2, .int a2)]) C.1 C.2.1 dX10_measuredRange_9 rfl hl (by decide) rfl (fun ls hl => ?_)
  refine lv_aload_n C.1 C.2.1 dX10_measuredRange_10 rfl (lv_at hl 1 rfl) ?_
  refine gX10_74 C hP Nat.zero_lt_one dX10_measuredRange_11 ?_
  refine lv_aload_n C.1 C.2.1 dX10_measuredRange_14 rfl (lv_at hl 0 rfl) ?_
  refine gX10_386 C hP hb2 dX10_measuredRange_15 ?_
  refine lv_aload_n C.1 C.2.1 dX10_measuredRange_18 rfl (lv_at hl 1 rfl) ?_
  obtain ⟨w3, h3, hb3, hw⟩ := hw
  refine gX10_23f C hP Nat.zero_lt_one h3 dX10_measuredRange_19 ?_
  refine gX10_389 C hP hb3 dX10_measuredRange_22 ?_
  refine lv_isub C.1 C.2.1 dX10_measuredRange_25 ?_
  refine lv_aload_n C.1 C.2.1 dX10_measuredRange_26 rfl (lv_at hl 0 rfl) ?_
  refine gX10_392 C hP hb2 dX10_measuredRange_27 ?_
  refine lv_aload_n C.1 C.2.1 dX10_measuredRange_30 rfl (lv_at hl 1 rfl) ?_
  obtain ⟨w4, h4, hb4, hw⟩ := hw
  refine gX10_23f C hP Nat.zero_lt_one h4 dX10_measuredRange_31 ?_
  refine gX10_395 C hP hb4 dX10_measuredRange_34 ?_
  refine lv_isub C.1 C.2.1 dX10_measuredRange_37 ?_
  refine lv_aload_n C.1 C.2.1 dX10_measuredRange_38 rfl (lv_at hl 0 rfl) ?_
  refine gX10_398 C hP hb2 dX10_measuredRange_39 ?_
  refine lv_aload_n C.1 C.2.1 dX10_measuredRange_42 rfl (lv_at hl 1 rfl) ?_
  obtain ⟨w5, h5, hb5, hw⟩ := hw
  refine gX10_23f C hP Nat.zero_lt_one h5 dX10_measuredRange_43 ?_
  refine gX10_401 C hP hb5 dX10_measuredRange_46 ?_
  refine lv_isub C.1 C.2.1 dX10_measuredRange_49 ?_
  refine goI (wf := (xw g)) (runV (w := xw g M) (As := [.int ((M.1 25 (5 * w1 + (a1 : Int32).toNatClampNeg) 10) - (M.1 23 w3 11)), .int ((M.1 25 (5 * w1 + (a1 : Int32).toNatClampNeg) 11) - (M.1 23 w4 12)), .int ((M.1 25 (5 * w1 + (a1 : Int32).toNatClampNeg) 12) - (M.1 23 w5 13))]) (rest := []) C lkX10_404 (c_X7_way l g C.2.2.2.2.2.2.2.2.2.2 (((M.1 25 (5 * w1 + (a1 : Int32).toNatClampNeg) 10) - (M.1 23 w3 11))) (((M.1 25 (5 * w1 + (a1 : Int32).toNatClampNeg) 11) - (M.1 23 w4 12))) (((M.1 25 (5 * w1 + (a1 : Int32).toNatClampNeg) 12) - (M.1 23 w5 13)))  M _ hw) hP hS rfl rfl ⟨Nat.le_of_ble_eq_true rfl, Nat.le_of_ble_eq_true rfl⟩ (xx_17 Nat.zero_lt_one) rfl rfl hl.1 rfl (Nat.le_of_ble_eq_true rfl) dX10_measuredRange_50) hS (fun r6 M6 hw H locs hP hS => ?_)
  refine lv_istore (lv' := [(4, .int r6), (3, .ref (g.2.1 (27 + (5 * w1 + (a1 : Int32).toNatClampNeg)))), (0, .ref (g.2.1 (0 + 0))), (1, .int a1), (2, .int a2)]) C.1 C.2.1 dX10_measuredRange_53 hl (by decide) rfl (fun ls hl => ?_)
  refine lv_aload_n C.1 C.2.1 dX10_measuredRange_55 rfl (lv_at hl 2 rfl) ?_
  obtain ⟨w7, h7, hb7, hw⟩ := hw
  refine gX10_23f C hP Nat.zero_lt_one h7 dX10_measuredRange_56 ?_
  refine gX10_261 C hP hb7 dX10_measuredRange_59 ?_
  refine lv_iload_n C.1 C.2.1 dX10_measuredRange_62 rfl (lv_at hl 3 rfl) ?_
  refine lv_iadd C.1 C.2.1 dX10_measuredRange_63 ?_
  refine lv_sipush (v := 1000) C.1 C.2.1 dX10_measuredRange_64 (by decide) ?_
  refine lv_iadd C.1 C.2.1 dX10_measuredRange_67 ?_
  refine goI (wf := (xw g)) (runS (w := xw g M6) (As := [.int (((M6.1 23 w7 8) + a1) + 1000)]) (rest := []) C lkX10_268 (c_X10_nextNumber l g C.2.2.2.2.2.2.2.2.2.2 ((((M6.1 23 w7 8) + a1) + 1000))  M6 _ hw) hP hS rfl rfl ⟨Nat.le_of_ble_eq_true rfl, Nat.le_of_ble_eq_true rfl⟩ hl.1 rfl (Nat.le_of_ble_eq_true rfl) dX10_measuredRange_68) hS (fun r8 M8 hw H locs hP hS => ?_)
  refine lv_iload_n C.1 C.2.1 dX10_measuredRange_71 rfl (lv_at hl 4 rfl) ?_
  refine goI (wf := (xw g)) (runS (w := xw g M8) (As := [.int r8, .int a2]) (rest := []) C lkX10_407 (c_X10_noiseOf l g C.2.2.2.2.2.2.2.2.2.2 r8 a2  M8 _ hw) hP hS rfl rfl ⟨Nat.le_of_ble_eq_true rfl, Nat.le_of_ble_eq_true rfl⟩ hl.1 rfl (Nat.le_of_ble_eq_true rfl) dX10_measuredRange_72) hS (fun r9 M9 hw H locs hP hS => ?_)
  refine lv_istore (lv' := [(5, .int r9), (4, .int r6), (3, .ref (g.2.1 (27 + (5 * w1 + (a1 : Int32).toNatClampNeg)))), (0, .ref (g.2.1 (0 + 0))), (1, .int a1), (2, .int a2)]) C.1 C.2.1 dX10_measuredRange_75 hl (by decide) rfl (fun ls hl => ?_)
  refine lv_iconst (v := 0) C.1 C.2.1 dX10_measuredRange_77 (by decide) ?_
  refine lv_sipush (v := 400) C.1 C.2.1 dX10_measuredRange_78 (by decide) ?_
  refine lv_iload C.1 C.2.1 dX10_measuredRange_81 (lv_at hl 1 rfl) ?_
  refine lv_iconst (v := 4) C.1 C.2.1 dX10_measuredRange_83 (by decide) ?_
  refine lv_aload_n C.1 C.2.1 dX10_measuredRange_84 rfl (lv_at hl 3 rfl) ?_
  obtain ⟨w10, h10, hb10, hw⟩ := hw
  refine gX10_23f C hP Nat.zero_lt_one h10 dX10_measuredRange_85 ?_
  refine gX10_410 C hP hb10 dX10_measuredRange_88 ?_
  refine lv_imul C.1 C.2.1 dX10_measuredRange_91 ?_
  refine lv_iadd C.1 C.2.1 dX10_measuredRange_92 ?_
  refine lv_iload C.1 C.2.1 dX10_measuredRange_93 (lv_at hl 0 rfl) ?_
  refine lv_iadd C.1 C.2.1 dX10_measuredRange_95 ?_
  refine va_mmin C.1 C.2.1 (C.2.2.1.trans hl.1.symm) C.2.2.2.2.1 (C.2.2.2.2.2.1 _ (bg_of 905 (by decide +kernel) rfl)) (C.2.2.2.2.2.1 _ (bg_of 638 (by decide +kernel) rfl)) (C.2.2.2.2.2.1 _ (bg_of 108 (by decide +kernel) rfl)) (C.2.2.2.2.2.1 _ (bg_of 639 (by decide +kernel) rfl)) (Nat.le_of_ble_eq_true rfl) (Nat.le_of_ble_eq_true rfl) (Nat.zero_le _) (Nat.zero_le _) dX10_measuredRange_96 ?_
  refine va_mmax C.1 C.2.1 (C.2.2.1.trans hl.1.symm) C.2.2.2.2.1 (C.2.2.2.2.2.1 _ (bg_of 790 (by decide +kernel) rfl)) (C.2.2.2.2.2.1 _ (bg_of 791 (by decide +kernel) rfl)) (C.2.2.2.2.2.1 _ (bg_of 108 (by decide +kernel) rfl)) (C.2.2.2.2.2.1 _ (bg_of 792 (by decide +kernel) rfl)) (Nat.le_of_ble_eq_true rfl) (Nat.le_of_ble_eq_true rfl) (Nat.zero_le _) (Nat.zero_le _) dX10_measuredRange_99 ?_
  exact retI (wf := (xw g)) C hP hS hw dX10_measuredRange_102
def b_X10_measure_84 (Q : Int32 → Mem → Prop) (k40 : Int32 → Int32 → Int32 → Mem → Prop) (v1 : Int32) (v2 : Int32) (v3 : Int32) (M : Mem) : Prop := (∀ x11 : Int32, x11 = (v3 + 1) → (k40 v1 v2 x11 M))
set_option maxRecDepth 100000 in
set_option maxHeartbeats 4000000 in
theorem k_X10_measure_84 {p : Program} {l : Launch} {e : Env} {s : State} {m : MethodId} {args : Array Value} {below : List Frame} {meth : Method} {c : Code} {g : Geo} (C : CX g p s m args meth c cX10_measure 4 (some .int) RX10) {Q : Int32 → Mem → Prop} {k40 : Int32 → Int32 → Int32 → Mem → Prop} (hk40 : ∀ (v1 : Int32) (v2 : Int32) (v3 : Int32) (M : Mem), k40 v1 v2 v3 M → ∀ (H : Heap) (locs : List Loc) (ls : Array Slot), lv_has ls 4 [(0, .ref (g.2.1 (0 + 0))), (1, .int v1), (2, .int v2), (3, .int v3)] → va_P g.1 clz (xw g M) H → va_S (Af 0 g) s.heap H locs → W p l e ({ frames := 3, cells := 0, slots := 0, locals := 64 } : Room) s m args below meth c H locs 0 0 (MQ below (va_Qi Q (PB g (xw g)) (Af 0 g)) args s 0 0 (Af 0 g)) (F0 m 40 ls [])) (v1 : Int32) (v2 : Int32) (v3 : Int32) (M : Mem) (hw : b_X10_measure_84 Q k40 v1 v2 v3 M) {H : Heap} {locs : List Loc} {ls : Array Slot} (hl : lv_has ls 4 [(0, .ref (g.2.1 (0 + 0))), (1, .int v1), (2, .int v2), (3, .int v3)]) (hP : va_P g.1 clz (xw g M) H) (hS : va_S (Af 0 g) s.heap H locs) : W p l e ({ frames := 3, cells := 0, slots := 0, locals := 64 } : Room) s m args below meth c H locs 0 0 (MQ below (va_Qi Q (PB g (xw g)) (Af 0 g)) args s 0 0 (Af 0 g)) (F0 m 84 ls []) := by
  unfold b_X10_measure_84 at hw
  obtain ⟨x11, e11⟩ : ∃ y : Int32, y = (v3 + 1) := ⟨_, rfl⟩
  have hw := hw x11 e11
  refine lv_iinc (v := x11) (lv' := [(3, .int x11), (0, .ref (g.2.1 (0 + 0))), (1, .int v1), (2, .int v2)]) C.1 C.2.1 dX10_measure_84 hl (k := 3) rfl (by rw [e11]; rfl) (by decide) rfl (fun ls hl => ?_)
  refine lv_goto (tgt := 40) C.1 C.2.1 dX10_measure_87 (by decide) ?_
  exact hk40 v1 v2 x11  _ hw _ _ _ (lv_sub hl [1, 2, 3, 0] rfl) hP hS
def b_X10_measure_40 (Q : Int32 → Mem → Prop) : Nat → Int32 → Int32 → Int32 → Mem → Prop
  | 0, _, _, _, _ => False
  | n + 1, v1, v2, v3, M => (∃ w6 : Nat, M.2.2 0 0 3 = some (23 + w6) ∧ w6 < 2 ∧ (((M.1 23 w6 1) ≤ v3 → (Q v2 M)) ∧ (¬ (M.1 23 w6 1) ≤ v3 → (∃ w8 : Nat, M.2.2 0 0 3 = some (23 + w8) ∧ w8 < 2 ∧ (vp_in v3 5 ∧ (((M.1 25 (5 * w8 + (v3 : Int32).toNatClampNeg) 9) = 0 → (b_X10_measure_84 Q (fun v1 v2 v3 M => b_X10_measure_40 Q n v1 v2 v3 M) v1 v2 v3 M)) ∧ (¬ (M.1 25 (5 * w8 + (v3 : Int32).toNatClampNeg) 9) = 0 → (p_X10_measuredRange v3 v1 M (fun r12 M12 => (vp_in v3 5 ∧ (∀ M13 : Mem, M13 = sI M12 29 0 (v3 : Int32).toNatClampNeg r12 → (∀ x14 : Int32, x14 = (v2 + 1) → (b_X10_measure_84 Q (fun v1 v2 v3 M => b_X10_measure_40 Q n v1 v2 v3 M) v1 x14 v3 M13)))))))))))))
set_option maxRecDepth 100000 in
set_option maxHeartbeats 4000000 in
theorem k_X10_measure_40 {p : Program} {l : Launch} {e : Env} {s : State} {m : MethodId} {args : Array Value} {below : List Frame} {meth : Method} {c : Code} {g : Geo} (C : CX g p s m args meth c cX10_measure 4 (some .int) RX10) {Q : Int32 → Mem → Prop} : ∀ (n : Nat) (v1 : Int32) (v2 : Int32) (v3 : Int32) (M : Mem) (hw : b_X10_measure_40 Q n v1 v2 v3 M) {H : Heap} {locs : List Loc} {ls : Array Slot} (hl : lv_has ls 4 [(0, .ref (g.2.1 (0 + 0))), (1, .int v1), (2, .int v2), (3, .int v3)]) (hP : va_P g.1 clz (xw g M) H) (hS : va_S (Af 0 g) s.heap H locs), W p l e ({ frames := 3, cells := 0, slots := 0, locals := 64 } : Room) s m args below meth c H locs 0 0 (MQ below (va_Qi Q (PB g (xw g)) (Af 0 g)) args s 0 0 (Af 0 g)) (F0 m 40 ls []) := by
  intro n
  induction n with
  | zero => intro v1 v2 v3 M hw H locs ls hl hP hS; exact absurd hw (by rw [b_X10_measure_40]; exact fun h => h)
  | succ n ih =>
    intro v1 v2 v3 M hw H locs ls hl hP hS
    rw [b_X10_measure_40] at hw
    refine lv_iload_n C.1 C.2.1 dX10_measure_40 rfl (lv_at hl 3 rfl) ?_
    refine lv_aload_n C.1 C.2.1 dX10_measure_41 rfl (lv_at hl 0 rfl) ?_
    obtain ⟨w6, h6, hb6, hw⟩ := hw
    refine gX10_23f C hP Nat.zero_lt_one h6 dX10_measure_42 ?_
    refine gX10_135 C hP hb6 dX10_measure_45 ?_
    refine lv_icmp_ge (tgt := 90) C.1 C.2.1 dX10_measure_48 (by decide) (fun h7 => ?_) (fun h7 => ?_)
    · have hw := hw.1 h7
      refine lv_iload_n C.1 C.2.1 dX10_measure_90 rfl (lv_at hl 2 rfl) ?_
      exact retI (wf := (xw g)) C hP hS hw dX10_measure_91
    · have hw := hw.2 h7
      refine lv_aload_n C.1 C.2.1 dX10_measure_51 rfl (lv_at hl 0 rfl) ?_
      obtain ⟨w8, h8, hb8, hw⟩ := hw
      refine gX10_23f C hP Nat.zero_lt_one h8 dX10_measure_52 ?_
      refine gX10_127 C hP hb8 dX10_measure_55 ?_
      refine lv_iload_n C.1 C.2.1 dX10_measure_58 rfl (lv_at hl 3 rfl) ?_
      obtain ⟨h9, hw⟩ := hw
      have hb9 : (5 * w8 + (v3 : Int32).toNatClampNeg) < 10 := by have h9 := vp_lt h9; have h8 := hb8; omega
      refine al_24 C hP hb8 h9 dX10_measure_59 ?_
      refine gX10_380 C hP hb9 dX10_measure_60 ?_
      refine lv_if_eq (tgt := 84) C.1 C.2.1 dX10_measure_63 (by decide) (fun h10 => ?_) (fun h10 => ?_)
      · have hw := hw.1 h10
        exact k_X10_measure_84 (Q := Q) C (fun v1 v2 v3  M hw H locs ls hl hP hS => ih v1 v2 v3  M hw hl hP hS) v1 v2 v3  _ hw (lv_sub hl [0, 1, 2, 3] rfl) hP hS
      · have hw := hw.2 h10
        refine lv_aload_n C.1 C.2.1 dX10_measure_66 rfl (lv_at hl 0 rfl) ?_
        refine gX10_47 C hP Nat.zero_lt_one dX10_measure_67 ?_
        refine gX10_374 C hP (Nat.le_of_ble_eq_true rfl) dX10_measure_70 ?_
        refine lv_iload_n C.1 C.2.1 dX10_measure_73 rfl (lv_at hl 3 rfl) ?_
        refine lv_aload_n C.1 C.2.1 dX10_measure_74 rfl (lv_at hl 0 rfl) ?_
        refine lv_iload_n C.1 C.2.1 dX10_measure_75 rfl (lv_at hl 3 rfl) ?_
        refine lv_iload_n C.1 C.2.1 dX10_measure_76 rfl (lv_at hl 1 rfl) ?_
        refine goI (wf := (xw g)) (runV (w := xw g M) (As := [.int v3, .int v1]) (rest := [.int v3, .ref (g.2.1 (73 + 0))]) C lkX10_383 (c_X10_measuredRange l g C.2.2.2.2.2.2.2.2.2.2 v3 v1  M _ hw) hP hS rfl rfl ⟨Nat.le_of_ble_eq_true rfl, Nat.le_of_ble_eq_true rfl⟩ (xx_0 Nat.zero_lt_one) rfl rfl hl.1 rfl (Nat.le_of_ble_eq_true rfl) dX10_measure_77) hS (fun r12 M12 hw H locs hP hS => ?_)
        obtain ⟨h13, hw⟩ := hw
        refine as_29 C hP hS (Nat.le_of_ble_eq_true rfl) h13 dX10_measure_80 (fun M13 e13 H locs hP hS => ?_)
        have hw := hw M13 e13
        obtain ⟨x14, e14⟩ : ∃ y : Int32, y = (v2 + 1) := ⟨_, rfl⟩
        have hw := hw x14 e14
        refine lv_iinc (v := x14) (lv' := [(2, .int x14), (0, .ref (g.2.1 (0 + 0))), (1, .int v1), (3, .int v3)]) C.1 C.2.1 dX10_measure_81 hl (k := 2) rfl (by rw [e14]; rfl) (by decide) rfl (fun ls hl => ?_)
        exact k_X10_measure_84 (Q := Q) C (fun v1 v2 v3  M hw H locs ls hl hP hS => ih v1 v2 v3  M hw hl hP hS) v1 x14 v3  _ hw (lv_sub hl [1, 2, 0, 3] rfl) hP hS
def p_X10_measure (a1 : Int32) (M : Mem) (Q : Int32 → Mem → Prop) : Prop := ((a1 < 0 → (Q (-1) M)) ∧ (¬ a1 < 0 → ((a1 ≤ 20 → (∃ w3 : Nat, M.2.2 0 0 3 = some (23 + w3) ∧ w3 < 2 ∧ ((¬ (M.1 23 w3 10) = 0 → (p_X5_push 0 M (fun M5 => (∃ n40 : Nat, b_X10_measure_40 Q n40 a1 0 0 M5)))) ∧ ((M.1 23 w3 10) = 0 → (Q (-2) M))))) ∧ (¬ a1 ≤ 20 → (Q (-1) M)))))
set_option maxRecDepth 100000 in
set_option maxHeartbeats 4000000 in
theorem c_X10_measure (l : Launch) (g : Geo) (gi : GI g) (a1 : Int32) (M : Mem) (Q : Int32 → Mem → Prop) (hw : p_X10_measure a1 M Q) : Met l yX10_measure (Cond.code yX10_measure cX10_measure 4 (some .int) :: bg) ({ frames := 3, cells := 0, slots := 0, locals := 64 } : Room) (va_Pc [.ref (g.2.1 (0 + 0)), .int a1] (PW g (xw g M))) (va_Qi Q (PB g (xw g)) (Af 0 g)) 0 0 (Af 0 g) := by
  refine Met.ofW (cc := cX10_measure) (maxL := 4) (ret := (some .int)) (by decide +kernel) rfl ?_
  intro p e s m args below meth c s₁ B hml hv
  obtain ⟨rfl, hv⟩ := hv
  have C := CX.start (own := RX10) B hml rfl gi hv
  have hP := hv.1
  have hS : va_S (Af 0 g) s.heap s.heap [] := va_S.rf
  have hl := lv_entry ([.ref (g.2.1 (0 + 0)), .int a1]) (n := 4) (Nat.le_of_ble_eq_true rfl)
  rw [lg_entry_eq]
  generalize (lg_sl ([.ref (g.2.1 (0 + 0)), .int a1]) ++ List.replicate (4 - (lg_sl ([.ref (g.2.1 (0 + 0)), .int a1])).length) Slot.unset).toArray = ls at hl ⊢
  have hl : lv_has ls 4 [(0, .ref (g.2.1 (0 + 0))), (1, .int a1)] := hl
  unfold p_X10_measure at hw
  refine lv_iload_n C.1 C.2.1 dX10_measure_0 rfl (lv_at hl 1 rfl) ?_
  refine lv_if_lt (tgt := 10) C.1 C.2.1 dX10_measure_1 (by decide) (fun h1 => ?_) (fun h1 => ?_)
  · have hw := hw.1 h1
    refine lv_iconst (v := (-1)) C.1 C.2.1 dX10_measure_10 (by decide) ?_
    exact retI (wf := (xw g)) C hP hS hw dX10_measure_11
  · have hw := hw.2 h1
    refine lv_iload_n C.1 C.2.1 dX10_measure_4 rfl (lv_at hl 1 rfl) ?_
    refine lv_bipush (v := 20) C.1 C.2.1 dX10_measure_5 (by decide) ?_
    refine lv_icmp_le (tgt := 12) C.1 C.2.1 dX10_measure_7 (by decide) (fun h2 => ?_) (fun h2 => ?_)
    · have hw := hw.1 h2
      refine lv_aload_n C.1 C.2.1 dX10_measure_12 rfl (lv_at hl 0 rfl) ?_
      obtain ⟨w3, h3, hb3, hw⟩ := hw
      refine gX10_23f C hP Nat.zero_lt_one h3 dX10_measure_13 ?_
      refine gX10_377 C hP hb3 dX10_measure_16 ?_
      refine lv_if_ne (tgt := 25) C.1 C.2.1 dX10_measure_19 (by decide) (fun h4 => ?_) (fun h4 => ?_)
      · have hw := hw.1 h4
        refine lv_aload_n C.1 C.2.1 dX10_measure_25 rfl (lv_at hl 0 rfl) ?_
        refine gX10_60 C hP Nat.zero_lt_one dX10_measure_26 ?_
        refine lv_aload_n C.1 C.2.1 dX10_measure_29 rfl (lv_at hl 0 rfl) ?_
        refine gX10_47 C hP Nat.zero_lt_one dX10_measure_30 ?_
        refine goV (wf := (xw g)) (runV (w := xw g M) (As := [.ref (g.2.1 (47 + 0))]) (rest := []) C lkX10_277 (c_X5_push l g C.2.2.2.2.2.2.2.2.2.2 0 (Nat.le_of_ble_eq_true rfl) M _ hw) hP hS rfl rfl ⟨Nat.le_of_ble_eq_true rfl, Nat.le_of_ble_eq_true rfl⟩ (xx_21 Nat.zero_lt_one) rfl rfl hl.1 rfl (Nat.le_of_ble_eq_true rfl) dX10_measure_33) hS (fun M5 hw H locs hP hS => ?_)
        refine lv_iconst (v := 0) C.1 C.2.1 dX10_measure_36 (by decide) ?_
        refine lv_istore_n (lv' := [(2, .int 0), (0, .ref (g.2.1 (0 + 0))), (1, .int a1)]) C.1 C.2.1 dX10_measure_37 rfl hl (by decide) rfl (fun ls hl => ?_)
        refine lv_iconst (v := 0) C.1 C.2.1 dX10_measure_38 (by decide) ?_
        refine lv_istore_n (lv' := [(3, .int 0), (2, .int 0), (0, .ref (g.2.1 (0 + 0))), (1, .int a1)]) C.1 C.2.1 dX10_measure_39 rfl hl (by decide) rfl (fun ls hl => ?_)
        obtain ⟨n9, hw⟩ := hw
        exact k_X10_measure_40 (Q := Q) C n9 a1 0 0  _ hw (lv_sub hl [2, 3, 1, 0] rfl) hP hS
      · have hw := hw.2 h4
        refine lv_bipush (v := (-2)) C.1 C.2.1 dX10_measure_22 (by decide) ?_
        exact retI (wf := (xw g)) C hP hS hw dX10_measure_24
    · have hw := hw.2 h2
      refine lv_iconst (v := (-1)) C.1 C.2.1 dX10_measure_10 (by decide) ?_
      exact retI (wf := (xw g)) C hP hS hw dX10_measure_11
def p_X10_fix (a1 : Int32) (M : Mem) (Q : Int32 → Mem → Prop) : Prop := ((a1 < 0 → (Q (-1) M)) ∧ (¬ a1 < 0 → ((a1 ≤ 4 → (∃ w3 : Nat, M.2.2 0 0 3 = some (23 + w3) ∧ w3 < 2 ∧ (p_X7_gather w3 0 (-1) M (fun M4 => ((4 ≤ (M4.1 17 0 0) → (p_X7_solve 0 M4 (fun M6 => (p_X7_told a1 M6 (fun r7 M7 => (Q r7 M7)))))) ∧ (¬ 4 ≤ (M4.1 17 0 0) → (Q (-2) M4))))))) ∧ (¬ a1 ≤ 4 → (Q (-1) M)))))
set_option maxRecDepth 100000 in
set_option maxHeartbeats 4000000 in
theorem c_X10_fix (l : Launch) (g : Geo) (gi : GI g) (a1 : Int32) (M : Mem) (Q : Int32 → Mem → Prop) (hw : p_X10_fix a1 M Q) : Met l yX10_fix (Cond.code yX10_fix cX10_fix 2 (some .int) :: bg) ({ frames := 4, cells := 0, slots := 0, locals := 97 } : Room) (va_Pc [.ref (g.2.1 (0 + 0)), .int a1] (PW g (xw g M))) (va_Qi Q (PB g (xw g)) (Af 0 g)) 0 0 (Af 0 g) := by
  refine Met.ofW (cc := cX10_fix) (maxL := 2) (ret := (some .int)) (by decide +kernel) rfl ?_
  intro p e s m args below meth c s₁ B hml hv
  obtain ⟨rfl, hv⟩ := hv
  have C := CX.start (own := RX10) B hml rfl gi hv
  have hP := hv.1
  have hS : va_S (Af 0 g) s.heap s.heap [] := va_S.rf
  have hl := lv_entry ([.ref (g.2.1 (0 + 0)), .int a1]) (n := 2) (Nat.le_of_ble_eq_true rfl)
  rw [lg_entry_eq]
  generalize (lg_sl ([.ref (g.2.1 (0 + 0)), .int a1]) ++ List.replicate (2 - (lg_sl ([.ref (g.2.1 (0 + 0)), .int a1])).length) Slot.unset).toArray = ls at hl ⊢
  have hl : lv_has ls 2 [(0, .ref (g.2.1 (0 + 0))), (1, .int a1)] := hl
  unfold p_X10_fix at hw
  refine lv_iload_n C.1 C.2.1 dX10_fix_0 rfl (lv_at hl 1 rfl) ?_
  refine lv_if_lt (tgt := 9) C.1 C.2.1 dX10_fix_1 (by decide) (fun h1 => ?_) (fun h1 => ?_)
  · have hw := hw.1 h1
    refine lv_iconst (v := (-1)) C.1 C.2.1 dX10_fix_9 (by decide) ?_
    exact retI (wf := (xw g)) C hP hS hw dX10_fix_10
  · have hw := hw.2 h1
    refine lv_iload_n C.1 C.2.1 dX10_fix_4 rfl (lv_at hl 1 rfl) ?_
    refine lv_iconst (v := 4) C.1 C.2.1 dX10_fix_5 (by decide) ?_
    refine lv_icmp_le (tgt := 11) C.1 C.2.1 dX10_fix_6 (by decide) (fun h2 => ?_) (fun h2 => ?_)
    · have hw := hw.1 h2
      refine lv_aload_n C.1 C.2.1 dX10_fix_11 rfl (lv_at hl 0 rfl) ?_
      refine gX10_74 C hP Nat.zero_lt_one dX10_fix_12 ?_
      refine lv_aload_n C.1 C.2.1 dX10_fix_15 rfl (lv_at hl 0 rfl) ?_
      obtain ⟨w3, h3, hb3, hw⟩ := hw
      refine gX10_23f C hP Nat.zero_lt_one h3 dX10_fix_16 ?_
      refine lv_aload_n C.1 C.2.1 dX10_fix_19 rfl (lv_at hl 0 rfl) ?_
      refine gX10_47 C hP Nat.zero_lt_one dX10_fix_20 ?_
      refine lv_iconst (v := (-1)) C.1 C.2.1 dX10_fix_23 (by decide) ?_
      refine goV (wf := (xw g)) (runV (w := xw g M) (As := [.ref (g.2.1 (23 + w3)), .ref (g.2.1 (47 + 0)), .int (-1)]) (rest := []) C lkX10_413 (c_X7_gather l g C.2.2.2.2.2.2.2.2.2.2 w3 0 (-1) hb3 (Nat.le_of_ble_eq_true rfl) M _ hw) hP hS rfl rfl ⟨Nat.le_of_ble_eq_true rfl, Nat.le_of_ble_eq_true rfl⟩ (xx_17 Nat.zero_lt_one) rfl rfl hl.1 rfl (Nat.le_of_ble_eq_true rfl) dX10_fix_24) hS (fun M4 hw H locs hP hS => ?_)
      refine lv_aload_n C.1 C.2.1 dX10_fix_27 rfl (lv_at hl 0 rfl) ?_
      refine gX10_74 C hP Nat.zero_lt_one dX10_fix_28 ?_
      refine gX10_417 C hP Nat.zero_lt_one dX10_fix_31 ?_
      refine lv_iconst (v := 4) C.1 C.2.1 dX10_fix_34 (by decide) ?_
      refine lv_icmp_ge (tgt := 41) C.1 C.2.1 dX10_fix_35 (by decide) (fun h5 => ?_) (fun h5 => ?_)
      · have hw := hw.1 h5
        refine lv_aload_n C.1 C.2.1 dX10_fix_41 rfl (lv_at hl 0 rfl) ?_
        refine gX10_74 C hP Nat.zero_lt_one dX10_fix_42 ?_
        refine lv_iconst (v := 0) C.1 C.2.1 dX10_fix_45 (by decide) ?_
        refine goV (wf := (xw g)) (runV (w := xw g M4) (As := [.int 0]) (rest := []) C lkX10_420 (c_X7_solve l g C.2.2.2.2.2.2.2.2.2.2 0  M4 _ hw) hP hS rfl rfl ⟨Nat.le_of_ble_eq_true rfl, Nat.le_of_ble_eq_true rfl⟩ (xx_17 Nat.zero_lt_one) rfl rfl hl.1 rfl (Nat.le_of_ble_eq_true rfl) dX10_fix_46) hS (fun M6 hw H locs hP hS => ?_)
        refine lv_aload_n C.1 C.2.1 dX10_fix_49 rfl (lv_at hl 0 rfl) ?_
        refine gX10_74 C hP Nat.zero_lt_one dX10_fix_50 ?_
        refine lv_iload_n C.1 C.2.1 dX10_fix_53 rfl (lv_at hl 1 rfl) ?_
        refine goI (wf := (xw g)) (runV (w := xw g M6) (As := [.int a1]) (rest := []) C lkX10_423 (c_X7_told l g C.2.2.2.2.2.2.2.2.2.2 a1  M6 _ hw) hP hS rfl rfl ⟨Nat.le_of_ble_eq_true rfl, Nat.le_of_ble_eq_true rfl⟩ (xx_17 Nat.zero_lt_one) rfl rfl hl.1 rfl (Nat.le_of_ble_eq_true rfl) dX10_fix_54) hS (fun r7 M7 hw H locs hP hS => ?_)
        exact retI (wf := (xw g)) C hP hS hw dX10_fix_57
      · have hw := hw.2 h5
        refine lv_bipush (v := (-2)) C.1 C.2.1 dX10_fix_38 (by decide) ?_
        exact retI (wf := (xw g)) C hP hS hw dX10_fix_40
    · have hw := hw.2 h2
      refine lv_iconst (v := (-1)) C.1 C.2.1 dX10_fix_9 (by decide) ?_
      exact retI (wf := (xw g)) C hP hS hw dX10_fix_10
def p_X10_hasBoth (a1 : Int32) (M : Mem) (Q : Int32 → Mem → Prop) : Prop := (∃ w1 : Nat, M.2.2 0 0 3 = some (23 + w1) ∧ w1 < 2 ∧ (vp_in a1 5 ∧ (((M.1 25 (5 * w1 + (a1 : Int32).toNatClampNeg) 9) = 0 → (Q 0 M)) ∧ (¬ (M.1 25 (5 * w1 + (a1 : Int32).toNatClampNeg) 9) = 0 → (vp_in a1 5 ∧ (((M.1 29 0 (a1 : Int32).toNatClampNeg) = (-1) → (Q 0 M)) ∧ (¬ (M.1 29 0 (a1 : Int32).toNatClampNeg) = (-1) → (Q 1 M))))))))
set_option maxRecDepth 100000 in
set_option maxHeartbeats 4000000 in
theorem c_X10_hasBoth (l : Launch) (g : Geo) (gi : GI g) (a1 : Int32) (M : Mem) (Q : Int32 → Mem → Prop) (hw : p_X10_hasBoth a1 M Q) : Met l yX10_hasBoth (Cond.code yX10_hasBoth cX10_hasBoth 2 (some .boolean) :: bg) ({ frames := 0, cells := 0, slots := 0, locals := 0 } : Room) (va_Pc [.ref (g.2.1 (0 + 0)), .int a1] (PW g (xw g M))) (va_Qi (fun r M => Q r M ∧ narrow .boolean (.int r) = .int r) (PB g (xw g)) (Af 0 g)) 0 0 (Af 0 g) := by
  refine Met.ofW (cc := cX10_hasBoth) (maxL := 2) (ret := (some .boolean)) (by decide +kernel) rfl ?_
  intro p e s m args below meth c s₁ B hml hv
  obtain ⟨rfl, hv⟩ := hv
  have C := CX.start (own := RX10) B hml rfl gi hv
  have hP := hv.1
  have hS : va_S (Af 0 g) s.heap s.heap [] := va_S.rf
  have hl := lv_entry ([.ref (g.2.1 (0 + 0)), .int a1]) (n := 2) (Nat.le_of_ble_eq_true rfl)
  rw [lg_entry_eq]
  generalize (lg_sl ([.ref (g.2.1 (0 + 0)), .int a1]) ++ List.replicate (2 - (lg_sl ([.ref (g.2.1 (0 + 0)), .int a1])).length) Slot.unset).toArray = ls at hl ⊢
  have hl : lv_has ls 2 [(0, .ref (g.2.1 (0 + 0))), (1, .int a1)] := hl
  unfold p_X10_hasBoth at hw
  refine lv_aload_n C.1 C.2.1 dX10_hasBoth_0 rfl (lv_at hl 0 rfl) ?_
  obtain ⟨w1, h1, hb1, hw⟩ := hw
  refine gX10_23f C hP Nat.zero_lt_one h1 dX10_hasBoth_1 ?_
  refine gX10_127 C hP hb1 dX10_hasBoth_4 ?_
  refine lv_iload_n C.1 C.2.1 dX10_hasBoth_7 rfl (lv_at hl 1 rfl) ?_
  obtain ⟨h2, hw⟩ := hw
  have hb2 : (5 * w1 + (a1 : Int32).toNatClampNeg) < 10 := by have h9 := vp_lt h2; have h8 := hb1; omega
  refine al_24 C hP hb1 h2 dX10_hasBoth_8 ?_
  refine gX10_380 C hP hb2 dX10_hasBoth_9 ?_
  refine lv_if_eq (tgt := 32) C.1 C.2.1 dX10_hasBoth_12 (by decide) (fun h3 => ?_) (fun h3 => ?_)
  · have hw := hw.1 h3
    refine lv_iconst (v := 0) C.1 C.2.1 dX10_hasBoth_32 (by decide) ?_
    exact retZ (wf := (xw g)) C hP hS rfl hw dX10_hasBoth_33
  · have hw := hw.2 h3
    refine lv_aload_n C.1 C.2.1 dX10_hasBoth_15 rfl (lv_at hl 0 rfl) ?_
    refine gX10_47 C hP Nat.zero_lt_one dX10_hasBoth_16 ?_
    refine gX10_374 C hP (Nat.le_of_ble_eq_true rfl) dX10_hasBoth_19 ?_
    refine lv_iload_n C.1 C.2.1 dX10_hasBoth_22 rfl (lv_at hl 1 rfl) ?_
    obtain ⟨h4, hw⟩ := hw
    refine al_29 C hP (Nat.le_of_ble_eq_true rfl) h4 dX10_hasBoth_23 ?_
    refine lv_iconst (v := (-1)) C.1 C.2.1 dX10_hasBoth_24 (by decide) ?_
    refine lv_icmp_eq (tgt := 32) C.1 C.2.1 dX10_hasBoth_25 (by decide) (fun h5 => ?_) (fun h5 => ?_)
    · have hw := hw.1 h5
      refine lv_iconst (v := 0) C.1 C.2.1 dX10_hasBoth_32 (by decide) ?_
      exact retZ (wf := (xw g)) C hP hS rfl hw dX10_hasBoth_33
    · have hw := hw.2 h5
      refine lv_iconst (v := 1) C.1 C.2.1 dX10_hasBoth_28 (by decide) ?_
      refine lv_goto (tgt := 33) C.1 C.2.1 dX10_hasBoth_29 (by decide) ?_
      exact retZ (wf := (xw g)) C hP hS rfl hw dX10_hasBoth_33
def p_X10_fixWithout (a1 : Int32) (a2 : Int32) (M : Mem) (Q : Int32 → Mem → Prop) : Prop := (p_X10_isBird a1 M (fun r1 M1 => ((r1 = 0 → (Q (-1) M1)) ∧ (¬ r1 = 0 → ((a2 < 0 → (Q (-1) M1)) ∧ (¬ a2 < 0 → ((a2 ≤ 4 → (∃ w5 : Nat, M1.2.2 0 0 3 = some (23 + w5) ∧ w5 < 2 ∧ (p_X7_gather w5 0 a1 M1 (fun M6 => (p_X10_hasBoth a1 M6 (fun r7 M7 => ((r7 = 0 → (Q (-2) M7)) ∧ (¬ r7 = 0 → ((4 ≤ (M7.1 17 0 0) → (p_X7_solve 0 M7 (fun M10 => (p_X7_told a2 M10 (fun r11 M11 => (Q r11 M11)))))) ∧ (¬ 4 ≤ (M7.1 17 0 0) → (Q (-2) M7))))))))))) ∧ (¬ a2 ≤ 4 → (Q (-1) M1)))))))))
set_option maxRecDepth 100000 in
set_option maxHeartbeats 4000000 in
theorem c_X10_fixWithout (l : Launch) (g : Geo) (gi : GI g) (a1 : Int32) (a2 : Int32) (M : Mem) (Q : Int32 → Mem → Prop) (hw : p_X10_fixWithout a1 a2 M Q) : Met l yX10_fixWithout (Cond.code yX10_fixWithout cX10_fixWithout 3 (some .int) :: bg) ({ frames := 4, cells := 0, slots := 0, locals := 97 } : Room) (va_Pc [.ref (g.2.1 (0 + 0)), .int a1, .int a2] (PW g (xw g M))) (va_Qi Q (PB g (xw g)) (Af 0 g)) 0 0 (Af 0 g) := by
  refine Met.ofW (cc := cX10_fixWithout) (maxL := 3) (ret := (some .int)) (by decide +kernel) rfl ?_
  intro p e s m args below meth c s₁ B hml hv
  obtain ⟨rfl, hv⟩ := hv
  have C := CX.start (own := RX10) B hml rfl gi hv
  have hP := hv.1
  have hS : va_S (Af 0 g) s.heap s.heap [] := va_S.rf
  have hl := lv_entry ([.ref (g.2.1 (0 + 0)), .int a1, .int a2]) (n := 3) (Nat.le_of_ble_eq_true rfl)
  rw [lg_entry_eq]
  generalize (lg_sl ([.ref (g.2.1 (0 + 0)), .int a1, .int a2]) ++ List.replicate (3 - (lg_sl ([.ref (g.2.1 (0 + 0)), .int a1, .int a2])).length) Slot.unset).toArray = ls at hl ⊢
  have hl : lv_has ls 3 [(0, .ref (g.2.1 (0 + 0))), (1, .int a1), (2, .int a2)] := hl
  unfold p_X10_fixWithout at hw
  refine lv_aload_n C.1 C.2.1 dX10_fixWithout_0 rfl (lv_at hl 0 rfl) ?_
  refine lv_iload_n C.1 C.2.1 dX10_fixWithout_1 rfl (lv_at hl 1 rfl) ?_
  refine goI (wf := (xw g)) (runV (w := xw g M) (As := [.int a1]) (rest := []) C lkX10_111 (c_X10_isBird l g C.2.2.2.2.2.2.2.2.2.2 a1  M _ hw) hP hS rfl rfl ⟨Nat.le_of_ble_eq_true rfl, Nat.le_of_ble_eq_true rfl⟩ (xx_0 Nat.zero_lt_one) rfl rfl hl.1 rfl (Nat.le_of_ble_eq_true rfl) dX10_fixWithout_2) hS (fun r1 M1 hw H locs hP hS => ?_)
  obtain ⟨hw, hz1⟩ := hw
  refine lv_if_eq (tgt := 17) C.1 C.2.1 dX10_fixWithout_5 (by decide) (fun h2 => ?_) (fun h2 => ?_)
  · have hw := hw.1 h2
    refine lv_iconst (v := (-1)) C.1 C.2.1 dX10_fixWithout_17 (by decide) ?_
    exact retI (wf := (xw g)) C hP hS hw dX10_fixWithout_18
  · have hw := hw.2 h2
    refine lv_iload_n C.1 C.2.1 dX10_fixWithout_8 rfl (lv_at hl 2 rfl) ?_
    refine lv_if_lt (tgt := 17) C.1 C.2.1 dX10_fixWithout_9 (by decide) (fun h3 => ?_) (fun h3 => ?_)
    · have hw := hw.1 h3
      refine lv_iconst (v := (-1)) C.1 C.2.1 dX10_fixWithout_17 (by decide) ?_
      exact retI (wf := (xw g)) C hP hS hw dX10_fixWithout_18
    · have hw := hw.2 h3
      refine lv_iload_n C.1 C.2.1 dX10_fixWithout_12 rfl (lv_at hl 2 rfl) ?_
      refine lv_iconst (v := 4) C.1 C.2.1 dX10_fixWithout_13 (by decide) ?_
      refine lv_icmp_le (tgt := 19) C.1 C.2.1 dX10_fixWithout_14 (by decide) (fun h4 => ?_) (fun h4 => ?_)
      · have hw := hw.1 h4
        refine lv_aload_n C.1 C.2.1 dX10_fixWithout_19 rfl (lv_at hl 0 rfl) ?_
        refine gX10_74 C hP Nat.zero_lt_one dX10_fixWithout_20 ?_
        refine lv_aload_n C.1 C.2.1 dX10_fixWithout_23 rfl (lv_at hl 0 rfl) ?_
        obtain ⟨w5, h5, hb5, hw⟩ := hw
        refine gX10_23f C hP Nat.zero_lt_one h5 dX10_fixWithout_24 ?_
        refine lv_aload_n C.1 C.2.1 dX10_fixWithout_27 rfl (lv_at hl 0 rfl) ?_
        refine gX10_47 C hP Nat.zero_lt_one dX10_fixWithout_28 ?_
        refine lv_iload_n C.1 C.2.1 dX10_fixWithout_31 rfl (lv_at hl 1 rfl) ?_
        refine goV (wf := (xw g)) (runV (w := xw g M1) (As := [.ref (g.2.1 (23 + w5)), .ref (g.2.1 (47 + 0)), .int a1]) (rest := []) C lkX10_413 (c_X7_gather l g C.2.2.2.2.2.2.2.2.2.2 w5 0 a1 hb5 (Nat.le_of_ble_eq_true rfl) M1 _ hw) hP hS rfl rfl ⟨Nat.le_of_ble_eq_true rfl, Nat.le_of_ble_eq_true rfl⟩ (xx_17 Nat.zero_lt_one) rfl rfl hl.1 rfl (Nat.le_of_ble_eq_true rfl) dX10_fixWithout_32) hS (fun M6 hw H locs hP hS => ?_)
        refine lv_aload_n C.1 C.2.1 dX10_fixWithout_35 rfl (lv_at hl 0 rfl) ?_
        refine lv_iload_n C.1 C.2.1 dX10_fixWithout_36 rfl (lv_at hl 1 rfl) ?_
        refine goI (wf := (xw g)) (runV (w := xw g M6) (As := [.int a1]) (rest := []) C lkX10_424 (c_X10_hasBoth l g C.2.2.2.2.2.2.2.2.2.2 a1  M6 _ hw) hP hS rfl rfl ⟨Nat.le_of_ble_eq_true rfl, Nat.le_of_ble_eq_true rfl⟩ (xx_0 Nat.zero_lt_one) rfl rfl hl.1 rfl (Nat.le_of_ble_eq_true rfl) dX10_fixWithout_37) hS (fun r7 M7 hw H locs hP hS => ?_)
        obtain ⟨hw, hz7⟩ := hw
        refine lv_if_eq (tgt := 54) C.1 C.2.1 dX10_fixWithout_40 (by decide) (fun h8 => ?_) (fun h8 => ?_)
        · have hw := hw.1 h8
          refine lv_bipush (v := (-2)) C.1 C.2.1 dX10_fixWithout_54 (by decide) ?_
          exact retI (wf := (xw g)) C hP hS hw dX10_fixWithout_56
        · have hw := hw.2 h8
          refine lv_aload_n C.1 C.2.1 dX10_fixWithout_43 rfl (lv_at hl 0 rfl) ?_
          refine gX10_74 C hP Nat.zero_lt_one dX10_fixWithout_44 ?_
          refine gX10_417 C hP Nat.zero_lt_one dX10_fixWithout_47 ?_
          refine lv_iconst (v := 4) C.1 C.2.1 dX10_fixWithout_50 (by decide) ?_
          refine lv_icmp_ge (tgt := 57) C.1 C.2.1 dX10_fixWithout_51 (by decide) (fun h9 => ?_) (fun h9 => ?_)
          · have hw := hw.1 h9
            refine lv_aload_n C.1 C.2.1 dX10_fixWithout_57 rfl (lv_at hl 0 rfl) ?_
            refine gX10_74 C hP Nat.zero_lt_one dX10_fixWithout_58 ?_
            refine lv_iconst (v := 0) C.1 C.2.1 dX10_fixWithout_61 (by decide) ?_
            refine goV (wf := (xw g)) (runV (w := xw g M7) (As := [.int 0]) (rest := []) C lkX10_420 (c_X7_solve l g C.2.2.2.2.2.2.2.2.2.2 0  M7 _ hw) hP hS rfl rfl ⟨Nat.le_of_ble_eq_true rfl, Nat.le_of_ble_eq_true rfl⟩ (xx_17 Nat.zero_lt_one) rfl rfl hl.1 rfl (Nat.le_of_ble_eq_true rfl) dX10_fixWithout_62) hS (fun M10 hw H locs hP hS => ?_)
            refine lv_aload_n C.1 C.2.1 dX10_fixWithout_65 rfl (lv_at hl 0 rfl) ?_
            refine gX10_74 C hP Nat.zero_lt_one dX10_fixWithout_66 ?_
            refine lv_iload_n C.1 C.2.1 dX10_fixWithout_69 rfl (lv_at hl 2 rfl) ?_
            refine goI (wf := (xw g)) (runV (w := xw g M10) (As := [.int a2]) (rest := []) C lkX10_423 (c_X7_told l g C.2.2.2.2.2.2.2.2.2.2 a2  M10 _ hw) hP hS rfl rfl ⟨Nat.le_of_ble_eq_true rfl, Nat.le_of_ble_eq_true rfl⟩ (xx_17 Nat.zero_lt_one) rfl rfl hl.1 rfl (Nat.le_of_ble_eq_true rfl) dX10_fixWithout_70) hS (fun r11 M11 hw H locs hP hS => ?_)
            exact retI (wf := (xw g)) C hP hS hw dX10_fixWithout_73
          · have hw := hw.2 h9
            refine lv_bipush (v := (-2)) C.1 C.2.1 dX10_fixWithout_54 (by decide) ?_
            exact retI (wf := (xw g)) C hP hS hw dX10_fixWithout_56
      · have hw := hw.2 h4
        refine lv_iconst (v := (-1)) C.1 C.2.1 dX10_fixWithout_17 (by decide) ?_
        exact retI (wf := (xw g)) C hP hS hw dX10_fixWithout_18
def b_X10_suspect_105 (Q : Int32 → Mem → Prop) (k36 : Int32 → Int32 → Int32 → Mem → Prop) (v1 : Int32) (v2 : Int32) (v3 : Int32) (M : Mem) : Prop := (∀ x8 : Int32, x8 = (v3 + 1) → (k36 v1 v2 x8 M))
set_option maxRecDepth 100000 in
set_option maxHeartbeats 4000000 in
theorem k_X10_suspect_105 {p : Program} {l : Launch} {e : Env} {s : State} {m : MethodId} {args : Array Value} {below : List Frame} {meth : Method} {c : Code} {g : Geo} (C : CX g p s m args meth c cX10_suspect 4 (some .int) RX10) {Q : Int32 → Mem → Prop} {k36 : Int32 → Int32 → Int32 → Mem → Prop} (hk36 : ∀ (v1 : Int32) (v2 : Int32) (v3 : Int32) (M : Mem), k36 v1 v2 v3 M → ∀ (H : Heap) (locs : List Loc) (ls : Array Slot), lv_has ls 4 [(0, .ref (g.2.1 (0 + 0))), (1, .int v1), (2, .int v2), (3, .int v3)] → va_P g.1 clz (xw g M) H → va_S (Af 0 g) s.heap H locs → W p l e ({ frames := 4, cells := 0, slots := 0, locals := 97 } : Room) s m args below meth c H locs 0 0 (MQ below (va_Qi Q (PB g (xw g)) (Af 0 g)) args s 0 0 (Af 0 g)) (F0 m 36 ls [])) (v1 : Int32) (v2 : Int32) (v3 : Int32) (M : Mem) (hw : b_X10_suspect_105 Q k36 v1 v2 v3 M) {H : Heap} {locs : List Loc} {ls : Array Slot} (hl : lv_has ls 4 [(0, .ref (g.2.1 (0 + 0))), (1, .int v1), (2, .int v2), (3, .int v3)]) (hP : va_P g.1 clz (xw g M) H) (hS : va_S (Af 0 g) s.heap H locs) : W p l e ({ frames := 4, cells := 0, slots := 0, locals := 97 } : Room) s m args below meth c H locs 0 0 (MQ below (va_Qi Q (PB g (xw g)) (Af 0 g)) args s 0 0 (Af 0 g)) (F0 m 105 ls []) := by
  unfold b_X10_suspect_105 at hw
  obtain ⟨x8, e8⟩ : ∃ y : Int32, y = (v3 + 1) := ⟨_, rfl⟩
  have hw := hw x8 e8
  refine lv_iinc (v := x8) (lv' := [(3, .int x8), (0, .ref (g.2.1 (0 + 0))), (1, .int v1), (2, .int v2)]) C.1 C.2.1 dX10_suspect_105 hl (k := 3) rfl (by rw [e8]; rfl) (by decide) rfl (fun ls hl => ?_)
  refine lv_goto (tgt := 36) C.1 C.2.1 dX10_suspect_108 (by decide) ?_
  exact hk36 v1 v2 x8  _ hw _ _ _ (lv_sub hl [1, 2, 3, 0] rfl) hP hS
def b_X10_suspect_95 (Q : Int32 → Mem → Prop) (k105 : Int32 → Int32 → Int32 → Mem → Prop) (v3 : Int32) (M : Mem) : Prop := (∀ x13 : Int32, x13 = (M.1 17 0 1) → (k105 v3 x13 v3 M))
set_option maxRecDepth 100000 in
set_option maxHeartbeats 4000000 in
theorem k_X10_suspect_95 {p : Program} {l : Launch} {e : Env} {s : State} {m : MethodId} {args : Array Value} {below : List Frame} {meth : Method} {c : Code} {g : Geo} (C : CX g p s m args meth c cX10_suspect 4 (some .int) RX10) {Q : Int32 → Mem → Prop} {k105 : Int32 → Int32 → Int32 → Mem → Prop} (hk105 : ∀ (v1 : Int32) (v2 : Int32) (v3 : Int32) (M : Mem), k105 v1 v2 v3 M → ∀ (H : Heap) (locs : List Loc) (ls : Array Slot), lv_has ls 4 [(0, .ref (g.2.1 (0 + 0))), (1, .int v1), (2, .int v2), (3, .int v3)] → va_P g.1 clz (xw g M) H → va_S (Af 0 g) s.heap H locs → W p l e ({ frames := 4, cells := 0, slots := 0, locals := 97 } : Room) s m args below meth c H locs 0 0 (MQ below (va_Qi Q (PB g (xw g)) (Af 0 g)) args s 0 0 (Af 0 g)) (F0 m 105 ls [])) (v3 : Int32) (M : Mem) (hw : b_X10_suspect_95 Q k105 v3 M) {H : Heap} {locs : List Loc} {ls : Array Slot} (hl : lv_has ls 4 [(0, .ref (g.2.1 (0 + 0))), (3, .int v3)]) (hP : va_P g.1 clz (xw g M) H) (hS : va_S (Af 0 g) s.heap H locs) : W p l e ({ frames := 4, cells := 0, slots := 0, locals := 97 } : Room) s m args below meth c H locs 0 0 (MQ below (va_Qi Q (PB g (xw g)) (Af 0 g)) args s 0 0 (Af 0 g)) (F0 m 95 ls []) := by
  unfold b_X10_suspect_95 at hw
  refine lv_iload_n C.1 C.2.1 dX10_suspect_95 rfl (lv_at hl 1 rfl) ?_
  refine lv_istore_n (lv' := [(1, .int v3), (0, .ref (g.2.1 (0 + 0))), (3, .int v3)]) C.1 C.2.1 dX10_suspect_96 rfl hl (by decide) rfl (fun ls hl => ?_)
  refine lv_aload_n C.1 C.2.1 dX10_suspect_97 rfl (lv_at hl 1 rfl) ?_
  refine gX10_74 C hP Nat.zero_lt_one dX10_suspect_98 ?_
  refine gX10_427 C hP Nat.zero_lt_one dX10_suspect_101 ?_
  refine lv_topi (fun x13 e13 => ?_)
  have hw := hw x13 e13
  refine lv_istore_n (lv' := [(2, .int x13), (1, .int v3), (0, .ref (g.2.1 (0 + 0))), (3, .int v3)]) C.1 C.2.1 dX10_suspect_104 rfl hl (by decide) rfl (fun ls hl => ?_)
  exact hk105 v3 x13 v3  _ hw _ _ _ (lv_sub hl [2, 1, 0, 3] rfl) hP hS
def b_X10_suspect_36 (Q : Int32 → Mem → Prop) : Nat → Int32 → Int32 → Int32 → Mem → Prop
  | 0, _, _, _, _ => False
  | n + 1, v1, v2, v3, M => (∃ w4 : Nat, M.2.2 0 0 3 = some (23 + w4) ∧ w4 < 2 ∧ (((M.1 23 w4 1) ≤ v3 → (Q v1 M)) ∧ (¬ (M.1 23 w4 1) ≤ v3 → (p_X10_hasBoth v3 M (fun r6 M6 => ((r6 = 0 → (b_X10_suspect_105 Q (fun v1 v2 v3 M => b_X10_suspect_36 Q n v1 v2 v3 M) v1 v2 v3 M6)) ∧ (¬ r6 = 0 → (∃ w9 : Nat, M6.2.2 0 0 3 = some (23 + w9) ∧ w9 < 2 ∧ (p_X7_gather w9 0 v3 M6 (fun M10 => (p_X7_solve 0 M10 (fun M11 => ((v1 = (-1) → (b_X10_suspect_95 Q (fun v1 v2 v3 M => b_X10_suspect_105 Q (fun v1 v2 v3 M => b_X10_suspect_36 Q n v1 v2 v3 M) v1 v2 v3 M) v3 M11)) ∧ (¬ v1 = (-1) → ((v2 ≤ (M11.1 17 0 1) → (b_X10_suspect_105 Q (fun v1 v2 v3 M => b_X10_suspect_36 Q n v1 v2 v3 M) v1 v2 v3 M11)) ∧ (¬ v2 ≤ (M11.1 17 0 1) → (b_X10_suspect_95 Q (fun v1 v2 v3 M => b_X10_suspect_105 Q (fun v1 v2 v3 M => b_X10_suspect_36 Q n v1 v2 v3 M) v1 v2 v3 M) v3 M11)))))))))))))))))
set_option maxRecDepth 100000 in
set_option maxHeartbeats 4000000 in
theorem k_X10_suspect_36 {p : Program} {l : Launch} {e : Env} {s : State} {m : MethodId} {args : Array Value} {below : List Frame} {meth : Method} {c : Code} {g : Geo} (C : CX g p s m args meth c cX10_suspect 4 (some .int) RX10) {Q : Int32 → Mem → Prop} : ∀ (n : Nat) (v1 : Int32) (v2 : Int32) (v3 : Int32) (M : Mem) (hw : b_X10_suspect_36 Q n v1 v2 v3 M) {H : Heap} {locs : List Loc} {ls : Array Slot} (hl : lv_has ls 4 [(0, .ref (g.2.1 (0 + 0))), (1, .int v1), (2, .int v2), (3, .int v3)]) (hP : va_P g.1 clz (xw g M) H) (hS : va_S (Af 0 g) s.heap H locs), W p l e ({ frames := 4, cells := 0, slots := 0, locals := 97 } : Room) s m args below meth c H locs 0 0 (MQ below (va_Qi Q (PB g (xw g)) (Af 0 g)) args s 0 0 (Af 0 g)) (F0 m 36 ls []) := by
  intro n
  induction n with
  | zero => intro v1 v2 v3 M hw H locs ls hl hP hS; exact absurd hw (by rw [b_X10_suspect_36]; exact fun h => h)
  | succ n ih =>
    intro v1 v2 v3 M hw H locs ls hl hP hS
    rw [b_X10_suspect_36] at hw
    refine lv_iload_n C.1 C.2.1 dX10_suspect_36 rfl (lv_at hl 3 rfl) ?_
    refine lv_aload_n C.1 C.2.1 dX10_suspect_37 rfl (lv_at hl 0 rfl) ?_
    obtain ⟨w4, h4, hb4, hw⟩ := hw
    refine gX10_23f C hP Nat.zero_lt_one h4 dX10_suspect_38 ?_
    refine gX10_135 C hP hb4 dX10_suspect_41 ?_
    refine lv_icmp_ge (tgt := 111) C.1 C.2.1 dX10_suspect_44 (by decide) (fun h5 => ?_) (fun h5 => ?_)
    · have hw := hw.1 h5
      refine lv_iload_n C.1 C.2.1 dX10_suspect_111 rfl (lv_at hl 1 rfl) ?_
      exact retI (wf := (xw g)) C hP hS hw dX10_suspect_112
    · have hw := hw.2 h5
      refine lv_aload_n C.1 C.2.1 dX10_suspect_47 rfl (lv_at hl 0 rfl) ?_
      refine lv_iload_n C.1 C.2.1 dX10_suspect_48 rfl (lv_at hl 3 rfl) ?_
      refine goI (wf := (xw g)) (runV (w := xw g M) (As := [.int v3]) (rest := []) C lkX10_424 (c_X10_hasBoth l g C.2.2.2.2.2.2.2.2.2.2 v3  M _ hw) hP hS rfl rfl ⟨Nat.le_of_ble_eq_true rfl, Nat.le_of_ble_eq_true rfl⟩ (xx_0 Nat.zero_lt_one) rfl rfl hl.1 rfl (Nat.le_of_ble_eq_true rfl) dX10_suspect_49) hS (fun r6 M6 hw H locs hP hS => ?_)
      obtain ⟨hw, hz6⟩ := hw
      refine lv_if_eq (tgt := 105) C.1 C.2.1 dX10_suspect_52 (by decide) (fun h7 => ?_) (fun h7 => ?_)
      · have hw := hw.1 h7
        exact k_X10_suspect_105 (Q := Q) C (fun v1 v2 v3  M hw H locs ls hl hP hS => ih v1 v2 v3  M hw hl hP hS) v1 v2 v3  _ hw (lv_sub hl [0, 1, 2, 3] rfl) hP hS
      · have hw := hw.2 h7
        refine lv_aload_n C.1 C.2.1 dX10_suspect_55 rfl (lv_at hl 0 rfl) ?_
        refine gX10_74 C hP Nat.zero_lt_one dX10_suspect_56 ?_
        refine lv_aload_n C.1 C.2.1 dX10_suspect_59 rfl (lv_at hl 0 rfl) ?_
        obtain ⟨w9, h9, hb9, hw⟩ := hw
        refine gX10_23f C hP Nat.zero_lt_one h9 dX10_suspect_60 ?_
        refine lv_aload_n C.1 C.2.1 dX10_suspect_63 rfl (lv_at hl 0 rfl) ?_
        refine gX10_47 C hP Nat.zero_lt_one dX10_suspect_64 ?_
        refine lv_iload_n C.1 C.2.1 dX10_suspect_67 rfl (lv_at hl 3 rfl) ?_
        refine goV (wf := (xw g)) (runV (w := xw g M6) (As := [.ref (g.2.1 (23 + w9)), .ref (g.2.1 (47 + 0)), .int v3]) (rest := []) C lkX10_413 (c_X7_gather l g C.2.2.2.2.2.2.2.2.2.2 w9 0 v3 hb9 (Nat.le_of_ble_eq_true rfl) M6 _ hw) hP hS rfl rfl ⟨Nat.le_of_ble_eq_true rfl, Nat.le_of_ble_eq_true rfl⟩ (xx_17 Nat.zero_lt_one) rfl rfl hl.1 rfl (Nat.le_of_ble_eq_true rfl) dX10_suspect_68) hS (fun M10 hw H locs hP hS => ?_)
        refine lv_aload_n C.1 C.2.1 dX10_suspect_71 rfl (lv_at hl 0 rfl) ?_
        refine gX10_74 C hP Nat.zero_lt_one dX10_suspect_72 ?_
        refine lv_iconst (v := 0) C.1 C.2.1 dX10_suspect_75 (by decide) ?_
        refine goV (wf := (xw g)) (runV (w := xw g M10) (As := [.int 0]) (rest := []) C lkX10_420 (c_X7_solve l g C.2.2.2.2.2.2.2.2.2.2 0  M10 _ hw) hP hS rfl rfl ⟨Nat.le_of_ble_eq_true rfl, Nat.le_of_ble_eq_true rfl⟩ (xx_17 Nat.zero_lt_one) rfl rfl hl.1 rfl (Nat.le_of_ble_eq_true rfl) dX10_suspect_76) hS (fun M11 hw H locs hP hS => ?_)
        refine lv_iload_n C.1 C.2.1 dX10_suspect_79 rfl (lv_at hl 1 rfl) ?_
        refine lv_iconst (v := (-1)) C.1 C.2.1 dX10_suspect_80 (by decide) ?_
        refine lv_icmp_eq (tgt := 95) C.1 C.2.1 dX10_suspect_81 (by decide) (fun h12 => ?_) (fun h12 => ?_)
        · have hw := hw.1 h12
          exact k_X10_suspect_95 (Q := Q) C (fun v1 v2 v3  M hw H locs ls hl hP hS => k_X10_suspect_105 (Q := Q) C (fun v1 v2 v3  M hw H locs ls hl hP hS => ih v1 v2 v3  M hw hl hP hS) v1 v2 v3  M hw hl hP hS) v3  _ hw (lv_sub hl [0, 3] rfl) hP hS
        · have hw := hw.2 h12
          refine lv_aload_n C.1 C.2.1 dX10_suspect_84 rfl (lv_at hl 0 rfl) ?_
          refine gX10_74 C hP Nat.zero_lt_one dX10_suspect_85 ?_
          refine gX10_427 C hP Nat.zero_lt_one dX10_suspect_88 ?_
          refine lv_iload_n C.1 C.2.1 dX10_suspect_91 rfl (lv_at hl 2 rfl) ?_
          refine lv_icmp_ge (tgt := 105) C.1 C.2.1 dX10_suspect_92 (by decide) (fun h14 => ?_) (fun h14 => ?_)
          · have hw := hw.1 h14
            exact k_X10_suspect_105 (Q := Q) C (fun v1 v2 v3  M hw H locs ls hl hP hS => ih v1 v2 v3  M hw hl hP hS) v1 v2 v3  _ hw (lv_sub hl [0, 1, 2, 3] rfl) hP hS
          · have hw := hw.2 h14
            exact k_X10_suspect_95 (Q := Q) C (fun v1 v2 v3  M hw H locs ls hl hP hS => k_X10_suspect_105 (Q := Q) C (fun v1 v2 v3  M hw H locs ls hl hP hS => ih v1 v2 v3  M hw hl hP hS) v1 v2 v3  M hw hl hP hS) v3  _ hw (lv_sub hl [0, 3] rfl) hP hS
def p_X10_suspect (M : Mem) (Q : Int32 → Mem → Prop) : Prop := (∃ w1 : Nat, M.2.2 0 0 3 = some (23 + w1) ∧ w1 < 2 ∧ (p_X7_gather w1 0 (-1) M (fun M2 => ((5 ≤ (M2.1 17 0 0) → (∃ n36 : Nat, b_X10_suspect_36 Q n36 (-1) 0 0 M2)) ∧ (¬ 5 ≤ (M2.1 17 0 0) → (Q (-2) M2))))))
set_option maxRecDepth 100000 in
set_option maxHeartbeats 4000000 in
theorem c_X10_suspect (l : Launch) (g : Geo) (gi : GI g) (M : Mem) (Q : Int32 → Mem → Prop) (hw : p_X10_suspect  M Q) : Met l yX10_suspect (Cond.code yX10_suspect cX10_suspect 4 (some .int) :: bg) ({ frames := 4, cells := 0, slots := 0, locals := 97 } : Room) (va_Pc [.ref (g.2.1 (0 + 0))] (PW g (xw g M))) (va_Qi Q (PB g (xw g)) (Af 0 g)) 0 0 (Af 0 g) := by
  refine Met.ofW (cc := cX10_suspect) (maxL := 4) (ret := (some .int)) (by decide +kernel) rfl ?_
  intro p e s m args below meth c s₁ B hml hv
  obtain ⟨rfl, hv⟩ := hv
  have C := CX.start (own := RX10) B hml rfl gi hv
  have hP := hv.1
  have hS : va_S (Af 0 g) s.heap s.heap [] := va_S.rf
  have hl := lv_entry ([.ref (g.2.1 (0 + 0))]) (n := 4) (Nat.le_of_ble_eq_true rfl)
  rw [lg_entry_eq]
  generalize (lg_sl ([.ref (g.2.1 (0 + 0))]) ++ List.replicate (4 - (lg_sl ([.ref (g.2.1 (0 + 0))])).length) Slot.unset).toArray = ls at hl ⊢
  have hl : lv_has ls 4 [(0, .ref (g.2.1 (0 + 0)))] := hl
  unfold p_X10_suspect at hw
  refine lv_aload_n C.1 C.2.1 dX10_suspect_0 rfl (lv_at hl 0 rfl) ?_
  refine gX10_74 C hP Nat.zero_lt_one dX10_suspect_1 ?_
  refine lv_aload_n C.1 C.2.1 dX10_suspect_4 rfl (lv_at hl 0 rfl) ?_
  obtain ⟨w1, h1, hb1, hw⟩ := hw
  refine gX10_23f C hP Nat.zero_lt_one h1 dX10_suspect_5 ?_
  refine lv_aload_n C.1 C.2.1 dX10_suspect_8 rfl (lv_at hl 0 rfl) ?_
  refine gX10_47 C hP Nat.zero_lt_one dX10_suspect_9 ?_
  refine lv_iconst (v := (-1)) C.1 C.2.1 dX10_suspect_12 (by decide) ?_
  refine goV (wf := (xw g)) (runV (w := xw g M) (As := [.ref (g.2.1 (23 + w1)), .ref (g.2.1 (47 + 0)), .int (-1)]) (rest := []) C lkX10_413 (c_X7_gather l g C.2.2.2.2.2.2.2.2.2.2 w1 0 (-1) hb1 (Nat.le_of_ble_eq_true rfl) M _ hw) hP hS rfl rfl ⟨Nat.le_of_ble_eq_true rfl, Nat.le_of_ble_eq_true rfl⟩ (xx_17 Nat.zero_lt_one) rfl rfl hl.1 rfl (Nat.le_of_ble_eq_true rfl) dX10_suspect_13) hS (fun M2 hw H locs hP hS => ?_)
  refine lv_aload_n C.1 C.2.1 dX10_suspect_16 rfl (lv_at hl 0 rfl) ?_
  refine gX10_74 C hP Nat.zero_lt_one dX10_suspect_17 ?_
  refine gX10_417 C hP Nat.zero_lt_one dX10_suspect_20 ?_
  refine lv_iconst (v := 5) C.1 C.2.1 dX10_suspect_23 (by decide) ?_
  refine lv_icmp_ge (tgt := 30) C.1 C.2.1 dX10_suspect_24 (by decide) (fun h3 => ?_) (fun h3 => ?_)
  · have hw := hw.1 h3
    refine lv_iconst (v := (-1)) C.1 C.2.1 dX10_suspect_30 (by decide) ?_
    refine lv_istore_n (lv' := [(1, .int (-1)), (0, .ref (g.2.1 (0 + 0)))]) C.1 C.2.1 dX10_suspect_31 rfl hl (by decide) rfl (fun ls hl => ?_)
    refine lv_iconst (v := 0) C.1 C.2.1 dX10_suspect_32 (by decide) ?_
    refine lv_istore_n (lv' := [(2, .int 0), (1, .int (-1)), (0, .ref (g.2.1 (0 + 0)))]) C.1 C.2.1 dX10_suspect_33 rfl hl (by decide) rfl (fun ls hl => ?_)
    refine lv_iconst (v := 0) C.1 C.2.1 dX10_suspect_34 (by decide) ?_
    refine lv_istore_n (lv' := [(3, .int 0), (2, .int 0), (1, .int (-1)), (0, .ref (g.2.1 (0 + 0)))]) C.1 C.2.1 dX10_suspect_35 rfl hl (by decide) rfl (fun ls hl => ?_)
    obtain ⟨n9, hw⟩ := hw
    exact k_X10_suspect_36 (Q := Q) C n9 (-1) 0 0  _ hw (lv_sub hl [3, 2, 1, 0] rfl) hP hS
  · have hw := hw.2 h3
    refine lv_bipush (v := (-2)) C.1 C.2.1 dX10_suspect_27 (by decide) ?_
    exact retI (wf := (xw g)) C hP hS hw dX10_suspect_29
def p_X10_spread (a1 : Int32) (M : Mem) (Q : Int32 → Mem → Prop) : Prop := ((a1 < 0 → (Q (-1) M)) ∧ (¬ a1 < 0 → ((a1 ≤ 9999 → (∃ w3 : Nat, M.2.2 0 0 3 = some (23 + w3) ∧ w3 < 2 ∧ (p_X7_gather w3 0 (-1) M (fun M4 => ((4 ≤ (M4.1 17 0 0) → (p_X7_solve a1 M4 (fun M6 => (Q (M6.1 17 0 2) M6)))) ∧ (¬ 4 ≤ (M4.1 17 0 0) → (Q (-2) M4))))))) ∧ (¬ a1 ≤ 9999 → (Q (-1) M)))))
set_option maxRecDepth 100000 in
set_option maxHeartbeats 4000000 in
theorem c_X10_spread (l : Launch) (g : Geo) (gi : GI g) (a1 : Int32) (M : Mem) (Q : Int32 → Mem → Prop) (hw : p_X10_spread a1 M Q) : Met l yX10_spread (Cond.code yX10_spread cX10_spread 2 (some .int) :: bg) ({ frames := 4, cells := 0, slots := 0, locals := 97 } : Room) (va_Pc [.ref (g.2.1 (0 + 0)), .int a1] (PW g (xw g M))) (va_Qi Q (PB g (xw g)) (Af 0 g)) 0 0 (Af 0 g) := by
  refine Met.ofW (cc := cX10_spread) (maxL := 2) (ret := (some .int)) (by decide +kernel) rfl ?_
  intro p e s m args below meth c s₁ B hml hv
  obtain ⟨rfl, hv⟩ := hv
  have C := CX.start (own := RX10) B hml rfl gi hv
  have hP := hv.1
  have hS : va_S (Af 0 g) s.heap s.heap [] := va_S.rf
  have hl := lv_entry ([.ref (g.2.1 (0 + 0)), .int a1]) (n := 2) (Nat.le_of_ble_eq_true rfl)
  rw [lg_entry_eq]
  generalize (lg_sl ([.ref (g.2.1 (0 + 0)), .int a1]) ++ List.replicate (2 - (lg_sl ([.ref (g.2.1 (0 + 0)), .int a1])).length) Slot.unset).toArray = ls at hl ⊢
  have hl : lv_has ls 2 [(0, .ref (g.2.1 (0 + 0))), (1, .int a1)] := hl
  unfold p_X10_spread at hw
  refine lv_iload_n C.1 C.2.1 dX10_spread_0 rfl (lv_at hl 1 rfl) ?_
  refine lv_if_lt (tgt := 11) C.1 C.2.1 dX10_spread_1 (by decide) (fun h1 => ?_) (fun h1 => ?_)
  · have hw := hw.1 h1
    refine lv_iconst (v := (-1)) C.1 C.2.1 dX10_spread_11 (by decide) ?_
    exact retI (wf := (xw g)) C hP hS hw dX10_spread_12
  · have hw := hw.2 h1
    refine lv_iload_n C.1 C.2.1 dX10_spread_4 rfl (lv_at hl 1 rfl) ?_
    refine lv_sipush (v := 9999) C.1 C.2.1 dX10_spread_5 (by decide) ?_
    refine lv_icmp_le (tgt := 13) C.1 C.2.1 dX10_spread_8 (by decide) (fun h2 => ?_) (fun h2 => ?_)
    · have hw := hw.1 h2
      refine lv_aload_n C.1 C.2.1 dX10_spread_13 rfl (lv_at hl 0 rfl) ?_
      refine gX10_74 C hP Nat.zero_lt_one dX10_spread_14 ?_
      refine lv_aload_n C.1 C.2.1 dX10_spread_17 rfl (lv_at hl 0 rfl) ?_
      obtain ⟨w3, h3, hb3, hw⟩ := hw
      refine gX10_23f C hP Nat.zero_lt_one h3 dX10_spread_18 ?_
      refine lv_aload_n C.1 C.2.1 dX10_spread_21 rfl (lv_at hl 0 rfl) ?_
      refine gX10_47 C hP Nat.zero_lt_one dX10_spread_22 ?_
      refine lv_iconst (v := (-1)) C.1 C.2.1 dX10_spread_25 (by decide) ?_
      refine goV (wf := (xw g)) (runV (w := xw g M) (As := [.ref (g.2.1 (23 + w3)), .ref (g.2.1 (47 + 0)), .int (-1)]) (rest := []) C lkX10_413 (c_X7_gather l g C.2.2.2.2.2.2.2.2.2.2 w3 0 (-1) hb3 (Nat.le_of_ble_eq_true rfl) M _ hw) hP hS rfl rfl ⟨Nat.le_of_ble_eq_true rfl, Nat.le_of_ble_eq_true rfl⟩ (xx_17 Nat.zero_lt_one) rfl rfl hl.1 rfl (Nat.le_of_ble_eq_true rfl) dX10_spread_26) hS (fun M4 hw H locs hP hS => ?_)
      refine lv_aload_n C.1 C.2.1 dX10_spread_29 rfl (lv_at hl 0 rfl) ?_
      refine gX10_74 C hP Nat.zero_lt_one dX10_spread_30 ?_
      refine gX10_417 C hP Nat.zero_lt_one dX10_spread_33 ?_
      refine lv_iconst (v := 4) C.1 C.2.1 dX10_spread_36 (by decide) ?_
      refine lv_icmp_ge (tgt := 43) C.1 C.2.1 dX10_spread_37 (by decide) (fun h5 => ?_) (fun h5 => ?_)
      · have hw := hw.1 h5
        refine lv_aload_n C.1 C.2.1 dX10_spread_43 rfl (lv_at hl 0 rfl) ?_
        refine gX10_74 C hP Nat.zero_lt_one dX10_spread_44 ?_
        refine lv_iload_n C.1 C.2.1 dX10_spread_47 rfl (lv_at hl 1 rfl) ?_
        refine goV (wf := (xw g)) (runV (w := xw g M4) (As := [.int a1]) (rest := []) C lkX10_420 (c_X7_solve l g C.2.2.2.2.2.2.2.2.2.2 a1  M4 _ hw) hP hS rfl rfl ⟨Nat.le_of_ble_eq_true rfl, Nat.le_of_ble_eq_true rfl⟩ (xx_17 Nat.zero_lt_one) rfl rfl hl.1 rfl (Nat.le_of_ble_eq_true rfl) dX10_spread_48) hS (fun M6 hw H locs hP hS => ?_)
        refine lv_aload_n C.1 C.2.1 dX10_spread_51 rfl (lv_at hl 0 rfl) ?_
        refine gX10_74 C hP Nat.zero_lt_one dX10_spread_52 ?_
        refine gX10_430 C hP Nat.zero_lt_one dX10_spread_55 ?_
        exact retI (wf := (xw g)) C hP hS hw dX10_spread_58
      · have hw := hw.2 h5
        refine lv_bipush (v := (-2)) C.1 C.2.1 dX10_spread_40 (by decide) ?_
        exact retI (wf := (xw g)) C hP hS hw dX10_spread_42
    · have hw := hw.2 h2
      refine lv_iconst (v := (-1)) C.1 C.2.1 dX10_spread_11 (by decide) ?_
      exact retI (wf := (xw g)) C hP hS hw dX10_spread_12
def p_X10_distance (a1 : Int32) (a2 : Int32) (M : Mem) (Q : Int32 → Mem → Prop) : Prop := (p_X10_isBird a1 M (fun r1 M1 => ((r1 = 0 → (Q (-1) M1)) ∧ (¬ r1 = 0 → (p_X10_isBird a2 M1 (fun r3 M3 => ((¬ r3 = 0 → (∃ w5 : Nat, M3.2.2 0 0 3 = some (23 + w5) ∧ w5 < 2 ∧ (vp_in a1 5 ∧ (∃ w7 : Nat, M3.2.2 0 0 3 = some (23 + w7) ∧ w7 < 2 ∧ (vp_in a2 5 ∧ (((M3.1 25 (5 * w5 + (a1 : Int32).toNatClampNeg) 9) = 0 → (Q (-2) M3)) ∧ (¬ (M3.1 25 (5 * w5 + (a1 : Int32).toNatClampNeg) 9) = 0 → ((¬ (M3.1 25 (5 * w7 + (a2 : Int32).toNatClampNeg) 9) = 0 → (p_X7_way (((M3.1 25 (5 * w5 + (a1 : Int32).toNatClampNeg) 10) - (M3.1 25 (5 * w7 + (a2 : Int32).toNatClampNeg) 10))) (((M3.1 25 (5 * w5 + (a1 : Int32).toNatClampNeg) 11) - (M3.1 25 (5 * w7 + (a2 : Int32).toNatClampNeg) 11))) (((M3.1 25 (5 * w5 + (a1 : Int32).toNatClampNeg) 12) - (M3.1 25 (5 * w7 + (a2 : Int32).toNatClampNeg) 12))) M3 (fun r11 M11 => (Q r11 M11)))) ∧ ((M3.1 25 (5 * w7 + (a2 : Int32).toNatClampNeg) 9) = 0 → (Q (-2) M3)))))))))) ∧ (r3 = 0 → (Q (-1) M3)))))))))
set_option maxRecDepth 100000 in
set_option maxHeartbeats 4000000 in
theorem c_X10_distance (l : Launch) (g : Geo) (gi : GI g) (a1 : Int32) (a2 : Int32) (M : Mem) (Q : Int32 → Mem → Prop) (hw : p_X10_distance a1 a2 M Q) : Met l yX10_distance (Cond.code yX10_distance cX10_distance 5 (some .int) :: bg) ({ frames := 1, cells := 0, slots := 0, locals := 24 } : Room) (va_Pc [.ref (g.2.1 (0 + 0)), .int a1, .int a2] (PW g (xw g M))) (va_Qi Q (PB g (xw g)) (Af 0 g)) 0 0 (Af 0 g) := by
  refine Met.ofW (cc := cX10_distance) (maxL := 5) (ret := (some .int)) (by decide +kernel) rfl ?_
  intro p e s m args below meth c s₁ B hml hv
  obtain ⟨rfl, hv⟩ := hv
  have C := CX.start (own := RX10) B hml rfl gi hv
  have hP := hv.1
  have hS : va_S (Af 0 g) s.heap s.heap [] := va_S.rf
  have hl := lv_entry ([.ref (g.2.1 (0 + 0)), .int a1, .int a2]) (n := 5) (Nat.le_of_ble_eq_true rfl)
  rw [lg_entry_eq]
  generalize (lg_sl ([.ref (g.2.1 (0 + 0)), .int a1, .int a2]) ++ List.replicate (5 - (lg_sl ([.ref (g.2.1 (0 + 0)), .int a1, .int a2])).length) Slot.unset).toArray = ls at hl ⊢
  have hl : lv_has ls 5 [(0, .ref (g.2.1 (0 + 0))), (1, .int a1), (2, .int a2)] := hl
  unfold p_X10_distance at hw
  refine lv_aload_n C.1 C.2.1 dX10_distance_0 rfl (lv_at hl 0 rfl) ?_
  refine lv_iload_n C.1 C.2.1 dX10_distance_1 rfl (lv_at hl 1 rfl) ?_
  refine goI (wf := (xw g)) (runV (w := xw g M) (As := [.int a1]) (rest := []) C lkX10_111 (c_X10_isBird l g C.2.2.2.2.2.2.2.2.2.2 a1  M _ hw) hP hS rfl rfl ⟨Nat.le_of_ble_eq_true rfl, Nat.le_of_ble_eq_true rfl⟩ (xx_0 Nat.zero_lt_one) rfl rfl hl.1 rfl (Nat.le_of_ble_eq_true rfl) dX10_distance_2) hS (fun r1 M1 hw H locs hP hS => ?_)
  obtain ⟨hw, hz1⟩ := hw
  refine lv_if_eq (tgt := 16) C.1 C.2.1 dX10_distance_5 (by decide) (fun h2 => ?_) (fun h2 => ?_)
  · have hw := hw.1 h2
    refine lv_iconst (v := (-1)) C.1 C.2.1 dX10_distance_16 (by decide) ?_
    exact retI (wf := (xw g)) C hP hS hw dX10_distance_17
  · have hw := hw.2 h2
    refine lv_aload_n C.1 C.2.1 dX10_distance_8 rfl (lv_at hl 0 rfl) ?_
    refine lv_iload_n C.1 C.2.1 dX10_distance_9 rfl (lv_at hl 2 rfl) ?_
    refine goI (wf := (xw g)) (runV (w := xw g M1) (As := [.int a2]) (rest := []) C lkX10_111 (c_X10_isBird l g C.2.2.2.2.2.2.2.2.2.2 a2  M1 _ hw) hP hS rfl rfl ⟨Nat.le_of_ble_eq_true rfl, Nat.le_of_ble_eq_true rfl⟩ (xx_0 Nat.zero_lt_one) rfl rfl hl.1 rfl (Nat.le_of_ble_eq_true rfl) dX10_distance_10) hS (fun r3 M3 hw H locs hP hS => ?_)
    obtain ⟨hw, hz3⟩ := hw
    refine lv_if_ne (tgt := 18) C.1 C.2.1 dX10_distance_13 (by decide) (fun h4 => ?_) (fun h4 => ?_)
    · have hw := hw.1 h4
      refine lv_aload_n C.1 C.2.1 dX10_distance_18 rfl (lv_at hl 0 rfl) ?_
      obtain ⟨w5, h5, hb5, hw⟩ := hw
      refine gX10_23f C hP Nat.zero_lt_one h5 dX10_distance_19 ?_
      refine gX10_127 C hP hb5 dX10_distance_22 ?_
      refine lv_iload_n C.1 C.2.1 dX10_distance_25 rfl (lv_at hl 1 rfl) ?_
      obtain ⟨h6, hw⟩ := hw
      have hb6 : (5 * w5 + (a1 : Int32).toNatClampNeg) < 10 := by have h9 := vp_lt h6; have h8 := hb5; omega
      refine al_24 C hP hb5 h6 dX10_distance_26 ?_
      refine lv_astore_n (lv' := [(3, .ref (g.2.1 (27 + (5 * w5 + (a1 : Int32).toNatClampNeg)))), (0, .ref (g.2.1 (0 + 0))), (1, .int a1), (2, .int a2)]) C.1 C.2.1 dX10_distance_27 rfl hl (by decide) rfl (fun ls hl => ?_)
      refine lv_aload_n C.1 C.2.1 dX10_distance_28 rfl (lv_at hl 1 rfl) ?_
      obtain ⟨w7, h7, hb7, hw⟩ := hw
      refine gX10_23f C hP Nat.zero_lt_one h7 dX10_distance_29 ?_
      refine gX10_127 C hP hb7 dX10_distance_32 ?_
      refine lv_iload_n C.1 C.2.1 dX10_distance_35 rfl (lv_at hl 3 rfl) ?_
      obtain ⟨h8, hw⟩ := hw
      have hb8 : (5 * w7 + (a2 : Int32).toNatClampNeg) < 10 := by have h9 := vp_lt h8; have h8 := hb7; omega
      refine al_24 C hP hb7 h8 dX10_distance_36 ?_
      refine lv_astore (lv' := [(4, .ref (g.2.1 (27 + (5 * w7 + (a2 : Int32).toNatClampNeg)))), (3, .ref (g.2.1 (27 + (5 * w5 + (a1 : Int32).toNatClampNeg)))), (0, .ref (g.2.1 (0 + 0))), (1, .int a1), (2, .int a2)]) C.1 C.2.1 dX10_distance_37 hl (by decide) rfl (fun ls hl => ?_)
      refine lv_aload_n C.1 C.2.1 dX10_distance_39 rfl (lv_at hl 1 rfl) ?_
      refine gX10_380 C hP hb6 dX10_distance_40 ?_
      refine lv_if_eq (tgt := 54) C.1 C.2.1 dX10_distance_43 (by decide) (fun h9 => ?_) (fun h9 => ?_)
      · have hw := hw.1 h9
        refine lv_bipush (v := (-2)) C.1 C.2.1 dX10_distance_54 (by decide) ?_
        exact retI (wf := (xw g)) C hP hS hw dX10_distance_56
      · have hw := hw.2 h9
        refine lv_aload C.1 C.2.1 dX10_distance_46 (lv_at hl 0 rfl) ?_
        refine gX10_380 C hP hb8 dX10_distance_48 ?_
        refine lv_if_ne (tgt := 57) C.1 C.2.1 dX10_distance_51 (by decide) (fun h10 => ?_) (fun h10 => ?_)
        · have hw := hw.1 h10
          refine lv_aload_n C.1 C.2.1 dX10_distance_57 rfl (lv_at hl 2 rfl) ?_
          refine gX10_74 C hP Nat.zero_lt_one dX10_distance_58 ?_
          refine lv_aload_n C.1 C.2.1 dX10_distance_61 rfl (lv_at hl 1 rfl) ?_
          refine gX10_386 C hP hb6 dX10_distance_62 ?_
          refine lv_aload C.1 C.2.1 dX10_distance_65 (lv_at hl 0 rfl) ?_
          refine gX10_386 C hP hb8 dX10_distance_67 ?_
          refine lv_isub C.1 C.2.1 dX10_distance_70 ?_
          refine lv_aload_n C.1 C.2.1 dX10_distance_71 rfl (lv_at hl 1 rfl) ?_
          refine gX10_392 C hP hb6 dX10_distance_72 ?_
          refine lv_aload C.1 C.2.1 dX10_distance_75 (lv_at hl 0 rfl) ?_
          refine gX10_392 C hP hb8 dX10_distance_77 ?_
          refine lv_isub C.1 C.2.1 dX10_distance_80 ?_
          refine lv_aload_n C.1 C.2.1 dX10_distance_81 rfl (lv_at hl 1 rfl) ?_
          refine gX10_398 C hP hb6 dX10_distance_82 ?_
          refine lv_aload C.1 C.2.1 dX10_distance_85 (lv_at hl 0 rfl) ?_
          refine gX10_398 C hP hb8 dX10_distance_87 ?_
          refine lv_isub C.1 C.2.1 dX10_distance_90 ?_
          refine goI (wf := (xw g)) (runV (w := xw g M3) (As := [.int ((M3.1 25 (5 * w5 + (a1 : Int32).toNatClampNeg) 10) - (M3.1 25 (5 * w7 + (a2 : Int32).toNatClampNeg) 10)), .int ((M3.1 25 (5 * w5 + (a1 : Int32).toNatClampNeg) 11) - (M3.1 25 (5 * w7 + (a2 : Int32).toNatClampNeg) 11)), .int ((M3.1 25 (5 * w5 + (a1 : Int32).toNatClampNeg) 12) - (M3.1 25 (5 * w7 + (a2 : Int32).toNatClampNeg) 12))]) (rest := []) C lkX10_404 (c_X7_way l g C.2.2.2.2.2.2.2.2.2.2 (((M3.1 25 (5 * w5 + (a1 : Int32).toNatClampNeg) 10) - (M3.1 25 (5 * w7 + (a2 : Int32).toNatClampNeg) 10))) (((M3.1 25 (5 * w5 + (a1 : Int32).toNatClampNeg) 11) - (M3.1 25 (5 * w7 + (a2 : Int32).toNatClampNeg) 11))) (((M3.1 25 (5 * w5 + (a1 : Int32).toNatClampNeg) 12) - (M3.1 25 (5 * w7 + (a2 : Int32).toNatClampNeg) 12)))  M3 _ hw) hP hS rfl rfl ⟨Nat.le_of_ble_eq_true rfl, Nat.le_of_ble_eq_true rfl⟩ (xx_17 Nat.zero_lt_one) rfl rfl hl.1 rfl (Nat.le_of_ble_eq_true rfl) dX10_distance_91) hS (fun r11 M11 hw H locs hP hS => ?_)
          exact retI (wf := (xw g)) C hP hS hw dX10_distance_94
        · have hw := hw.2 h10
          refine lv_bipush (v := (-2)) C.1 C.2.1 dX10_distance_54 (by decide) ?_
          exact retI (wf := (xw g)) C hP hS hw dX10_distance_56
    · have hw := hw.2 h4
      refine lv_iconst (v := (-1)) C.1 C.2.1 dX10_distance_16 (by decide) ?_
      exact retI (wf := (xw g)) C hP hS hw dX10_distance_17
def p_X10_undo (M : Mem) (Q : Int32 → Mem → Prop) : Prop := ((¬ (M.1 21 0 2) = 0 → (p_X5_pop 0 M (fun M2 => (Q (M2.1 21 0 2) M2)))) ∧ ((M.1 21 0 2) = 0 → (Q (-1) M)))
set_option maxRecDepth 100000 in
set_option maxHeartbeats 4000000 in
theorem c_X10_undo (l : Launch) (g : Geo) (gi : GI g) (M : Mem) (Q : Int32 → Mem → Prop) (hw : p_X10_undo  M Q) : Met l yX10_undo (Cond.code yX10_undo cX10_undo 1 (some .int) :: bg) ({ frames := 3, cells := 0, slots := 0, locals := 64 } : Room) (va_Pc [.ref (g.2.1 (0 + 0))] (PW g (xw g M))) (va_Qi Q (PB g (xw g)) (Af 0 g)) 0 0 (Af 0 g) := by
  refine Met.ofW (cc := cX10_undo) (maxL := 1) (ret := (some .int)) (by decide +kernel) rfl ?_
  intro p e s m args below meth c s₁ B hml hv
  obtain ⟨rfl, hv⟩ := hv
  have C := CX.start (own := RX10) B hml rfl gi hv
  have hP := hv.1
  have hS : va_S (Af 0 g) s.heap s.heap [] := va_S.rf
  have hl := lv_entry ([.ref (g.2.1 (0 + 0))]) (n := 1) (Nat.le_of_ble_eq_true rfl)
  rw [lg_entry_eq]
  generalize (lg_sl ([.ref (g.2.1 (0 + 0))]) ++ List.replicate (1 - (lg_sl ([.ref (g.2.1 (0 + 0))])).length) Slot.unset).toArray = ls at hl ⊢
  have hl : lv_has ls 1 [(0, .ref (g.2.1 (0 + 0)))] := hl
  unfold p_X10_undo at hw
  refine lv_aload_n C.1 C.2.1 dX10_undo_0 rfl (lv_at hl 0 rfl) ?_
  refine gX10_60 C hP Nat.zero_lt_one dX10_undo_1 ?_
  refine gX10_433 C hP Nat.zero_lt_one dX10_undo_4 ?_
  refine lv_if_ne (tgt := 12) C.1 C.2.1 dX10_undo_7 (by decide) (fun h1 => ?_) (fun h1 => ?_)
  · have hw := hw.1 h1
    refine lv_aload_n C.1 C.2.1 dX10_undo_12 rfl (lv_at hl 0 rfl) ?_
    refine gX10_60 C hP Nat.zero_lt_one dX10_undo_13 ?_
    refine lv_aload_n C.1 C.2.1 dX10_undo_16 rfl (lv_at hl 0 rfl) ?_
    refine gX10_47 C hP Nat.zero_lt_one dX10_undo_17 ?_
    refine goV (wf := (xw g)) (runV (w := xw g M) (As := [.ref (g.2.1 (47 + 0))]) (rest := []) C lkX10_436 (c_X5_pop l g C.2.2.2.2.2.2.2.2.2.2 0 (Nat.le_of_ble_eq_true rfl) M _ hw) hP hS rfl rfl ⟨Nat.le_of_ble_eq_true rfl, Nat.le_of_ble_eq_true rfl⟩ (xx_21 Nat.zero_lt_one) rfl rfl hl.1 rfl (Nat.le_of_ble_eq_true rfl) dX10_undo_20) hS (fun M2 hw H locs hP hS => ?_)
    refine lv_aload_n C.1 C.2.1 dX10_undo_23 rfl (lv_at hl 0 rfl) ?_
    refine gX10_60 C hP Nat.zero_lt_one dX10_undo_24 ?_
    refine gX10_433 C hP Nat.zero_lt_one dX10_undo_27 ?_
    exact retI (wf := (xw g)) C hP hS hw dX10_undo_30
  · have hw := hw.2 h1
    refine lv_iconst (v := (-1)) C.1 C.2.1 dX10_undo_10 (by decide) ?_
    exact retI (wf := (xw g)) C hP hS hw dX10_undo_11
def p_X10_keep (M : Mem) (Q : Int32 → Mem → Prop) : Prop := (p_X8_copyFrom 1 0 M (fun M1 => (∀ M2 : Mem, M2 = sI M1 0 0 9 1 → (Q (M2.1 27 0 1) M2))))
set_option maxRecDepth 100000 in
set_option maxHeartbeats 4000000 in
theorem c_X10_keep (l : Launch) (g : Geo) (gi : GI g) (M : Mem) (Q : Int32 → Mem → Prop) (hw : p_X10_keep  M Q) : Met l yX10_keep (Cond.code yX10_keep cX10_keep 1 (some .int) :: bg) ({ frames := 2, cells := 0, slots := 0, locals := 43 } : Room) (va_Pc [.ref (g.2.1 (0 + 0))] (PW g (xw g M))) (va_Qi Q (PB g (xw g)) (Af 0 g)) 0 0 (Af 0 g) := by
  refine Met.ofW (cc := cX10_keep) (maxL := 1) (ret := (some .int)) (by decide +kernel) rfl ?_
  intro p e s m args below meth c s₁ B hml hv
  obtain ⟨rfl, hv⟩ := hv
  have C := CX.start (own := RX10) B hml rfl gi hv
  have hP := hv.1
  have hS : va_S (Af 0 g) s.heap s.heap [] := va_S.rf
  have hl := lv_entry ([.ref (g.2.1 (0 + 0))]) (n := 1) (Nat.le_of_ble_eq_true rfl)
  rw [lg_entry_eq]
  generalize (lg_sl ([.ref (g.2.1 (0 + 0))]) ++ List.replicate (1 - (lg_sl ([.ref (g.2.1 (0 + 0))])).length) Slot.unset).toArray = ls at hl ⊢
  have hl : lv_has ls 1 [(0, .ref (g.2.1 (0 + 0)))] := hl
  unfold p_X10_keep at hw
  refine lv_aload_n C.1 C.2.1 dX10_keep_0 rfl (lv_at hl 0 rfl) ?_
  refine gX10_51 C hP Nat.zero_lt_one dX10_keep_1 ?_
  refine lv_aload_n C.1 C.2.1 dX10_keep_4 rfl (lv_at hl 0 rfl) ?_
  refine gX10_47 C hP Nat.zero_lt_one dX10_keep_5 ?_
  refine goV (wf := (xw g)) (runV (w := xw g M) (As := [.ref (g.2.1 (47 + 0))]) (rest := []) C lkX10_368 (c_X8_copyFrom l g C.2.2.2.2.2.2.2.2.2.2 1 0 (Nat.le_of_ble_eq_true rfl) (Nat.le_of_ble_eq_true rfl) M _ hw) hP hS rfl rfl ⟨Nat.le_of_ble_eq_true rfl, Nat.le_of_ble_eq_true rfl⟩ (xx_27 (Nat.le_of_ble_eq_true rfl)) rfl rfl hl.1 rfl (Nat.le_of_ble_eq_true rfl) dX10_keep_8) hS (fun M1 hw H locs hP hS => ?_)
  refine lv_aload_n C.1 C.2.1 dX10_keep_11 rfl (lv_at hl 0 rfl) ?_
  refine lv_iconst (v := 1) C.1 C.2.1 dX10_keep_12 (by decide) ?_
  refine pX10_93 C hP hS Nat.zero_lt_one rfl rfl dX10_keep_13 (fun M2 e2 H locs hP hS => ?_)
  have hw := hw M2 e2
  refine lv_aload_n C.1 C.2.1 dX10_keep_16 rfl (lv_at hl 0 rfl) ?_
  refine gX10_47 C hP Nat.zero_lt_one dX10_keep_17 ?_
  refine gX10_274 C hP (Nat.le_of_ble_eq_true rfl) dX10_keep_20 ?_
  exact retI (wf := (xw g)) C hP hS hw dX10_keep_23
def p_X10_back (M : Mem) (Q : Int32 → Mem → Prop) : Prop := ((¬ (M.1 0 0 9) = 0 → (p_X8_copyFrom 0 1 M (fun M2 => (p_X5_forget  M2 (fun M3 => (Q (M3.1 27 0 1) M3)))))) ∧ ((M.1 0 0 9) = 0 → (Q (-1) M)))
set_option maxRecDepth 100000 in
set_option maxHeartbeats 4000000 in
theorem c_X10_back (l : Launch) (g : Geo) (gi : GI g) (M : Mem) (Q : Int32 → Mem → Prop) (hw : p_X10_back  M Q) : Met l yX10_back (Cond.code yX10_back cX10_back 1 (some .int) :: bg) ({ frames := 2, cells := 0, slots := 0, locals := 43 } : Room) (va_Pc [.ref (g.2.1 (0 + 0))] (PW g (xw g M))) (va_Qi Q (PB g (xw g)) (Af 0 g)) 0 0 (Af 0 g) := by
  refine Met.ofW (cc := cX10_back) (maxL := 1) (ret := (some .int)) (by decide +kernel) rfl ?_
  intro p e s m args below meth c s₁ B hml hv
  obtain ⟨rfl, hv⟩ := hv
  have C := CX.start (own := RX10) B hml rfl gi hv
  have hP := hv.1
  have hS : va_S (Af 0 g) s.heap s.heap [] := va_S.rf
  have hl := lv_entry ([.ref (g.2.1 (0 + 0))]) (n := 1) (Nat.le_of_ble_eq_true rfl)
  rw [lg_entry_eq]
  generalize (lg_sl ([.ref (g.2.1 (0 + 0))]) ++ List.replicate (1 - (lg_sl ([.ref (g.2.1 (0 + 0))])).length) Slot.unset).toArray = ls at hl ⊢
  have hl : lv_has ls 1 [(0, .ref (g.2.1 (0 + 0)))] := hl
  unfold p_X10_back at hw
  refine lv_aload_n C.1 C.2.1 dX10_back_0 rfl (lv_at hl 0 rfl) ?_
  refine gX10_93 C hP Nat.zero_lt_one dX10_back_1 ?_
  refine lv_if_ne (tgt := 9) C.1 C.2.1 dX10_back_4 (by decide) (fun h1 => ?_) (fun h1 => ?_)
  · have hw := hw.1 h1
    refine lv_aload_n C.1 C.2.1 dX10_back_9 rfl (lv_at hl 0 rfl) ?_
    refine gX10_47 C hP Nat.zero_lt_one dX10_back_10 ?_
    refine lv_aload_n C.1 C.2.1 dX10_back_13 rfl (lv_at hl 0 rfl) ?_
    refine gX10_51 C hP Nat.zero_lt_one dX10_back_14 ?_
    refine goV (wf := (xw g)) (runV (w := xw g M) (As := [.ref (g.2.1 (47 + 1))]) (rest := []) C lkX10_368 (c_X8_copyFrom l g C.2.2.2.2.2.2.2.2.2.2 0 1 (Nat.le_of_ble_eq_true rfl) (Nat.le_of_ble_eq_true rfl) M _ hw) hP hS rfl rfl ⟨Nat.le_of_ble_eq_true rfl, Nat.le_of_ble_eq_true rfl⟩ (xx_27 (Nat.le_of_ble_eq_true rfl)) rfl rfl hl.1 rfl (Nat.le_of_ble_eq_true rfl) dX10_back_17) hS (fun M2 hw H locs hP hS => ?_)
    refine lv_aload_n C.1 C.2.1 dX10_back_20 rfl (lv_at hl 0 rfl) ?_
    refine gX10_60 C hP Nat.zero_lt_one dX10_back_21 ?_
    refine goV (wf := (xw g)) (runV (w := xw g M2) (As := []) (rest := []) C lkX10_97 (c_X5_forget l g C.2.2.2.2.2.2.2.2.2.2   M2 _ hw) hP hS rfl rfl ⟨Nat.le_of_ble_eq_true rfl, Nat.le_of_ble_eq_true rfl⟩ (xx_21 Nat.zero_lt_one) rfl rfl hl.1 rfl (Nat.le_of_ble_eq_true rfl) dX10_back_24) hS (fun M3 hw H locs hP hS => ?_)
    refine lv_aload_n C.1 C.2.1 dX10_back_27 rfl (lv_at hl 0 rfl) ?_
    refine gX10_47 C hP Nat.zero_lt_one dX10_back_28 ?_
    refine gX10_274 C hP (Nat.le_of_ble_eq_true rfl) dX10_back_31 ?_
    exact retI (wf := (xw g)) C hP hS hw dX10_back_34
  · have hw := hw.2 h1
    refine lv_iconst (v := (-1)) C.1 C.2.1 dX10_back_7 (by decide) ?_
    exact retI (wf := (xw g)) C hP hS hw dX10_back_8
def p_X10_count (a1 : Int32) (M : Mem) (Q : Int32 → Mem → Prop) : Prop := ((a1 = 0 → (∃ w2 : Nat, M.2.2 0 0 3 = some (23 + w2) ∧ w2 < 2 ∧ (Q (M.1 23 w2 1) M))) ∧ (a1 = 1 → (∃ w3 : Nat, M.2.2 0 0 3 = some (23 + w3) ∧ w3 < 2 ∧ (p_X9_howManyHeard w3 M (fun r4 M4 => (Q r4 M4))))) ∧ (a1 = 2 → (Q (M.1 27 0 1) M)) ∧ (a1 = 3 → (p_X8_howManyLost 0 M (fun r5 M5 => (Q r5 M5)))) ∧ (a1 = 4 → (∃ w6 : Nat, M.2.2 0 0 3 = some (23 + w6) ∧ w6 < 2 ∧ (Q (M.1 23 w6 2) M))) ∧ (a1 = 5 → (∃ w7 : Nat, M.2.2 0 0 3 = some (23 + w7) ∧ w7 < 2 ∧ (p_X9_howManyPlaced w7 M (fun r8 M8 => (Q r8 M8))))) ∧ (a1 = 6 → (p_X8_howManyRanges 0 M (fun r9 M9 => (Q r9 M9)))) ∧ (a1 = 7 → (∃ w10 : Nat, M.2.2 0 0 3 = some (23 + w10) ∧ w10 < 2 ∧ (Q (M.1 23 w10 7) M))) ∧ (a1 = 8 → (∃ w11 : Nat, M.2.2 0 0 3 = some (23 + w11) ∧ w11 < 2 ∧ (Q (M.1 23 w11 9) M))) ∧ (a1 = 9 → (∃ w12 : Nat, M.2.2 0 0 3 = some (23 + w12) ∧ w12 < 2 ∧ (Q (M.1 23 w12 3) M))) ∧ (a1 = 10 → (∃ w13 : Nat, M.2.2 0 0 3 = some (23 + w13) ∧ w13 < 2 ∧ (Q (M.1 23 w13 4) M))) ∧ (a1 = 11 → (Q (M.1 0 0 1) M)) ∧ (a1 = 12 → (Q (M.1 21 0 2) M)) ∧ (¬ a1 = 0 → ¬ a1 = 1 → ¬ a1 = 2 → ¬ a1 = 3 → ¬ a1 = 4 → ¬ a1 = 5 → ¬ a1 = 6 → ¬ a1 = 7 → ¬ a1 = 8 → ¬ a1 = 9 → ¬ a1 = 10 → ¬ a1 = 11 → ¬ a1 = 12 → (Q (-1) M)))
set_option maxRecDepth 100000 in
set_option maxHeartbeats 4000000 in
theorem c_X10_count (l : Launch) (g : Geo) (gi : GI g) (a1 : Int32) (M : Mem) (Q : Int32 → Mem → Prop) (hw : p_X10_count a1 M Q) : Met l yX10_count (Cond.code yX10_count cX10_count 2 (some .int) :: bg) ({ frames := 2, cells := 0, slots := 0, locals := 42 } : Room) (va_Pc [.ref (g.2.1 (0 + 0)), .int a1] (PW g (xw g M))) (va_Qi Q (PB g (xw g)) (Af 0 g)) 0 0 (Af 0 g) := by
  refine Met.ofW (cc := cX10_count) (maxL := 2) (ret := (some .int)) (by decide +kernel) rfl ?_
  intro p e s m args below meth c s₁ B hml hv
  obtain ⟨rfl, hv⟩ := hv
  have C := CX.start (own := RX10) B hml rfl gi hv
  have hP := hv.1
  have hS : va_S (Af 0 g) s.heap s.heap [] := va_S.rf
  have hl := lv_entry ([.ref (g.2.1 (0 + 0)), .int a1]) (n := 2) (Nat.le_of_ble_eq_true rfl)
  rw [lg_entry_eq]
  generalize (lg_sl ([.ref (g.2.1 (0 + 0)), .int a1]) ++ List.replicate (2 - (lg_sl ([.ref (g.2.1 (0 + 0)), .int a1])).length) Slot.unset).toArray = ls at hl ⊢
  have hl : lv_has ls 2 [(0, .ref (g.2.1 (0 + 0))), (1, .int a1)] := hl
  unfold p_X10_count at hw
  refine lv_iload_n C.1 C.2.1 dX10_count_0 rfl (lv_at hl 1 rfl) ?_
  by_cases q1_0 : a1 = 0
  · have hw := hw.1 q1_0
    refine lv_tableIn (tgt := 68) (off := 67) C.1 C.2.1 dX10_count_1 (by rw [q1_0]; decide) (by rw [q1_0]; decide) (by rw [q1_0]; decide +kernel) (by decide) ?_
    refine lv_aload_n C.1 C.2.1 dX10_count_68 rfl (lv_at hl 0 rfl) ?_
    obtain ⟨w2, h2, hb2, hw⟩ := hw
    refine gX10_23f C hP Nat.zero_lt_one h2 dX10_count_69 ?_
    refine gX10_135 C hP hb2 dX10_count_72 ?_
    exact retI (wf := (xw g)) C hP hS hw dX10_count_75
  by_cases q1_1 : a1 = 1
  · have hw := hw.2.1 q1_1
    refine lv_tableIn (tgt := 76) (off := 75) C.1 C.2.1 dX10_count_1 (by rw [q1_1]; decide) (by rw [q1_1]; decide) (by rw [q1_1]; decide +kernel) (by decide) ?_
    refine lv_aload_n C.1 C.2.1 dX10_count_76 rfl (lv_at hl 0 rfl) ?_
    obtain ⟨w3, h3, hb3, hw⟩ := hw
    refine gX10_23f C hP Nat.zero_lt_one h3 dX10_count_77 ?_
    refine goI (wf := (xw g)) (runV (w := xw g M) (As := []) (rest := []) C lkX10_439 (c_X9_howManyHeard l g C.2.2.2.2.2.2.2.2.2.2 w3 hb3 M _ hw) hP hS rfl rfl ⟨Nat.le_of_ble_eq_true rfl, Nat.le_of_ble_eq_true rfl⟩ (xx_23 hb3) rfl rfl hl.1 rfl (Nat.le_of_ble_eq_true rfl) dX10_count_80) hS (fun r4 M4 hw H locs hP hS => ?_)
    exact retI (wf := (xw g)) C hP hS hw dX10_count_83
  by_cases q1_2 : a1 = 2
  · have hw := hw.2.2.1 q1_2
    refine lv_tableIn (tgt := 84) (off := 83) C.1 C.2.1 dX10_count_1 (by rw [q1_2]; decide) (by rw [q1_2]; decide) (by rw [q1_2]; decide +kernel) (by decide) ?_
    refine lv_aload_n C.1 C.2.1 dX10_count_84 rfl (lv_at hl 0 rfl) ?_
    refine gX10_47 C hP Nat.zero_lt_one dX10_count_85 ?_
    refine gX10_274 C hP (Nat.le_of_ble_eq_true rfl) dX10_count_88 ?_
    exact retI (wf := (xw g)) C hP hS hw dX10_count_91
  by_cases q1_3 : a1 = 3
  · have hw := hw.2.2.2.1 q1_3
    refine lv_tableIn (tgt := 92) (off := 91) C.1 C.2.1 dX10_count_1 (by rw [q1_3]; decide) (by rw [q1_3]; decide) (by rw [q1_3]; decide +kernel) (by decide) ?_
    refine lv_aload_n C.1 C.2.1 dX10_count_92 rfl (lv_at hl 0 rfl) ?_
    refine gX10_47 C hP Nat.zero_lt_one dX10_count_93 ?_
    refine goI (wf := (xw g)) (runV (w := xw g M) (As := []) (rest := []) C lkX10_371 (c_X8_howManyLost l g C.2.2.2.2.2.2.2.2.2.2 0 (Nat.le_of_ble_eq_true rfl) M _ hw) hP hS rfl rfl ⟨Nat.le_of_ble_eq_true rfl, Nat.le_of_ble_eq_true rfl⟩ (xx_27 (Nat.le_of_ble_eq_true rfl)) rfl rfl hl.1 rfl (Nat.le_of_ble_eq_true rfl) dX10_count_96) hS (fun r5 M5 hw H locs hP hS => ?_)
    exact retI (wf := (xw g)) C hP hS hw dX10_count_99
  by_cases q1_4 : a1 = 4
  · have hw := hw.2.2.2.2.1 q1_4
    refine lv_tableIn (tgt := 100) (off := 99) C.1 C.2.1 dX10_count_1 (by rw [q1_4]; decide) (by rw [q1_4]; decide) (by rw [q1_4]; decide +kernel) (by decide) ?_
    refine lv_aload_n C.1 C.2.1 dX10_count_100 rfl (lv_at hl 0 rfl) ?_
    obtain ⟨w6, h6, hb6, hw⟩ := hw
    refine gX10_23f C hP Nat.zero_lt_one h6 dX10_count_101 ?_
    refine gX10_442 C hP hb6 dX10_count_104 ?_
    exact retI (wf := (xw g)) C hP hS hw dX10_count_107
  by_cases q1_5 : a1 = 5
  · have hw := hw.2.2.2.2.2.1 q1_5
    refine lv_tableIn (tgt := 108) (off := 107) C.1 C.2.1 dX10_count_1 (by rw [q1_5]; decide) (by rw [q1_5]; decide) (by rw [q1_5]; decide +kernel) (by decide) ?_
    refine lv_aload_n C.1 C.2.1 dX10_count_108 rfl (lv_at hl 0 rfl) ?_
    obtain ⟨w7, h7, hb7, hw⟩ := hw
    refine gX10_23f C hP Nat.zero_lt_one h7 dX10_count_109 ?_
    refine goI (wf := (xw g)) (runV (w := xw g M) (As := []) (rest := []) C lkX10_445 (c_X9_howManyPlaced l g C.2.2.2.2.2.2.2.2.2.2 w7 hb7 M _ hw) hP hS rfl rfl ⟨Nat.le_of_ble_eq_true rfl, Nat.le_of_ble_eq_true rfl⟩ (xx_23 hb7) rfl rfl hl.1 rfl (Nat.le_of_ble_eq_true rfl) dX10_count_112) hS (fun r8 M8 hw H locs hP hS => ?_)
    exact retI (wf := (xw g)) C hP hS hw dX10_count_115
  by_cases q1_6 : a1 = 6
  · have hw := hw.2.2.2.2.2.2.1 q1_6
    refine lv_tableIn (tgt := 116) (off := 115) C.1 C.2.1 dX10_count_1 (by rw [q1_6]; decide) (by rw [q1_6]; decide) (by rw [q1_6]; decide +kernel) (by decide) ?_
    refine lv_aload_n C.1 C.2.1 dX10_count_116 rfl (lv_at hl 0 rfl) ?_
    refine gX10_47 C hP Nat.zero_lt_one dX10_count_117 ?_
    refine goI (wf := (xw g)) (runV (w := xw g M) (As := []) (rest := []) C lkX10_448 (c_X8_howManyRanges l g C.2.2.2.2.2.2.2.2.2.2 0 (Nat.le_of_ble_eq_true rfl) M _ hw) hP hS rfl rfl ⟨Nat.le_of_ble_eq_true rfl, Nat.le_of_ble_eq_true rfl⟩ (xx_27 (Nat.le_of_ble_eq_true rfl)) rfl rfl hl.1 rfl (Nat.le_of_ble_eq_true rfl) dX10_count_120) hS (fun r9 M9 hw H locs hP hS => ?_)
    exact retI (wf := (xw g)) C hP hS hw dX10_count_123
  by_cases q1_7 : a1 = 7
  · have hw := hw.2.2.2.2.2.2.2.1 q1_7
    refine lv_tableIn (tgt := 124) (off := 123) C.1 C.2.1 dX10_count_1 (by rw [q1_7]; decide) (by rw [q1_7]; decide) (by rw [q1_7]; decide +kernel) (by decide) ?_
    refine lv_aload_n C.1 C.2.1 dX10_count_124 rfl (lv_at hl 0 rfl) ?_
    obtain ⟨w10, h10, hb10, hw⟩ := hw
    refine gX10_23f C hP Nat.zero_lt_one h10 dX10_count_125 ?_
    refine gX10_258 C hP hb10 dX10_count_128 ?_
    exact retI (wf := (xw g)) C hP hS hw dX10_count_131
  by_cases q1_8 : a1 = 8
  · have hw := hw.2.2.2.2.2.2.2.2.1 q1_8
    refine lv_tableIn (tgt := 132) (off := 131) C.1 C.2.1 dX10_count_1 (by rw [q1_8]; decide) (by rw [q1_8]; decide) (by rw [q1_8]; decide +kernel) (by decide) ?_
    refine lv_aload_n C.1 C.2.1 dX10_count_132 rfl (lv_at hl 0 rfl) ?_
    obtain ⟨w11, h11, hb11, hw⟩ := hw
    refine gX10_23f C hP Nat.zero_lt_one h11 dX10_count_133 ?_
    refine gX10_222 C hP hb11 dX10_count_136 ?_
    exact retI (wf := (xw g)) C hP hS hw dX10_count_139
  by_cases q1_9 : a1 = 9
  · have hw := hw.2.2.2.2.2.2.2.2.2.1 q1_9
    refine lv_tableIn (tgt := 140) (off := 139) C.1 C.2.1 dX10_count_1 (by rw [q1_9]; decide) (by rw [q1_9]; decide) (by rw [q1_9]; decide +kernel) (by decide) ?_
    refine lv_aload_n C.1 C.2.1 dX10_count_140 rfl (lv_at hl 0 rfl) ?_
    obtain ⟨w12, h12, hb12, hw⟩ := hw
    refine gX10_23f C hP Nat.zero_lt_one h12 dX10_count_141 ?_
    refine gX10_451 C hP hb12 dX10_count_144 ?_
    exact retI (wf := (xw g)) C hP hS hw dX10_count_147
  by_cases q1_10 : a1 = 10
  · have hw := hw.2.2.2.2.2.2.2.2.2.2.1 q1_10
    refine lv_tableIn (tgt := 148) (off := 147) C.1 C.2.1 dX10_count_1 (by rw [q1_10]; decide) (by rw [q1_10]; decide) (by rw [q1_10]; decide +kernel) (by decide) ?_
    refine lv_aload_n C.1 C.2.1 dX10_count_148 rfl (lv_at hl 0 rfl) ?_
    obtain ⟨w13, h13, hb13, hw⟩ := hw
    refine gX10_23f C hP Nat.zero_lt_one h13 dX10_count_149 ?_
    refine gX10_454 C hP hb13 dX10_count_152 ?_
    exact retI (wf := (xw g)) C hP hS hw dX10_count_155
  by_cases q1_11 : a1 = 11
  · have hw := hw.2.2.2.2.2.2.2.2.2.2.2.1 q1_11
    refine lv_tableIn (tgt := 156) (off := 155) C.1 C.2.1 dX10_count_1 (by rw [q1_11]; decide) (by rw [q1_11]; decide) (by rw [q1_11]; decide +kernel) (by decide) ?_
    refine lv_aload_n C.1 C.2.1 dX10_count_156 rfl (lv_at hl 0 rfl) ?_
    refine gX10_78 C hP Nat.zero_lt_one dX10_count_157 ?_
    exact retI (wf := (xw g)) C hP hS hw dX10_count_160
  by_cases q1_12 : a1 = 12
  · have hw := hw.2.2.2.2.2.2.2.2.2.2.2.2.1 q1_12
    refine lv_tableIn (tgt := 161) (off := 160) C.1 C.2.1 dX10_count_1 (by rw [q1_12]; decide) (by rw [q1_12]; decide) (by rw [q1_12]; decide +kernel) (by decide) ?_
    refine lv_aload_n C.1 C.2.1 dX10_count_161 rfl (lv_at hl 0 rfl) ?_
    refine gX10_60 C hP Nat.zero_lt_one dX10_count_162 ?_
    refine gX10_433 C hP Nat.zero_lt_one dX10_count_165 ?_
    exact retI (wf := (xw g)) C hP hS hw dX10_count_168
  have hw := hw.2.2.2.2.2.2.2.2.2.2.2.2.2 q1_0 q1_1 q1_2 q1_3 q1_4 q1_5 q1_6 q1_7 q1_8 q1_9 q1_10 q1_11 q1_12
  have n1_0 : a1.toInt ≠ 0 := tsw q1_0
  have n1_1 : a1.toInt ≠ 1 := tsw q1_1
  have n1_2 : a1.toInt ≠ 2 := tsw q1_2
  have n1_3 : a1.toInt ≠ 3 := tsw q1_3
  have n1_4 : a1.toInt ≠ 4 := tsw q1_4
  have n1_5 : a1.toInt ≠ 5 := tsw q1_5
  have n1_6 : a1.toInt ≠ 6 := tsw q1_6
  have n1_7 : a1.toInt ≠ 7 := tsw q1_7
  have n1_8 : a1.toInt ≠ 8 := tsw q1_8
  have n1_9 : a1.toInt ≠ 9 := tsw q1_9
  have n1_10 : a1.toInt ≠ 10 := tsw q1_10
  have n1_11 : a1.toInt ≠ 11 := tsw q1_11
  have n1_12 : a1.toInt ≠ 12 := tsw q1_12
  refine lv_tableOut (tgt := 169) C.1 C.2.1 dX10_count_1 (by omega) (by decide) ?_
  refine lv_iconst (v := (-1)) C.1 C.2.1 dX10_count_169 (by decide) ?_
  exact retI (wf := (xw g)) C hP hS hw dX10_count_170
def p_X11_thrown (M : Mem) (Q : Int32 → Mem → Prop) : Prop := (Q (M.1 40 0 2) M)
set_option maxRecDepth 100000 in
set_option maxHeartbeats 4000000 in
theorem c_X11_thrown (l : Launch) (g : Geo) (gi : GI g) (M : Mem) (Q : Int32 → Mem → Prop) (hw : p_X11_thrown  M Q) : Met l yX11_thrown (Cond.code yX11_thrown cX11_thrown 1 (some .int) :: bg) ({ frames := 0, cells := 0, slots := 0, locals := 0 } : Room) (va_Pc [.ref (g.2.1 (138 + 0))] (PW g (yw g M))) (va_Qi Q (PB g (yw g)) (Af 1 g)) 0 0 (Af 1 g) := by
  refine Met.ofW (cc := cX11_thrown) (maxL := 1) (ret := (some .int)) (by decide +kernel) rfl ?_
  intro p e s m args below meth c s₁ B hml hv
  obtain ⟨rfl, hv⟩ := hv
  have C := CX.start (own := RX11) B hml rfl gi hv
  have hP := hv.1
  have hS : va_S (Af 1 g) s.heap s.heap [] := va_S.rf
  have hl := lv_entry ([.ref (g.2.1 (138 + 0))]) (n := 1) (Nat.le_of_ble_eq_true rfl)
  rw [lg_entry_eq]
  generalize (lg_sl ([.ref (g.2.1 (138 + 0))]) ++ List.replicate (1 - (lg_sl ([.ref (g.2.1 (138 + 0))])).length) Slot.unset).toArray = ls at hl ⊢
  have hl : lv_has ls 1 [(0, .ref (g.2.1 (138 + 0)))] := hl
  unfold p_X11_thrown at hw
  refine lv_aload_n C.1 C.2.1 dX11_thrown_0 rfl (lv_at hl 0 rfl) ?_
  refine gX11_76 C hP Nat.zero_lt_one dX11_thrown_1 ?_
  exact retI (wf := (yw g)) C hP hS hw dX11_thrown_4
def b_X11_feed_113 (Q : Int32 → Mem → Prop) (M : Mem) : Prop := (∀ M4 : Mem, M4 = sI M 40 0 1 ((M.1 40 0 1) + 20) → (Q (M4.1 40 0 1) M4))
set_option maxRecDepth 100000 in
set_option maxHeartbeats 4000000 in
theorem k_X11_feed_113 {p : Program} {l : Launch} {e : Env} {s : State} {m : MethodId} {args : Array Value} {below : List Frame} {meth : Method} {c : Code} {g : Geo} (C : CX g p s m args meth c cX11_feed 8 (some .int) RX11) {Q : Int32 → Mem → Prop} (M : Mem) (hw : b_X11_feed_113 Q M) {H : Heap} {locs : List Loc} {ls : Array Slot} (hl : lv_has ls 8 [(0, .ref (g.2.1 (138 + 0)))]) (hP : va_P g.1 clz (yw g M) H) (hS : va_S (Af 1 g) s.heap H locs) : W p l e ({ frames := 0, cells := 0, slots := 0, locals := 0 } : Room) s m args below meth c H locs 0 0 (MQ below (va_Qi Q (PB g (yw g)) (Af 1 g)) args s 0 0 (Af 1 g)) (F0 m 113 ls []) := by
  unfold b_X11_feed_113 at hw
  refine lv_aload_n C.1 C.2.1 dX11_feed_113 rfl (lv_at hl 0 rfl) ?_
  refine lv_dup C.1 C.2.1 dX11_feed_114 rfl ?_
  refine gX11_79 C hP Nat.zero_lt_one dX11_feed_115 ?_
  refine lv_bipush (v := 20) C.1 C.2.1 dX11_feed_118 (by decide) ?_
  refine lv_iadd C.1 C.2.1 dX11_feed_120 ?_
  refine pX11_79 C hP hS Nat.zero_lt_one dX11_feed_121 (fun M4 e4 H locs hP hS => ?_)
  have hw := hw M4 e4
  refine lv_aload_n C.1 C.2.1 dX11_feed_124 rfl (lv_at hl 0 rfl) ?_
  refine gX11_79 C hP Nat.zero_lt_one dX11_feed_125 ?_
  exact retI (wf := (yw g)) C hP hS hw dX11_feed_128
def b_X11_feed_76 (Q : Int32 → Mem → Prop) (k23 : Int32 → Int32 → Int32 → Int32 → Int32 → Int32 → Mem → Prop) (v1 : Int32) (v2 : Int32) (v3 : Int32) (v4 : Int32) (v5 : Int32) (v6 : Int32) (s0 : Int32) (M : Mem) : Prop := (vp_in ((M.1 40 0 1) + v6) 700 ∧ (∀ M9 : Mem, M9 = sI M 41 0 (((M.1 40 0 1) + v6) : Int32).toNatClampNeg ((s0 >>> (((24 : Int32) - ((8 : Int32) * (v6 - v6 / 4 * 4))) &&& 31)) &&& 255) → (∀ x10 : Int32, x10 = (v6 + 1) → (k23 v1 v2 v3 v4 v5 x10 M9))))
set_option maxRecDepth 100000 in
set_option maxHeartbeats 4000000 in
theorem k_X11_feed_76 {p : Program} {l : Launch} {e : Env} {s : State} {m : MethodId} {args : Array Value} {below : List Frame} {meth : Method} {c : Code} {g : Geo} (C : CX g p s m args meth c cX11_feed 8 (some .int) RX11) {Q : Int32 → Mem → Prop} {k23 : Int32 → Int32 → Int32 → Int32 → Int32 → Int32 → Mem → Prop} (hk23 : ∀ (v1 : Int32) (v2 : Int32) (v3 : Int32) (v4 : Int32) (v5 : Int32) (v6 : Int32) (M : Mem), k23 v1 v2 v3 v4 v5 v6 M → ∀ (H : Heap) (locs : List Loc) (ls : Array Slot), lv_has ls 8 [(0, .ref (g.2.1 (138 + 0))), (1, .int v1), (2, .int v2), (3, .int v3), (4, .int v4), (5, .int v5), (6, .int v6)] → va_P g.1 clz (yw g M) H → va_S (Af 1 g) s.heap H locs → W p l e ({ frames := 0, cells := 0, slots := 0, locals := 0 } : Room) s m args below meth c H locs 0 0 (MQ below (va_Qi Q (PB g (yw g)) (Af 1 g)) args s 0 0 (Af 1 g)) (F0 m 23 ls [])) (v1 : Int32) (v2 : Int32) (v3 : Int32) (v4 : Int32) (v5 : Int32) (v6 : Int32) (s0 : Int32) (M : Mem) (hw : b_X11_feed_76 Q k23 v1 v2 v3 v4 v5 v6 s0 M) {H : Heap} {locs : List Loc} {ls : Array Slot} (hl : lv_has ls 8 [(0, .ref (g.2.1 (138 + 0))), (1, .int v1), (2, .int v2), (3, .int v3), (4, .int v4), (5, .int v5), (6, .int v6)]) (hP : va_P g.1 clz (yw g M) H) (hS : va_S (Af 1 g) s.heap H locs) : W p l e ({ frames := 0, cells := 0, slots := 0, locals := 0 } : Room) s m args below meth c H locs 0 0 (MQ below (va_Qi Q (PB g (yw g)) (Af 1 g)) args s 0 0 (Af 1 g)) (F0 m 76 ls [.int s0]) := by
  unfold b_X11_feed_76 at hw
  refine lv_istore (lv' := [(7, .int s0), (0, .ref (g.2.1 (138 + 0))), (1, .int v1), (2, .int v2), (3, .int v3), (4, .int v4), (5, .int v5), (6, .int v6)]) C.1 C.2.1 dX11_feed_76 hl (by decide) rfl (fun ls hl => ?_)
  refine lv_aload_n C.1 C.2.1 dX11_feed_78 rfl (lv_at hl 1 rfl) ?_
  refine gX11_7 C hP Nat.zero_lt_one dX11_feed_79 ?_
  refine lv_aload_n C.1 C.2.1 dX11_feed_82 rfl (lv_at hl 1 rfl) ?_
  refine gX11_79 C hP Nat.zero_lt_one dX11_feed_83 ?_
  refine lv_iload C.1 C.2.1 dX11_feed_86 (lv_at hl 7 rfl) ?_
  refine lv_iadd C.1 C.2.1 dX11_feed_88 ?_
  refine lv_iload C.1 C.2.1 dX11_feed_89 (lv_at hl 0 rfl) ?_
  refine lv_bipush (v := 24) C.1 C.2.1 dX11_feed_91 (by decide) ?_
  refine lv_bipush (v := 8) C.1 C.2.1 dX11_feed_93 (by decide) ?_
  refine lv_iload C.1 C.2.1 dX11_feed_95 (lv_at hl 7 rfl) ?_
  refine lv_iconst (v := 4) C.1 C.2.1 dX11_feed_97 (by decide) ?_
  refine lv_irem C.1 C.2.1 dX11_feed_98 (by decide) ?_
  refine lv_imul C.1 C.2.1 dX11_feed_99 ?_
  refine lv_isub C.1 C.2.1 dX11_feed_100 ?_
  refine lv_ishr C.1 C.2.1 dX11_feed_101 ?_
  refine lv_sipush (v := 255) C.1 C.2.1 dX11_feed_102 (by decide) ?_
  refine lv_iand C.1 C.2.1 dX11_feed_105 ?_
  obtain ⟨h9, hw⟩ := hw
  refine as_41 C hP hS Nat.zero_lt_one h9 dX11_feed_106 (fun M9 e9 H locs hP hS => ?_)
  have hw := hw M9 e9
  obtain ⟨x10, e10⟩ : ∃ y : Int32, y = (v6 + 1) := ⟨_, rfl⟩
  have hw := hw x10 e10
  refine lv_iinc (v := x10) (lv' := [(6, .int x10), (7, .int s0), (0, .ref (g.2.1 (138 + 0))), (1, .int v1), (2, .int v2), (3, .int v3), (4, .int v4), (5, .int v5)]) C.1 C.2.1 dX11_feed_107 hl (k := 7) rfl (by rw [e10]; rfl) (by decide) rfl (fun ls hl => ?_)
  refine lv_goto (tgt := 23) C.1 C.2.1 dX11_feed_110 (by decide) ?_
  exact hk23 v1 v2 v3 v4 v5 x10  _ hw _ _ _ (lv_sub hl [2, 3, 4, 5, 6, 7, 0] rfl) hP hS
def b_X11_feed_23 (Q : Int32 → Mem → Prop) : Nat → Int32 → Int32 → Int32 → Int32 → Int32 → Int32 → Mem → Prop
  | 0, _, _, _, _, _, _, _ => False
  | n + 1, v1, v2, v3, v4, v5, v6, M => ((20 ≤ v6 → (b_X11_feed_113 Q  M)) ∧ (¬ 20 ≤ v6 → ((4 ≤ v6 → ((8 ≤ v6 → ((12 ≤ v6 → ((16 ≤ v6 → (b_X11_feed_76 Q (fun v1 v2 v3 v4 v5 v6 M => b_X11_feed_23 Q n v1 v2 v3 v4 v5 v6 M) v1 v2 v3 v4 v5 v6 v5 M)) ∧ (¬ 16 ≤ v6 → (b_X11_feed_76 Q (fun v1 v2 v3 v4 v5 v6 M => b_X11_feed_23 Q n v1 v2 v3 v4 v5 v6 M) v1 v2 v3 v4 v5 v6 v4 M)))) ∧ (¬ 12 ≤ v6 → (b_X11_feed_76 Q (fun v1 v2 v3 v4 v5 v6 M => b_X11_feed_23 Q n v1 v2 v3 v4 v5 v6 M) v1 v2 v3 v4 v5 v6 v3 M)))) ∧ (¬ 8 ≤ v6 → (b_X11_feed_76 Q (fun v1 v2 v3 v4 v5 v6 M => b_X11_feed_23 Q n v1 v2 v3 v4 v5 v6 M) v1 v2 v3 v4 v5 v6 v2 M)))) ∧ (¬ 4 ≤ v6 → (b_X11_feed_76 Q (fun v1 v2 v3 v4 v5 v6 M => b_X11_feed_23 Q n v1 v2 v3 v4 v5 v6 M) v1 v2 v3 v4 v5 v6 v1 M)))))
set_option maxRecDepth 100000 in
set_option maxHeartbeats 4000000 in
theorem k_X11_feed_23 {p : Program} {l : Launch} {e : Env} {s : State} {m : MethodId} {args : Array Value} {below : List Frame} {meth : Method} {c : Code} {g : Geo} (C : CX g p s m args meth c cX11_feed 8 (some .int) RX11) {Q : Int32 → Mem → Prop} : ∀ (n : Nat) (v1 : Int32) (v2 : Int32) (v3 : Int32) (v4 : Int32) (v5 : Int32) (v6 : Int32) (M : Mem) (hw : b_X11_feed_23 Q n v1 v2 v3 v4 v5 v6 M) {H : Heap} {locs : List Loc} {ls : Array Slot} (hl : lv_has ls 8 [(0, .ref (g.2.1 (138 + 0))), (1, .int v1), (2, .int v2), (3, .int v3), (4, .int v4), (5, .int v5), (6, .int v6)]) (hP : va_P g.1 clz (yw g M) H) (hS : va_S (Af 1 g) s.heap H locs), W p l e ({ frames := 0, cells := 0, slots := 0, locals := 0 } : Room) s m args below meth c H locs 0 0 (MQ below (va_Qi Q (PB g (yw g)) (Af 1 g)) args s 0 0 (Af 1 g)) (F0 m 23 ls []) := by
  intro n
  induction n with
  | zero => intro v1 v2 v3 v4 v5 v6 M hw H locs ls hl hP hS; exact absurd hw (by rw [b_X11_feed_23]; exact fun h => h)
  | succ n ih =>
    intro v1 v2 v3 v4 v5 v6 M hw H locs ls hl hP hS
    rw [b_X11_feed_23] at hw
    refine lv_iload C.1 C.2.1 dX11_feed_23 (lv_at hl 6 rfl) ?_
    refine lv_bipush (v := 20) C.1 C.2.1 dX11_feed_25 (by decide) ?_
    refine lv_icmp_ge (tgt := 113) C.1 C.2.1 dX11_feed_27 (by decide) (fun h3 => ?_) (fun h3 => ?_)
    · have hw := hw.1 h3
      exact k_X11_feed_113 (Q := Q) C   _ hw (lv_sub hl [0] rfl) hP hS
    · have hw := hw.2 h3
      refine lv_iload C.1 C.2.1 dX11_feed_30 (lv_at hl 6 rfl) ?_
      refine lv_iconst (v := 4) C.1 C.2.1 dX11_feed_32 (by decide) ?_
      refine lv_icmp_ge (tgt := 40) C.1 C.2.1 dX11_feed_33 (by decide) (fun h5 => ?_) (fun h5 => ?_)
      · have hw := hw.1 h5
        refine lv_iload C.1 C.2.1 dX11_feed_40 (lv_at hl 6 rfl) ?_
        refine lv_bipush (v := 8) C.1 C.2.1 dX11_feed_42 (by decide) ?_
        refine lv_icmp_ge (tgt := 51) C.1 C.2.1 dX11_feed_44 (by decide) (fun h6 => ?_) (fun h6 => ?_)
        · have hw := hw.1 h6
          refine lv_iload C.1 C.2.1 dX11_feed_51 (lv_at hl 6 rfl) ?_
          refine lv_bipush (v := 12) C.1 C.2.1 dX11_feed_53 (by decide) ?_
          refine lv_icmp_ge (tgt := 62) C.1 C.2.1 dX11_feed_55 (by decide) (fun h7 => ?_) (fun h7 => ?_)
          · have hw := hw.1 h7
            refine lv_iload C.1 C.2.1 dX11_feed_62 (lv_at hl 6 rfl) ?_
            refine lv_bipush (v := 16) C.1 C.2.1 dX11_feed_64 (by decide) ?_
            refine lv_icmp_ge (tgt := 74) C.1 C.2.1 dX11_feed_66 (by decide) (fun h8 => ?_) (fun h8 => ?_)
            · have hw := hw.1 h8
              refine lv_iload C.1 C.2.1 dX11_feed_74 (lv_at hl 5 rfl) ?_
              exact k_X11_feed_76 (Q := Q) C (fun v1 v2 v3 v4 v5 v6  M hw H locs ls hl hP hS => ih v1 v2 v3 v4 v5 v6  M hw hl hP hS) v1 v2 v3 v4 v5 v6 v5  _ hw (lv_sub hl [0, 1, 2, 3, 4, 5, 6] rfl) hP hS
            · have hw := hw.2 h8
              refine lv_iload C.1 C.2.1 dX11_feed_69 (lv_at hl 4 rfl) ?_
              refine lv_goto (tgt := 76) C.1 C.2.1 dX11_feed_71 (by decide) ?_
              exact k_X11_feed_76 (Q := Q) C (fun v1 v2 v3 v4 v5 v6  M hw H locs ls hl hP hS => ih v1 v2 v3 v4 v5 v6  M hw hl hP hS) v1 v2 v3 v4 v5 v6 v4  _ hw (lv_sub hl [0, 1, 2, 3, 4, 5, 6] rfl) hP hS
          · have hw := hw.2 h7
            refine lv_iload_n C.1 C.2.1 dX11_feed_58 rfl (lv_at hl 3 rfl) ?_
            refine lv_goto (tgt := 76) C.1 C.2.1 dX11_feed_59 (by decide) ?_
            exact k_X11_feed_76 (Q := Q) C (fun v1 v2 v3 v4 v5 v6  M hw H locs ls hl hP hS => ih v1 v2 v3 v4 v5 v6  M hw hl hP hS) v1 v2 v3 v4 v5 v6 v3  _ hw (lv_sub hl [0, 1, 2, 3, 4, 5, 6] rfl) hP hS
        · have hw := hw.2 h6
          refine lv_iload_n C.1 C.2.1 dX11_feed_47 rfl (lv_at hl 2 rfl) ?_
          refine lv_goto (tgt := 76) C.1 C.2.1 dX11_feed_48 (by decide) ?_
          exact k_X11_feed_76 (Q := Q) C (fun v1 v2 v3 v4 v5 v6  M hw H locs ls hl hP hS => ih v1 v2 v3 v4 v5 v6  M hw hl hP hS) v1 v2 v3 v4 v5 v6 v2  _ hw (lv_sub hl [0, 1, 2, 3, 4, 5, 6] rfl) hP hS
      · have hw := hw.2 h5
        refine lv_iload_n C.1 C.2.1 dX11_feed_36 rfl (lv_at hl 1 rfl) ?_
        refine lv_goto (tgt := 76) C.1 C.2.1 dX11_feed_37 (by decide) ?_
        exact k_X11_feed_76 (Q := Q) C (fun v1 v2 v3 v4 v5 v6  M hw H locs ls hl hP hS => ih v1 v2 v3 v4 v5 v6  M hw hl hP hS) v1 v2 v3 v4 v5 v6 v1  _ hw (lv_sub hl [0, 1, 2, 3, 4, 5, 6] rfl) hP hS
def p_X11_feed (a1 : Int32) (a2 : Int32) (a3 : Int32) (a4 : Int32) (a5 : Int32) (M : Mem) (Q : Int32 → Mem → Prop) : Prop := (∀ M1 : Mem, M1 = sI M 40 0 2 0 → ((((M1.1 40 0 1) + 20) ≤ 700 → (∃ n23 : Nat, b_X11_feed_23 Q n23 a1 a2 a3 a4 a5 0 M1)) ∧ (¬ ((M1.1 40 0 1) + 20) ≤ 700 → (Q (-1) M1))))
set_option maxRecDepth 100000 in
set_option maxHeartbeats 4000000 in
theorem c_X11_feed (l : Launch) (g : Geo) (gi : GI g) (a1 : Int32) (a2 : Int32) (a3 : Int32) (a4 : Int32) (a5 : Int32) (M : Mem) (Q : Int32 → Mem → Prop) (hw : p_X11_feed a1 a2 a3 a4 a5 M Q) : Met l yX11_feed (Cond.code yX11_feed cX11_feed 8 (some .int) :: bg) ({ frames := 0, cells := 0, slots := 0, locals := 0 } : Room) (va_Pc [.ref (g.2.1 (138 + 0)), .int a1, .int a2, .int a3, .int a4, .int a5] (PW g (yw g M))) (va_Qi Q (PB g (yw g)) (Af 1 g)) 0 0 (Af 1 g) := by
  refine Met.ofW (cc := cX11_feed) (maxL := 8) (ret := (some .int)) (by decide +kernel) rfl ?_
  intro p e s m args below meth c s₁ B hml hv
  obtain ⟨rfl, hv⟩ := hv
  have C := CX.start (own := RX11) B hml rfl gi hv
  have hP := hv.1
  have hS : va_S (Af 1 g) s.heap s.heap [] := va_S.rf
  have hl := lv_entry ([.ref (g.2.1 (138 + 0)), .int a1, .int a2, .int a3, .int a4, .int a5]) (n := 8) (Nat.le_of_ble_eq_true rfl)
  rw [lg_entry_eq]
  generalize (lg_sl ([.ref (g.2.1 (138 + 0)), .int a1, .int a2, .int a3, .int a4, .int a5]) ++ List.replicate (8 - (lg_sl ([.ref (g.2.1 (138 + 0)), .int a1, .int a2, .int a3, .int a4, .int a5])).length) Slot.unset).toArray = ls at hl ⊢
  have hl : lv_has ls 8 [(0, .ref (g.2.1 (138 + 0))), (1, .int a1), (2, .int a2), (3, .int a3), (4, .int a4), (5, .int a5)] := hl
  unfold p_X11_feed at hw
  refine lv_aload_n C.1 C.2.1 dX11_feed_0 rfl (lv_at hl 0 rfl) ?_
  refine lv_iconst (v := 0) C.1 C.2.1 dX11_feed_1 (by decide) ?_
  refine pX11_76 C hP hS Nat.zero_lt_one dX11_feed_2 (fun M1 e1 H locs hP hS => ?_)
  have hw := hw M1 e1
  refine lv_aload_n C.1 C.2.1 dX11_feed_5 rfl (lv_at hl 0 rfl) ?_
  refine gX11_79 C hP Nat.zero_lt_one dX11_feed_6 ?_
  refine lv_bipush (v := 20) C.1 C.2.1 dX11_feed_9 (by decide) ?_
  refine lv_iadd C.1 C.2.1 dX11_feed_11 ?_
  refine lv_sipush (v := 700) C.1 C.2.1 dX11_feed_12 (by decide) ?_
  refine lv_icmp_le (tgt := 20) C.1 C.2.1 dX11_feed_15 (by decide) (fun h2 => ?_) (fun h2 => ?_)
  · have hw := hw.1 h2
    refine lv_iconst (v := 0) C.1 C.2.1 dX11_feed_20 (by decide) ?_
    refine lv_istore (lv' := [(6, .int 0), (0, .ref (g.2.1 (138 + 0))), (1, .int a1), (2, .int a2), (3, .int a3), (4, .int a4), (5, .int a5)]) C.1 C.2.1 dX11_feed_21 hl (by decide) rfl (fun ls hl => ?_)
    obtain ⟨n9, hw⟩ := hw
    exact k_X11_feed_23 (Q := Q) C n9 a1 a2 a3 a4 a5 0  _ hw (lv_sub hl [1, 2, 3, 4, 5, 6, 0] rfl) hP hS
  · have hw := hw.2 h2
    refine lv_iconst (v := (-1)) C.1 C.2.1 dX11_feed_18 (by decide) ?_
    exact retI (wf := (yw g)) C hP hS hw dX11_feed_19
def p_X11_isIn (a0 : Int32) (a1 : Int32) (a2 : Int32) (M : Mem) (Q : Int32 → Mem → Prop) : Prop := ((a0 < a1 → (Q 0 M)) ∧ (¬ a0 < a1 → ((a2 < a0 → (Q 0 M)) ∧ (¬ a2 < a0 → (Q 1 M)))))
set_option maxRecDepth 100000 in
set_option maxHeartbeats 4000000 in
theorem c_X11_isIn (l : Launch) (g : Geo) (gi : GI g) (a0 : Int32) (a1 : Int32) (a2 : Int32) (M : Mem) (Q : Int32 → Mem → Prop) (hw : p_X11_isIn a0 a1 a2 M Q) : Met l yX11_isIn (Cond.code yX11_isIn cX11_isIn 3 (some .boolean) :: bg) ({ frames := 0, cells := 0, slots := 0, locals := 0 } : Room) (va_Pc [.int a0, .int a1, .int a2] (PW g (yw g M))) (va_Qi (fun r M => Q r M ∧ narrow .boolean (.int r) = .int r) (PB g (yw g)) (Af 1 g)) 0 0 (Af 1 g) := by
  refine Met.ofW (cc := cX11_isIn) (maxL := 3) (ret := (some .boolean)) (by decide +kernel) rfl ?_
  intro p e s m args below meth c s₁ B hml hv
  obtain ⟨rfl, hv⟩ := hv
  have C := CX.start (own := RX11) B hml rfl gi hv
  have hP := hv.1
  have hS : va_S (Af 1 g) s.heap s.heap [] := va_S.rf
  have hl := lv_entry ([.int a0, .int a1, .int a2]) (n := 3) (Nat.le_of_ble_eq_true rfl)
  rw [lg_entry_eq]
  generalize (lg_sl ([.int a0, .int a1, .int a2]) ++ List.replicate (3 - (lg_sl ([.int a0, .int a1, .int a2])).length) Slot.unset).toArray = ls at hl ⊢
  have hl : lv_has ls 3 [(0, .int a0), (1, .int a1), (2, .int a2)] := hl
  unfold p_X11_isIn at hw
  refine lv_iload_n C.1 C.2.1 dX11_isIn_0 rfl (lv_at hl 0 rfl) ?_
  refine lv_iload_n C.1 C.2.1 dX11_isIn_1 rfl (lv_at hl 1 rfl) ?_
  refine lv_icmp_lt (tgt := 14) C.1 C.2.1 dX11_isIn_2 (by decide) (fun h1 => ?_) (fun h1 => ?_)
  · have hw := hw.1 h1
    refine lv_iconst (v := 0) C.1 C.2.1 dX11_isIn_14 (by decide) ?_
    exact retZ (wf := (yw g)) C hP hS rfl hw dX11_isIn_15
  · have hw := hw.2 h1
    refine lv_iload_n C.1 C.2.1 dX11_isIn_5 rfl (lv_at hl 0 rfl) ?_
    refine lv_iload_n C.1 C.2.1 dX11_isIn_6 rfl (lv_at hl 2 rfl) ?_
    refine lv_icmp_gt (tgt := 14) C.1 C.2.1 dX11_isIn_7 (by decide) (fun h2 => ?_) (fun h2 => ?_)
    · have hw := hw.1 h2
      refine lv_iconst (v := 0) C.1 C.2.1 dX11_isIn_14 (by decide) ?_
      exact retZ (wf := (yw g)) C hP hS rfl hw dX11_isIn_15
    · have hw := hw.2 h2
      refine lv_iconst (v := 1) C.1 C.2.1 dX11_isIn_10 (by decide) ?_
      refine lv_goto (tgt := 15) C.1 C.2.1 dX11_isIn_11 (by decide) ?_
      exact retZ (wf := (yw g)) C hP hS rfl hw dX11_isIn_15
def p_X11_wrong (a1 : Int32) (M : Mem) (Q : Int32 → Mem → Prop) : Prop := (∀ M1 : Mem, M1 = sI M 40 0 4 a1 → (∀ M2 : Mem, M2 = sI M1 40 0 5 (M1.1 40 0 10) → (Q 0 M2)))
set_option maxRecDepth 100000 in
set_option maxHeartbeats 4000000 in
theorem c_X11_wrong (l : Launch) (g : Geo) (gi : GI g) (a1 : Int32) (M : Mem) (Q : Int32 → Mem → Prop) (hw : p_X11_wrong a1 M Q) : Met l yX11_wrong (Cond.code yX11_wrong cX11_wrong 2 (some .boolean) :: bg) ({ frames := 0, cells := 0, slots := 0, locals := 0 } : Room) (va_Pc [.ref (g.2.1 (138 + 0)), .int a1] (PW g (yw g M))) (va_Qi (fun r M => Q r M ∧ narrow .boolean (.int r) = .int r) (PB g (yw g)) (Af 1 g)) 0 0 (Af 1 g) := by
  refine Met.ofW (cc := cX11_wrong) (maxL := 2) (ret := (some .boolean)) (by decide +kernel) rfl ?_
  intro p e s m args below meth c s₁ B hml hv
  obtain ⟨rfl, hv⟩ := hv
  have C := CX.start (own := RX11) B hml rfl gi hv
  have hP := hv.1
  have hS : va_S (Af 1 g) s.heap s.heap [] := va_S.rf
  have hl := lv_entry ([.ref (g.2.1 (138 + 0)), .int a1]) (n := 2) (Nat.le_of_ble_eq_true rfl)
  rw [lg_entry_eq]
  generalize (lg_sl ([.ref (g.2.1 (138 + 0)), .int a1]) ++ List.replicate (2 - (lg_sl ([.ref (g.2.1 (138 + 0)), .int a1])).length) Slot.unset).toArray = ls at hl ⊢
  have hl : lv_has ls 2 [(0, .ref (g.2.1 (138 + 0))), (1, .int a1)] := hl
  unfold p_X11_wrong at hw
  refine lv_aload_n C.1 C.2.1 dX11_wrong_0 rfl (lv_at hl 0 rfl) ?_
  refine lv_iload_n C.1 C.2.1 dX11_wrong_1 rfl (lv_at hl 1 rfl) ?_
  refine pX11_82 C hP hS Nat.zero_lt_one dX11_wrong_2 (fun M1 e1 H locs hP hS => ?_)
  have hw := hw M1 e1
  refine lv_aload_n C.1 C.2.1 dX11_wrong_5 rfl (lv_at hl 0 rfl) ?_
  refine lv_aload_n C.1 C.2.1 dX11_wrong_6 rfl (lv_at hl 0 rfl) ?_
  refine gX11_85 C hP Nat.zero_lt_one dX11_wrong_7 ?_
  refine pX11_16 C hP hS Nat.zero_lt_one dX11_wrong_10 (fun M2 e2 H locs hP hS => ?_)
  have hw := hw M2 e2
  refine lv_iconst (v := 0) C.1 C.2.1 dX11_wrong_13 (by decide) ?_
  exact retZ (wf := (yw g)) C hP hS rfl hw dX11_wrong_14
def b_X11_wordAt_104 (Q : Int32 → Mem → Prop) (k5 : Int32 → Int32 → Int32 → Int32 → Mem → Prop) (v1 : Int32) (v2 : Int32) (v3 : Int32) (v4 : Int32) (v5 : Int32) (v6 : Int32) (M : Mem) : Prop := ((v6 = 0 → (∀ x7 : Int32, x7 = (v4 + (v5 + 1)) → (∀ x8 : Int32, x8 = (v3 + 1) → (k5 v1 v2 x8 x7 M)))) ∧ (¬ v6 = 0 → (Q v3 M)))
set_option maxRecDepth 100000 in
set_option maxHeartbeats 4000000 in
theorem k_X11_wordAt_104 {p : Program} {l : Launch} {e : Env} {s : State} {m : MethodId} {args : Array Value} {below : List Frame} {meth : Method} {c : Code} {g : Geo} (C : CX g p s m args meth c cX11_wordAt 8 (some .int) RX11) {Q : Int32 → Mem → Prop} {k5 : Int32 → Int32 → Int32 → Int32 → Mem → Prop} (hk5 : ∀ (v1 : Int32) (v2 : Int32) (v3 : Int32) (v4 : Int32) (M : Mem), k5 v1 v2 v3 v4 M → ∀ (H : Heap) (locs : List Loc) (ls : Array Slot), lv_has ls 8 [(0, .ref (g.2.1 (138 + 0))), (1, .int v1), (2, .int v2), (3, .int v3), (4, .int v4)] → va_P g.1 clz (yw g M) H → va_S (Af 1 g) s.heap H locs → W p l e ({ frames := 0, cells := 0, slots := 0, locals := 0 } : Room) s m args below meth c H locs 0 0 (MQ below (va_Qi Q (PB g (yw g)) (Af 1 g)) args s 0 0 (Af 1 g)) (F0 m 5 ls [])) (v1 : Int32) (v2 : Int32) (v3 : Int32) (v4 : Int32) (v5 : Int32) (v6 : Int32) (M : Mem) (hw : b_X11_wordAt_104 Q k5 v1 v2 v3 v4 v5 v6 M) {H : Heap} {locs : List Loc} {ls : Array Slot} (hl : lv_has ls 8 [(0, .ref (g.2.1 (138 + 0))), (1, .int v1), (2, .int v2), (3, .int v3), (4, .int v4), (5, .int v5), (6, .int v6)]) (hP : va_P g.1 clz (yw g M) H) (hS : va_S (Af 1 g) s.heap H locs) : W p l e ({ frames := 0, cells := 0, slots := 0, locals := 0 } : Room) s m args below meth c H locs 0 0 (MQ below (va_Qi Q (PB g (yw g)) (Af 1 g)) args s 0 0 (Af 1 g)) (F0 m 104 ls []) := by
  unfold b_X11_wordAt_104 at hw
  refine lv_iload C.1 C.2.1 dX11_wordAt_104 (lv_at hl 6 rfl) ?_
  refine lv_if_eq (tgt := 111) C.1 C.2.1 dX11_wordAt_106 (by decide) (fun h6 => ?_) (fun h6 => ?_)
  · have hw := hw.1 h6
    refine lv_iload C.1 C.2.1 dX11_wordAt_111 (lv_at hl 4 rfl) ?_
    refine lv_iload C.1 C.2.1 dX11_wordAt_113 (lv_at hl 5 rfl) ?_
    refine lv_iconst (v := 1) C.1 C.2.1 dX11_wordAt_115 (by decide) ?_
    refine lv_iadd C.1 C.2.1 dX11_wordAt_116 ?_
    refine lv_iadd C.1 C.2.1 dX11_wordAt_117 ?_
    refine lv_topi (fun x7 e7 => ?_)
    have hw := hw x7 e7
    refine lv_istore (lv' := [(4, .int x7), (0, .ref (g.2.1 (138 + 0))), (1, .int v1), (2, .int v2), (3, .int v3), (5, .int v5), (6, .int v6)]) C.1 C.2.1 dX11_wordAt_118 hl (by decide) rfl (fun ls hl => ?_)
    obtain ⟨x8, e8⟩ : ∃ y : Int32, y = (v3 + 1) := ⟨_, rfl⟩
    have hw := hw x8 e8
    refine lv_iinc (v := x8) (lv' := [(3, .int x8), (4, .int x7), (0, .ref (g.2.1 (138 + 0))), (1, .int v1), (2, .int v2), (5, .int v5), (6, .int v6)]) C.1 C.2.1 dX11_wordAt_120 hl (k := 4) rfl (by rw [e8]; rfl) (by decide) rfl (fun ls hl => ?_)
    refine lv_goto (tgt := 5) C.1 C.2.1 dX11_wordAt_123 (by decide) ?_
    exact hk5 v1 v2 x8 x7  _ hw _ _ _ (lv_sub hl [2, 3, 4, 0, 1] rfl) hP hS
  · have hw := hw.2 h6
    refine lv_iload_n C.1 C.2.1 dX11_wordAt_109 rfl (lv_at hl 3 rfl) ?_
    exact retI (wf := (yw g)) C hP hS hw dX11_wordAt_110
def b_X11_wordAt_96 (Q : Int32 → Mem → Prop) (k57 : Int32 → Int32 → Int32 → Int32 → Int32 → Int32 → Int32 → Mem → Prop) (v1 : Int32) (v2 : Int32) (v3 : Int32) (v4 : Int32) (v5 : Int32) (v7 : Int32) (s0 : Int32) (M : Mem) : Prop := (∀ x13 : Int32, x13 = (v7 + 1) → (k57 v1 v2 v3 v4 v5 s0 x13 M))
set_option maxRecDepth 100000 in
set_option maxHeartbeats 4000000 in
theorem k_X11_wordAt_96 {p : Program} {l : Launch} {e : Env} {s : State} {m : MethodId} {args : Array Value} {below : List Frame} {meth : Method} {c : Code} {g : Geo} (C : CX g p s m args meth c cX11_wordAt 8 (some .int) RX11) {Q : Int32 → Mem → Prop} {k57 : Int32 → Int32 → Int32 → Int32 → Int32 → Int32 → Int32 → Mem → Prop} (hk57 : ∀ (v1 : Int32) (v2 : Int32) (v3 : Int32) (v4 : Int32) (v5 : Int32) (v6 : Int32) (v7 : Int32) (M : Mem), k57 v1 v2 v3 v4 v5 v6 v7 M → ∀ (H : Heap) (locs : List Loc) (ls : Array Slot), lv_has ls 8 [(0, .ref (g.2.1 (138 + 0))), (1, .int v1), (2, .int v2), (3, .int v3), (4, .int v4), (5, .int v5), (6, .int v6), (7, .int v7)] → va_P g.1 clz (yw g M) H → va_S (Af 1 g) s.heap H locs → W p l e ({ frames := 0, cells := 0, slots := 0, locals := 0 } : Room) s m args below meth c H locs 0 0 (MQ below (va_Qi Q (PB g (yw g)) (Af 1 g)) args s 0 0 (Af 1 g)) (F0 m 57 ls [])) (v1 : Int32) (v2 : Int32) (v3 : Int32) (v4 : Int32) (v5 : Int32) (v7 : Int32) (s0 : Int32) (M : Mem) (hw : b_X11_wordAt_96 Q k57 v1 v2 v3 v4 v5 v7 s0 M) {H : Heap} {locs : List Loc} {ls : Array Slot} (hl : lv_has ls 8 [(0, .ref (g.2.1 (138 + 0))), (1, .int v1), (2, .int v2), (3, .int v3), (4, .int v4), (5, .int v5), (7, .int v7)]) (hP : va_P g.1 clz (yw g M) H) (hS : va_S (Af 1 g) s.heap H locs) : W p l e ({ frames := 0, cells := 0, slots := 0, locals := 0 } : Room) s m args below meth c H locs 0 0 (MQ below (va_Qi Q (PB g (yw g)) (Af 1 g)) args s 0 0 (Af 1 g)) (F0 m 96 ls [.int s0]) := by
  unfold b_X11_wordAt_96 at hw
  refine lv_istore (lv' := [(6, .int s0), (0, .ref (g.2.1 (138 + 0))), (1, .int v1), (2, .int v2), (3, .int v3), (4, .int v4), (5, .int v5), (7, .int v7)]) C.1 C.2.1 dX11_wordAt_96 hl (by decide) rfl (fun ls hl => ?_)
  obtain ⟨x13, e13⟩ : ∃ y : Int32, y = (v7 + 1) := ⟨_, rfl⟩
  have hw := hw x13 e13
  refine lv_iinc (v := x13) (lv' := [(7, .int x13), (6, .int s0), (0, .ref (g.2.1 (138 + 0))), (1, .int v1), (2, .int v2), (3, .int v3), (4, .int v4), (5, .int v5)]) C.1 C.2.1 dX11_wordAt_98 hl (k := 7) rfl (by rw [e13]; rfl) (by decide) rfl (fun ls hl => ?_)
  refine lv_goto (tgt := 57) C.1 C.2.1 dX11_wordAt_101 (by decide) ?_
  exact hk57 v1 v2 v3 v4 v5 s0 x13  _ hw _ _ _ (lv_sub hl [2, 3, 4, 5, 6, 7, 1, 0] rfl) hP hS
def b_X11_wordAt_57 (Q : Int32 → Mem → Prop) (k5 : Int32 → Int32 → Int32 → Int32 → Mem → Prop) : Nat → Int32 → Int32 → Int32 → Int32 → Int32 → Int32 → Int32 → Mem → Prop
  | 0, _, _, _, _, _, _, _, _ => False
  | n + 1, v1, v2, v3, v4, v5, v6, v7, M => ((v5 ≤ v7 → (b_X11_wordAt_104 Q k5 v1 v2 v3 v4 v5 v6 M)) ∧ (¬ v5 ≤ v7 → ((v6 = 0 → (b_X11_wordAt_104 Q k5 v1 v2 v3 v4 v5 v6 M)) ∧ (¬ v6 = 0 → (vp_in (v4 + v7) 68 ∧ (vp_in (v1 + v7) 700 ∧ ((¬ (M.1 42 0 ((v4 + v7) : Int32).toNatClampNeg) = (M.1 41 0 ((v1 + v7) : Int32).toNatClampNeg) → (b_X11_wordAt_96 Q (fun v1 v2 v3 v4 v5 v6 v7 M => b_X11_wordAt_57 Q k5 n v1 v2 v3 v4 v5 v6 v7 M) v1 v2 v3 v4 v5 v7 0 M)) ∧ ((M.1 42 0 ((v4 + v7) : Int32).toNatClampNeg) = (M.1 41 0 ((v1 + v7) : Int32).toNatClampNeg) → (b_X11_wordAt_96 Q (fun v1 v2 v3 v4 v5 v6 v7 M => b_X11_wordAt_57 Q k5 n v1 v2 v3 v4 v5 v6 v7 M) v1 v2 v3 v4 v5 v7 1 M)))))))))
set_option maxRecDepth 100000 in
set_option maxHeartbeats 4000000 in
theorem k_X11_wordAt_57 {p : Program} {l : Launch} {e : Env} {s : State} {m : MethodId} {args : Array Value} {below : List Frame} {meth : Method} {c : Code} {g : Geo} (C : CX g p s m args meth c cX11_wordAt 8 (some .int) RX11) {Q : Int32 → Mem → Prop} {k5 : Int32 → Int32 → Int32 → Int32 → Mem → Prop} (hk5 : ∀ (v1 : Int32) (v2 : Int32) (v3 : Int32) (v4 : Int32) (M : Mem), k5 v1 v2 v3 v4 M → ∀ (H : Heap) (locs : List Loc) (ls : Array Slot), lv_has ls 8 [(0, .ref (g.2.1 (138 + 0))), (1, .int v1), (2, .int v2), (3, .int v3), (4, .int v4)] → va_P g.1 clz (yw g M) H → va_S (Af 1 g) s.heap H locs → W p l e ({ frames := 0, cells := 0, slots := 0, locals := 0 } : Room) s m args below meth c H locs 0 0 (MQ below (va_Qi Q (PB g (yw g)) (Af 1 g)) args s 0 0 (Af 1 g)) (F0 m 5 ls [])) : ∀ (n : Nat) (v1 : Int32) (v2 : Int32) (v3 : Int32) (v4 : Int32) (v5 : Int32) (v6 : Int32) (v7 : Int32) (M : Mem) (hw : b_X11_wordAt_57 Q k5 n v1 v2 v3 v4 v5 v6 v7 M) {H : Heap} {locs : List Loc} {ls : Array Slot} (hl : lv_has ls 8 [(0, .ref (g.2.1 (138 + 0))), (1, .int v1), (2, .int v2), (3, .int v3), (4, .int v4), (5, .int v5), (6, .int v6), (7, .int v7)]) (hP : va_P g.1 clz (yw g M) H) (hS : va_S (Af 1 g) s.heap H locs), W p l e ({ frames := 0, cells := 0, slots := 0, locals := 0 } : Room) s m args below meth c H locs 0 0 (MQ below (va_Qi Q (PB g (yw g)) (Af 1 g)) args s 0 0 (Af 1 g)) (F0 m 57 ls []) := by
  intro n
  induction n with
  | zero => intro v1 v2 v3 v4 v5 v6 v7 M hw H locs ls hl hP hS; exact absurd hw (by rw [b_X11_wordAt_57]; exact fun h => h)
  | succ n ih =>
    intro v1 v2 v3 v4 v5 v6 v7 M hw H locs ls hl hP hS
    rw [b_X11_wordAt_57] at hw
    refine lv_iload C.1 C.2.1 dX11_wordAt_57 (lv_at hl 7 rfl) ?_
    refine lv_iload C.1 C.2.1 dX11_wordAt_59 (lv_at hl 5 rfl) ?_
    refine lv_icmp_ge (tgt := 104) C.1 C.2.1 dX11_wordAt_61 (by decide) (fun h5 => ?_) (fun h5 => ?_)
    · have hw := hw.1 h5
      exact k_X11_wordAt_104 (Q := Q) C hk5 v1 v2 v3 v4 v5 v6  _ hw (lv_sub hl [0, 1, 2, 3, 4, 5, 6] rfl) hP hS
    · have hw := hw.2 h5
      refine lv_iload C.1 C.2.1 dX11_wordAt_64 (lv_at hl 6 rfl) ?_
      refine lv_if_eq (tgt := 104) C.1 C.2.1 dX11_wordAt_66 (by decide) (fun h9 => ?_) (fun h9 => ?_)
      · have hw := hw.1 h9
        exact k_X11_wordAt_104 (Q := Q) C hk5 v1 v2 v3 v4 v5 v6  _ hw (lv_sub hl [0, 1, 2, 3, 4, 5, 6] rfl) hP hS
      · have hw := hw.2 h9
        refine lv_aload_n C.1 C.2.1 dX11_wordAt_69 rfl (lv_at hl 0 rfl) ?_
        refine gX11_13 C hP Nat.zero_lt_one dX11_wordAt_70 ?_
        refine lv_iload C.1 C.2.1 dX11_wordAt_73 (lv_at hl 4 rfl) ?_
        refine lv_iload C.1 C.2.1 dX11_wordAt_75 (lv_at hl 7 rfl) ?_
        refine lv_iadd C.1 C.2.1 dX11_wordAt_77 ?_
        obtain ⟨h10, hw⟩ := hw
        refine al_42 C hP Nat.zero_lt_one h10 dX11_wordAt_78 ?_
        refine lv_aload_n C.1 C.2.1 dX11_wordAt_79 rfl (lv_at hl 0 rfl) ?_
        refine gX11_7 C hP Nat.zero_lt_one dX11_wordAt_80 ?_
        refine lv_iload_n C.1 C.2.1 dX11_wordAt_83 rfl (lv_at hl 1 rfl) ?_
        refine lv_iload C.1 C.2.1 dX11_wordAt_84 (lv_at hl 7 rfl) ?_
        refine lv_iadd C.1 C.2.1 dX11_wordAt_86 ?_
        obtain ⟨h11, hw⟩ := hw
        refine al_41 C hP Nat.zero_lt_one h11 dX11_wordAt_87 ?_
        refine lv_icmp_ne (tgt := 95) C.1 C.2.1 dX11_wordAt_88 (by decide) (fun h12 => ?_) (fun h12 => ?_)
        · have hw := hw.1 h12
          refine lv_iconst (v := 0) C.1 C.2.1 dX11_wordAt_95 (by decide) ?_
          exact k_X11_wordAt_96 (Q := Q) C (fun v1 v2 v3 v4 v5 v6 v7  M hw H locs ls hl hP hS => ih v1 v2 v3 v4 v5 v6 v7  M hw hl hP hS) v1 v2 v3 v4 v5 v7 0  _ hw (lv_sub hl [0, 1, 2, 3, 4, 5, 7] rfl) hP hS
        · have hw := hw.2 h12
          refine lv_iconst (v := 1) C.1 C.2.1 dX11_wordAt_91 (by decide) ?_
          refine lv_goto (tgt := 96) C.1 C.2.1 dX11_wordAt_92 (by decide) ?_
          exact k_X11_wordAt_96 (Q := Q) C (fun v1 v2 v3 v4 v5 v6 v7  M hw H locs ls hl hP hS => ih v1 v2 v3 v4 v5 v6 v7  M hw hl hP hS) v1 v2 v3 v4 v5 v7 1  _ hw (lv_sub hl [0, 1, 2, 3, 4, 5, 7] rfl) hP hS
def b_X11_wordAt_52 (Q : Int32 → Mem → Prop) (k5 : Int32 → Int32 → Int32 → Int32 → Mem → Prop) (v1 : Int32) (v2 : Int32) (v3 : Int32) (v4 : Int32) (v5 : Int32) (s0 : Int32) (M : Mem) : Prop := (∃ n57 : Nat, b_X11_wordAt_57 Q k5 n57 v1 v2 v3 v4 v5 s0 0 M)
set_option maxRecDepth 100000 in
set_option maxHeartbeats 4000000 in
theorem k_X11_wordAt_52 {p : Program} {l : Launch} {e : Env} {s : State} {m : MethodId} {args : Array Value} {below : List Frame} {meth : Method} {c : Code} {g : Geo} (C : CX g p s m args meth c cX11_wordAt 8 (some .int) RX11) {Q : Int32 → Mem → Prop} {k5 : Int32 → Int32 → Int32 → Int32 → Mem → Prop} (hk5 : ∀ (v1 : Int32) (v2 : Int32) (v3 : Int32) (v4 : Int32) (M : Mem), k5 v1 v2 v3 v4 M → ∀ (H : Heap) (locs : List Loc) (ls : Array Slot), lv_has ls 8 [(0, .ref (g.2.1 (138 + 0))), (1, .int v1), (2, .int v2), (3, .int v3), (4, .int v4)] → va_P g.1 clz (yw g M) H → va_S (Af 1 g) s.heap H locs → W p l e ({ frames := 0, cells := 0, slots := 0, locals := 0 } : Room) s m args below meth c H locs 0 0 (MQ below (va_Qi Q (PB g (yw g)) (Af 1 g)) args s 0 0 (Af 1 g)) (F0 m 5 ls [])) (v1 : Int32) (v2 : Int32) (v3 : Int32) (v4 : Int32) (v5 : Int32) (s0 : Int32) (M : Mem) (hw : b_X11_wordAt_52 Q k5 v1 v2 v3 v4 v5 s0 M) {H : Heap} {locs : List Loc} {ls : Array Slot} (hl : lv_has ls 8 [(0, .ref (g.2.1 (138 + 0))), (1, .int v1), (2, .int v2), (3, .int v3), (4, .int v4), (5, .int v5)]) (hP : va_P g.1 clz (yw g M) H) (hS : va_S (Af 1 g) s.heap H locs) : W p l e ({ frames := 0, cells := 0, slots := 0, locals := 0 } : Room) s m args below meth c H locs 0 0 (MQ below (va_Qi Q (PB g (yw g)) (Af 1 g)) args s 0 0 (Af 1 g)) (F0 m 52 ls [.int s0]) := by
  unfold b_X11_wordAt_52 at hw
  refine lv_istore (lv' := [(6, .int s0), (0, .ref (g.2.1 (138 + 0))), (1, .int v1), (2, .int v2), (3, .int v3), (4, .int v4), (5, .int v5)]) C.1 C.2.1 dX11_wordAt_52 hl (by decide) rfl (fun ls hl => ?_)
  refine lv_iconst (v := 0) C.1 C.2.1 dX11_wordAt_54 (by decide) ?_
  refine lv_istore (lv' := [(7, .int 0), (6, .int s0), (0, .ref (g.2.1 (138 + 0))), (1, .int v1), (2, .int v2), (3, .int v3), (4, .int v4), (5, .int v5)]) C.1 C.2.1 dX11_wordAt_55 hl (by decide) rfl (fun ls hl => ?_)
  obtain ⟨n9, hw⟩ := hw
  exact k_X11_wordAt_57 (Q := Q) C hk5 n9 v1 v2 v3 v4 v5 s0 0  _ hw (lv_sub hl [2, 3, 4, 5, 6, 7, 1, 0] rfl) hP hS
def b_X11_wordAt_39 (Q : Int32 → Mem → Prop) (k5 : Int32 → Int32 → Int32 → Int32 → Mem → Prop) (v1 : Int32) (v2 : Int32) (v3 : Int32) (v4 : Int32) (v5 : Int32) (M : Mem) : Prop := ((¬ v5 = (v2 - v1) → (b_X11_wordAt_52 Q k5 v1 v2 v3 v4 v5 0 M)) ∧ (v5 = (v2 - v1) → (b_X11_wordAt_52 Q k5 v1 v2 v3 v4 v5 1 M)))
set_option maxRecDepth 100000 in
set_option maxHeartbeats 4000000 in
theorem k_X11_wordAt_39 {p : Program} {l : Launch} {e : Env} {s : State} {m : MethodId} {args : Array Value} {below : List Frame} {meth : Method} {c : Code} {g : Geo} (C : CX g p s m args meth c cX11_wordAt 8 (some .int) RX11) {Q : Int32 → Mem → Prop} {k5 : Int32 → Int32 → Int32 → Int32 → Mem → Prop} (hk5 : ∀ (v1 : Int32) (v2 : Int32) (v3 : Int32) (v4 : Int32) (M : Mem), k5 v1 v2 v3 v4 M → ∀ (H : Heap) (locs : List Loc) (ls : Array Slot), lv_has ls 8 [(0, .ref (g.2.1 (138 + 0))), (1, .int v1), (2, .int v2), (3, .int v3), (4, .int v4)] → va_P g.1 clz (yw g M) H → va_S (Af 1 g) s.heap H locs → W p l e ({ frames := 0, cells := 0, slots := 0, locals := 0 } : Room) s m args below meth c H locs 0 0 (MQ below (va_Qi Q (PB g (yw g)) (Af 1 g)) args s 0 0 (Af 1 g)) (F0 m 5 ls [])) (v1 : Int32) (v2 : Int32) (v3 : Int32) (v4 : Int32) (v5 : Int32) (M : Mem) (hw : b_X11_wordAt_39 Q k5 v1 v2 v3 v4 v5 M) {H : Heap} {locs : List Loc} {ls : Array Slot} (hl : lv_has ls 8 [(0, .ref (g.2.1 (138 + 0))), (1, .int v1), (2, .int v2), (3, .int v3), (4, .int v4), (5, .int v5)]) (hP : va_P g.1 clz (yw g M) H) (hS : va_S (Af 1 g) s.heap H locs) : W p l e ({ frames := 0, cells := 0, slots := 0, locals := 0 } : Room) s m args below meth c H locs 0 0 (MQ below (va_Qi Q (PB g (yw g)) (Af 1 g)) args s 0 0 (Af 1 g)) (F0 m 39 ls []) := by
  unfold b_X11_wordAt_39 at hw
  refine lv_iload C.1 C.2.1 dX11_wordAt_39 (lv_at hl 5 rfl) ?_
  refine lv_iload_n C.1 C.2.1 dX11_wordAt_41 rfl (lv_at hl 2 rfl) ?_
  refine lv_iload_n C.1 C.2.1 dX11_wordAt_42 rfl (lv_at hl 1 rfl) ?_
  refine lv_isub C.1 C.2.1 dX11_wordAt_43 ?_
  refine lv_icmp_ne (tgt := 51) C.1 C.2.1 dX11_wordAt_44 (by decide) (fun h4 => ?_) (fun h4 => ?_)
  · have hw := hw.1 h4
    refine lv_iconst (v := 0) C.1 C.2.1 dX11_wordAt_51 (by decide) ?_
    exact k_X11_wordAt_52 (Q := Q) C hk5 v1 v2 v3 v4 v5 0  _ hw (lv_sub hl [0, 1, 2, 3, 4, 5] rfl) hP hS
  · have hw := hw.2 h4
    refine lv_iconst (v := 1) C.1 C.2.1 dX11_wordAt_47 (by decide) ?_
    refine lv_goto (tgt := 52) C.1 C.2.1 dX11_wordAt_48 (by decide) ?_
    exact k_X11_wordAt_52 (Q := Q) C hk5 v1 v2 v3 v4 v5 1  _ hw (lv_sub hl [0, 1, 2, 3, 4, 5] rfl) hP hS
def b_X11_wordAt_18 (Q : Int32 → Mem → Prop) (k5 : Int32 → Int32 → Int32 → Int32 → Mem → Prop) : Nat → Int32 → Int32 → Int32 → Int32 → Int32 → Mem → Prop
  | 0, _, _, _, _, _, _ => False
  | n + 1, v1, v2, v3, v4, v5, M => (vp_in (v4 + v5) 68 ∧ (((M.1 42 0 ((v4 + v5) : Int32).toNatClampNeg) = 32 → (b_X11_wordAt_39 Q k5 v1 v2 v3 v4 v5 M)) ∧ (¬ (M.1 42 0 ((v4 + v5) : Int32).toNatClampNeg) = 32 → (∀ x14 : Int32, x14 = (v5 + 1) → (b_X11_wordAt_18 Q k5 n v1 v2 v3 v4 x14 M)))))
set_option maxRecDepth 100000 in
set_option maxHeartbeats 4000000 in
theorem k_X11_wordAt_18 {p : Program} {l : Launch} {e : Env} {s : State} {m : MethodId} {args : Array Value} {below : List Frame} {meth : Method} {c : Code} {g : Geo} (C : CX g p s m args meth c cX11_wordAt 8 (some .int) RX11) {Q : Int32 → Mem → Prop} {k5 : Int32 → Int32 → Int32 → Int32 → Mem → Prop} (hk5 : ∀ (v1 : Int32) (v2 : Int32) (v3 : Int32) (v4 : Int32) (M : Mem), k5 v1 v2 v3 v4 M → ∀ (H : Heap) (locs : List Loc) (ls : Array Slot), lv_has ls 8 [(0, .ref (g.2.1 (138 + 0))), (1, .int v1), (2, .int v2), (3, .int v3), (4, .int v4)] → va_P g.1 clz (yw g M) H → va_S (Af 1 g) s.heap H locs → W p l e ({ frames := 0, cells := 0, slots := 0, locals := 0 } : Room) s m args below meth c H locs 0 0 (MQ below (va_Qi Q (PB g (yw g)) (Af 1 g)) args s 0 0 (Af 1 g)) (F0 m 5 ls [])) : ∀ (n : Nat) (v1 : Int32) (v2 : Int32) (v3 : Int32) (v4 : Int32) (v5 : Int32) (M : Mem) (hw : b_X11_wordAt_18 Q k5 n v1 v2 v3 v4 v5 M) {H : Heap} {locs : List Loc} {ls : Array Slot} (hl : lv_has ls 8 [(0, .ref (g.2.1 (138 + 0))), (1, .int v1), (2, .int v2), (3, .int v3), (4, .int v4), (5, .int v5)]) (hP : va_P g.1 clz (yw g M) H) (hS : va_S (Af 1 g) s.heap H locs), W p l e ({ frames := 0, cells := 0, slots := 0, locals := 0 } : Room) s m args below meth c H locs 0 0 (MQ below (va_Qi Q (PB g (yw g)) (Af 1 g)) args s 0 0 (Af 1 g)) (F0 m 18 ls []) := by
  intro n
  induction n with
  | zero => intro v1 v2 v3 v4 v5 M hw H locs ls hl hP hS; exact absurd hw (by rw [b_X11_wordAt_18]; exact fun h => h)
  | succ n ih =>
    intro v1 v2 v3 v4 v5 M hw H locs ls hl hP hS
    rw [b_X11_wordAt_18] at hw
    refine lv_aload_n C.1 C.2.1 dX11_wordAt_18 rfl (lv_at hl 0 rfl) ?_
    refine gX11_13 C hP Nat.zero_lt_one dX11_wordAt_19 ?_
    refine lv_iload C.1 C.2.1 dX11_wordAt_22 (lv_at hl 4 rfl) ?_
    refine lv_iload C.1 C.2.1 dX11_wordAt_24 (lv_at hl 5 rfl) ?_
    refine lv_iadd C.1 C.2.1 dX11_wordAt_26 ?_
    obtain ⟨h2, hw⟩ := hw
    refine al_42 C hP Nat.zero_lt_one h2 dX11_wordAt_27 ?_
    refine lv_bipush (v := 32) C.1 C.2.1 dX11_wordAt_28 (by decide) ?_
    refine lv_icmp_eq (tgt := 39) C.1 C.2.1 dX11_wordAt_30 (by decide) (fun h3 => ?_) (fun h3 => ?_)
    · have hw := hw.1 h3
      exact k_X11_wordAt_39 (Q := Q) C hk5 v1 v2 v3 v4 v5  _ hw (lv_sub hl [0, 1, 2, 3, 4, 5] rfl) hP hS
    · have hw := hw.2 h3
      obtain ⟨x14, e14⟩ : ∃ y : Int32, y = (v5 + 1) := ⟨_, rfl⟩
      have hw := hw x14 e14
      refine lv_iinc (v := x14) (lv' := [(5, .int x14), (0, .ref (g.2.1 (138 + 0))), (1, .int v1), (2, .int v2), (3, .int v3), (4, .int v4)]) C.1 C.2.1 dX11_wordAt_33 hl (k := 5) rfl (by rw [e14]; rfl) (by decide) rfl (fun ls hl => ?_)
      refine lv_goto (tgt := 18) C.1 C.2.1 dX11_wordAt_36 (by decide) ?_
      exact ih v1 v2 v3 v4 x14  _ hw (lv_sub hl [1, 2, 3, 4, 5, 0] rfl) hP hS
def b_X11_wordAt_5 (Q : Int32 → Mem → Prop) : Nat → Int32 → Int32 → Int32 → Int32 → Mem → Prop
  | 0, _, _, _, _, _ => False
  | n + 1, v1, v2, v3, v4, M => ((68 ≤ v4 → (Q (-1) M)) ∧ (¬ 68 ≤ v4 → (∃ n18 : Nat, b_X11_wordAt_18 Q (fun v1 v2 v3 v4 M => b_X11_wordAt_5 Q n v1 v2 v3 v4 M) n18 v1 v2 v3 v4 0 M)))
set_option maxRecDepth 100000 in
set_option maxHeartbeats 4000000 in
theorem k_X11_wordAt_5 {p : Program} {l : Launch} {e : Env} {s : State} {m : MethodId} {args : Array Value} {below : List Frame} {meth : Method} {c : Code} {g : Geo} (C : CX g p s m args meth c cX11_wordAt 8 (some .int) RX11) {Q : Int32 → Mem → Prop} : ∀ (n : Nat) (v1 : Int32) (v2 : Int32) (v3 : Int32) (v4 : Int32) (M : Mem) (hw : b_X11_wordAt_5 Q n v1 v2 v3 v4 M) {H : Heap} {locs : List Loc} {ls : Array Slot} (hl : lv_has ls 8 [(0, .ref (g.2.1 (138 + 0))), (1, .int v1), (2, .int v2), (3, .int v3), (4, .int v4)]) (hP : va_P g.1 clz (yw g M) H) (hS : va_S (Af 1 g) s.heap H locs), W p l e ({ frames := 0, cells := 0, slots := 0, locals := 0 } : Room) s m args below meth c H locs 0 0 (MQ below (va_Qi Q (PB g (yw g)) (Af 1 g)) args s 0 0 (Af 1 g)) (F0 m 5 ls []) := by
  intro n
  induction n with
  | zero => intro v1 v2 v3 v4 M hw H locs ls hl hP hS; exact absurd hw (by rw [b_X11_wordAt_5]; exact fun h => h)
  | succ n ih =>
    intro v1 v2 v3 v4 M hw H locs ls hl hP hS
    rw [b_X11_wordAt_5] at hw
    refine lv_iload C.1 C.2.1 dX11_wordAt_5 (lv_at hl 4 rfl) ?_
    refine lv_aload_n C.1 C.2.1 dX11_wordAt_7 rfl (lv_at hl 0 rfl) ?_
    refine gX11_13 C hP Nat.zero_lt_one dX11_wordAt_8 ?_
    refine an_42 C hP Nat.zero_lt_one dX11_wordAt_11 ?_
    refine lv_icmp_ge (tgt := 126) C.1 C.2.1 dX11_wordAt_12 (by decide) (fun h1 => ?_) (fun h1 => ?_)
    · have hw := hw.1 h1
      refine lv_iconst (v := (-1)) C.1 C.2.1 dX11_wordAt_126 (by decide) ?_
      exact retI (wf := (yw g)) C hP hS hw dX11_wordAt_127
    · have hw := hw.2 h1
      refine lv_iconst (v := 0) C.1 C.2.1 dX11_wordAt_15 (by decide) ?_
      refine lv_istore (lv' := [(5, .int 0), (0, .ref (g.2.1 (138 + 0))), (1, .int v1), (2, .int v2), (3, .int v3), (4, .int v4)]) C.1 C.2.1 dX11_wordAt_16 hl (by decide) rfl (fun ls hl => ?_)
      obtain ⟨n9, hw⟩ := hw
      exact k_X11_wordAt_18 (Q := Q) C (fun v1 v2 v3 v4  M hw H locs ls hl hP hS => ih v1 v2 v3 v4  M hw hl hP hS) n9 v1 v2 v3 v4 0  _ hw (lv_sub hl [1, 2, 3, 4, 5, 0] rfl) hP hS
def p_X11_wordAt (a1 : Int32) (a2 : Int32) (M : Mem) (Q : Int32 → Mem → Prop) : Prop := (∃ n5 : Nat, b_X11_wordAt_5 Q n5 a1 a2 0 0 M)
set_option maxRecDepth 100000 in
set_option maxHeartbeats 4000000 in
theorem c_X11_wordAt (l : Launch) (g : Geo) (gi : GI g) (a1 : Int32) (a2 : Int32) (M : Mem) (Q : Int32 → Mem → Prop) (hw : p_X11_wordAt a1 a2 M Q) : Met l yX11_wordAt (Cond.code yX11_wordAt cX11_wordAt 8 (some .int) :: bg) ({ frames := 0, cells := 0, slots := 0, locals := 0 } : Room) (va_Pc [.ref (g.2.1 (138 + 0)), .int a1, .int a2] (PW g (yw g M))) (va_Qi Q (PB g (yw g)) (Af 1 g)) 0 0 (Af 1 g) := by
  refine Met.ofW (cc := cX11_wordAt) (maxL := 8) (ret := (some .int)) (by decide +kernel) rfl ?_
  intro p e s m args below meth c s₁ B hml hv
  obtain ⟨rfl, hv⟩ := hv
  have C := CX.start (own := RX11) B hml rfl gi hv
  have hP := hv.1
  have hS : va_S (Af 1 g) s.heap s.heap [] := va_S.rf
  have hl := lv_entry ([.ref (g.2.1 (138 + 0)), .int a1, .int a2]) (n := 8) (Nat.le_of_ble_eq_true rfl)
  rw [lg_entry_eq]
  generalize (lg_sl ([.ref (g.2.1 (138 + 0)), .int a1, .int a2]) ++ List.replicate (8 - (lg_sl ([.ref (g.2.1 (138 + 0)), .int a1, .int a2])).length) Slot.unset).toArray = ls at hl ⊢
  have hl : lv_has ls 8 [(0, .ref (g.2.1 (138 + 0))), (1, .int a1), (2, .int a2)] := hl
  unfold p_X11_wordAt at hw
  refine lv_iconst (v := 0) C.1 C.2.1 dX11_wordAt_0 (by decide) ?_
  refine lv_istore_n (lv' := [(3, .int 0), (0, .ref (g.2.1 (138 + 0))), (1, .int a1), (2, .int a2)]) C.1 C.2.1 dX11_wordAt_1 rfl hl (by decide) rfl (fun ls hl => ?_)
  refine lv_iconst (v := 0) C.1 C.2.1 dX11_wordAt_2 (by decide) ?_
  refine lv_istore (lv' := [(4, .int 0), (3, .int 0), (0, .ref (g.2.1 (138 + 0))), (1, .int a1), (2, .int a2)]) C.1 C.2.1 dX11_wordAt_3 hl (by decide) rfl (fun ls hl => ?_)
  obtain ⟨n9, hw⟩ := hw
  exact k_X11_wordAt_5 (Q := Q) C n9 a1 a2 0 0  _ hw (lv_sub hl [2, 3, 4, 1, 0] rfl) hP hS
