def p_X9_addBird (a0 : Nat) (a1 : Int32) (a2 : Int32) (M : Mem) (Q : Mem → Prop) : Prop := ((5 ≤ (M.1 23 a0 1) → (Q M)) ∧ (¬ 5 ≤ (M.1 23 a0 1) → (vp_in (M.1 23 a0 1) 5 ∧ (p_X0_begin ((5 * a0 + ((M.1 23 a0 1) : Int32).toNatClampNeg)) a1 a2 M (fun M3 => (∀ M4 : Mem, M4 = sI M3 23 a0 1 ((M3.1 23 a0 1) + 1) → (Q M4)))))))
set_option maxRecDepth 100000 in
set_option maxHeartbeats 4000000 in
theorem c_X9_addBird (l : Launch) (g : Geo) (gi : GI g) (a0 : Nat) (a1 : Int32) (a2 : Int32) (ha0 : a0 < 2) (M : Mem) (Q : Mem → Prop) (hw : p_X9_addBird a0 a1 a2 M Q) : Met l yX9_addBird (Cond.code yX9_addBird cX9_addBird 3 none :: bg) ({ frames := 1, cells := 0, slots := 0, locals := 22 } : Room) (va_Pc [.ref (g.2.1 (23 + a0)), .int a1, .int a2] (PW g (xw g M))) (va_Qv Q (PB g (xw g)) (Af 0 g)) 0 0 (Af 0 g) := by
  refine Met.ofW (cc := cX9_addBird) (maxL := 3) (ret := none) (by decide +kernel) rfl ?_
  intro p e s m args below meth c s₁ B hml hv
  obtain ⟨rfl, hv⟩ := hv
  have C := CX.start (own := RX9) B hml rfl gi hv
  have hP := hv.1
  have hS : va_S (Af 0 g) s.heap s.heap [] := va_S.rf
  have hl := lv_entry ([.ref (g.2.1 (23 + a0)), .int a1, .int a2]) (n := 3) (Nat.le_of_ble_eq_true rfl)
  rw [lg_entry_eq]
  generalize (lg_sl ([.ref (g.2.1 (23 + a0)), .int a1, .int a2]) ++ List.replicate (3 - (lg_sl ([.ref (g.2.1 (23 + a0)), .int a1, .int a2])).length) Slot.unset).toArray = ls at hl ⊢
  have hl : lv_has ls 3 [(0, .ref (g.2.1 (23 + a0))), (1, .int a1), (2, .int a2)] := hl
  unfold p_X9_addBird at hw
  refine lv_aload_n C.1 C.2.1 dX9_addBird_0 rfl (lv_at hl 0 rfl) ?_
  refine gX9_24 C hP ha0 dX9_addBird_1 ?_
  refine lv_aload_n C.1 C.2.1 dX9_addBird_4 rfl (lv_at hl 0 rfl) ?_
  refine gX9_11 C hP ha0 dX9_addBird_5 ?_
  refine an_24 C hP ha0 dX9_addBird_8 ?_
  refine lv_icmp_ge (tgt := 36) C.1 C.2.1 dX9_addBird_9 (by decide) (fun h1 => ?_) (fun h1 => ?_)
  · have hw := hw.1 h1
    exact retV (wf := (xw g)) C hP hS hw dX9_addBird_36
  · have hw := hw.2 h1
    refine lv_aload_n C.1 C.2.1 dX9_addBird_12 rfl (lv_at hl 0 rfl) ?_
    refine gX9_11 C hP ha0 dX9_addBird_13 ?_
    refine lv_aload_n C.1 C.2.1 dX9_addBird_16 rfl (lv_at hl 0 rfl) ?_
    refine gX9_24 C hP ha0 dX9_addBird_17 ?_
    obtain ⟨h2, hw⟩ := hw
    have hb2 : (5 * a0 + ((M.1 23 a0 1) : Int32).toNatClampNeg) < 10 := by have h9 := vp_lt h2; have h8 := ha0; omega
    refine al_24 C hP ha0 h2 dX9_addBird_20 ?_
    refine lv_iload_n C.1 C.2.1 dX9_addBird_21 rfl (lv_at hl 1 rfl) ?_
    refine lv_iload_n C.1 C.2.1 dX9_addBird_22 rfl (lv_at hl 2 rfl) ?_
    refine goV (wf := (xw g)) (runV (w := xw g M) (As := [.int a1, .int a2]) (rest := []) C lkX9_80 (c_X0_begin l g C.2.2.2.2.2.2.2.2.2.2 ((5 * a0 + ((M.1 23 a0 1) : Int32).toNatClampNeg)) a1 a2 hb2 M _ hw) hP hS rfl rfl ⟨Nat.le_of_ble_eq_true rfl, Nat.le_of_ble_eq_true rfl⟩ (xx_25 hb2) rfl rfl hl.1 rfl (Nat.le_of_ble_eq_true rfl) dX9_addBird_23) hS (fun M3 hw H locs hP hS => ?_)
    refine lv_aload_n C.1 C.2.1 dX9_addBird_26 rfl (lv_at hl 0 rfl) ?_
    refine lv_dup C.1 C.2.1 dX9_addBird_27 rfl ?_
    refine gX9_24 C hP ha0 dX9_addBird_28 ?_
    refine lv_iconst (v := 1) C.1 C.2.1 dX9_addBird_31 (by decide) ?_
    refine lv_iadd C.1 C.2.1 dX9_addBird_32 ?_
    refine pX9_24 C hP hS ha0 dX9_addBird_33 (fun M4 e4 H locs hP hS => ?_)
    have hw := hw M4 e4
    exact retV (wf := (xw g)) C hP hS hw dX9_addBird_36
def p_X6_takeHome (M : Mem) (Q : Mem → Prop) : Prop := (∃ w1 : Nat, M.2.2 2 0 8 = some (23 + w1) ∧ w1 < 2 ∧ (∀ M2 : Mem, M2 = sI M 23 w1 10 1 → (∃ w3 : Nat, M2.2.2 2 0 8 = some (23 + w3) ∧ w3 < 2 ∧ (vp_in 0 4 ∧ (∀ M5 : Mem, M5 = sI M2 23 w3 11 (M2.1 3 0 (0 : Int32).toNatClampNeg) → (∃ w6 : Nat, M5.2.2 2 0 8 = some (23 + w6) ∧ w6 < 2 ∧ (vp_in 1 4 ∧ (∀ M8 : Mem, M8 = sI M5 23 w6 12 (M5.1 3 0 (1 : Int32).toNatClampNeg) → (∃ w9 : Nat, M8.2.2 2 0 8 = some (23 + w9) ∧ w9 < 2 ∧ (vp_in 2 4 ∧ (∀ M11 : Mem, M11 = sI M8 23 w9 13 (M8.1 3 0 (2 : Int32).toNatClampNeg) → (∃ w12 : Nat, M11.2.2 2 0 8 = some (23 + w12) ∧ w12 < 2 ∧ (vp_in 3 4 ∧ (∀ M14 : Mem, M14 = sI M11 23 w12 14 (M11.1 3 0 (3 : Int32).toNatClampNeg) → (Q M14)))))))))))))))
set_option maxRecDepth 100000 in
set_option maxHeartbeats 4000000 in
theorem c_X6_takeHome (l : Launch) (g : Geo) (gi : GI g) (M : Mem) (Q : Mem → Prop) (hw : p_X6_takeHome  M Q) : Met l yX6_takeHome (Cond.code yX6_takeHome cX6_takeHome 1 none :: bg) ({ frames := 0, cells := 0, slots := 0, locals := 0 } : Room) (va_Pc [.ref (g.2.1 (2 + 0))] (PW g (xw g M))) (va_Qv Q (PB g (xw g)) (Af 0 g)) 0 0 (Af 0 g) := by
  refine Met.ofW (cc := cX6_takeHome) (maxL := 1) (ret := none) (by decide +kernel) rfl ?_
  intro p e s m args below meth c s₁ B hml hv
  obtain ⟨rfl, hv⟩ := hv
  have C := CX.start (own := RX6) B hml rfl gi hv
  have hP := hv.1
  have hS : va_S (Af 0 g) s.heap s.heap [] := va_S.rf
  have hl := lv_entry ([.ref (g.2.1 (2 + 0))]) (n := 1) (Nat.le_of_ble_eq_true rfl)
  rw [lg_entry_eq]
  generalize (lg_sl ([.ref (g.2.1 (2 + 0))]) ++ List.replicate (1 - (lg_sl ([.ref (g.2.1 (2 + 0))])).length) Slot.unset).toArray = ls at hl ⊢
  have hl : lv_has ls 1 [(0, .ref (g.2.1 (2 + 0)))] := hl
  unfold p_X6_takeHome at hw
  refine lv_aload_n C.1 C.2.1 dX6_takeHome_0 rfl (lv_at hl 0 rfl) ?_
  obtain ⟨w1, h1, hb1, hw⟩ := hw
  refine gX6_34f C hP Nat.zero_lt_one h1 dX6_takeHome_1 ?_
  refine lv_iconst (v := 1) C.1 C.2.1 dX6_takeHome_4 (by decide) ?_
  refine pX6_164 C hP hS hb1 rfl rfl dX6_takeHome_5 (fun M2 e2 H locs hP hS => ?_)
  have hw := hw M2 e2
  refine lv_aload_n C.1 C.2.1 dX6_takeHome_8 rfl (lv_at hl 0 rfl) ?_
  obtain ⟨w3, h3, hb3, hw⟩ := hw
  refine gX6_34f C hP Nat.zero_lt_one h3 dX6_takeHome_9 ?_
  refine lv_aload_n C.1 C.2.1 dX6_takeHome_12 rfl (lv_at hl 0 rfl) ?_
  refine gX6_19 C hP Nat.zero_lt_one dX6_takeHome_13 ?_
  refine lv_iconst (v := 0) C.1 C.2.1 dX6_takeHome_16 (by decide) ?_
  obtain ⟨h4, hw⟩ := hw
  refine al_3 C hP Nat.zero_lt_one h4 dX6_takeHome_17 ?_
  refine pX6_167 C hP hS hb3 dX6_takeHome_18 (fun M5 e5 H locs hP hS => ?_)
  have hw := hw M5 e5
  refine lv_aload_n C.1 C.2.1 dX6_takeHome_21 rfl (lv_at hl 0 rfl) ?_
  obtain ⟨w6, h6, hb6, hw⟩ := hw
  refine gX6_34f C hP Nat.zero_lt_one h6 dX6_takeHome_22 ?_
  refine lv_aload_n C.1 C.2.1 dX6_takeHome_25 rfl (lv_at hl 0 rfl) ?_
  refine gX6_19 C hP Nat.zero_lt_one dX6_takeHome_26 ?_
  refine lv_iconst (v := 1) C.1 C.2.1 dX6_takeHome_29 (by decide) ?_
  obtain ⟨h7, hw⟩ := hw
  refine al_3 C hP Nat.zero_lt_one h7 dX6_takeHome_30 ?_
  refine pX6_170 C hP hS hb6 dX6_takeHome_31 (fun M8 e8 H locs hP hS => ?_)
  have hw := hw M8 e8
  refine lv_aload_n C.1 C.2.1 dX6_takeHome_34 rfl (lv_at hl 0 rfl) ?_
  obtain ⟨w9, h9, hb9, hw⟩ := hw
  refine gX6_34f C hP Nat.zero_lt_one h9 dX6_takeHome_35 ?_
  refine lv_aload_n C.1 C.2.1 dX6_takeHome_38 rfl (lv_at hl 0 rfl) ?_
  refine gX6_19 C hP Nat.zero_lt_one dX6_takeHome_39 ?_
  refine lv_iconst (v := 2) C.1 C.2.1 dX6_takeHome_42 (by decide) ?_
  obtain ⟨h10, hw⟩ := hw
  refine al_3 C hP Nat.zero_lt_one h10 dX6_takeHome_43 ?_
  refine pX6_173 C hP hS hb9 dX6_takeHome_44 (fun M11 e11 H locs hP hS => ?_)
  have hw := hw M11 e11
  refine lv_aload_n C.1 C.2.1 dX6_takeHome_47 rfl (lv_at hl 0 rfl) ?_
  obtain ⟨w12, h12, hb12, hw⟩ := hw
  refine gX6_34f C hP Nat.zero_lt_one h12 dX6_takeHome_48 ?_
  refine lv_aload_n C.1 C.2.1 dX6_takeHome_51 rfl (lv_at hl 0 rfl) ?_
  refine gX6_19 C hP Nat.zero_lt_one dX6_takeHome_52 ?_
  refine lv_iconst (v := 3) C.1 C.2.1 dX6_takeHome_55 (by decide) ?_
  obtain ⟨h13, hw⟩ := hw
  refine al_3 C hP Nat.zero_lt_one h13 dX6_takeHome_56 ?_
  refine pX6_176 C hP hS hb12 dX6_takeHome_57 (fun M14 e14 H locs hP hS => ?_)
  have hw := hw M14 e14
  exact retV (wf := (xw g)) C hP hS hw dX6_takeHome_60
def b_X6_take_22 (Q : Mem → Prop) (v1 : Int32) (M : Mem) : Prop := ((v1 = 0 → (∃ w5 : Nat, M.2.2 2 0 8 = some (23 + w5) ∧ w5 < 2 ∧ (vp_in 0 4 ∧ (p_X9_addBird w5 ((M.1 2 0 9)) ((M.1 3 0 (0 : Int32).toNatClampNeg)) M (fun M7 => (Q M7)))))) ∧ (v1 = 6 → (p_X6_takeHome  M (fun M8 => (Q M8)))) ∧ (v1 = 7 → (∃ w9 : Nat, M.2.2 2 0 8 = some (23 + w9) ∧ w9 < 2 ∧ (vp_in 0 4 ∧ (∀ M11 : Mem, M11 = sI M 23 w9 3 (M.1 3 0 (0 : Int32).toNatClampNeg) → (Q M11))))) ∧ (v1 = 8 → (∃ w12 : Nat, M.2.2 2 0 8 = some (23 + w12) ∧ w12 < 2 ∧ (vp_in 0 4 ∧ (∀ M14 : Mem, M14 = sI M 23 w12 4 (M.1 3 0 (0 : Int32).toNatClampNeg) → (Q M14))))) ∧ (v1 = 9 → (∃ w15 : Nat, M.2.2 2 0 8 = some (23 + w15) ∧ w15 < 2 ∧ (vp_in 0 4 ∧ (∀ M17 : Mem, M17 = sI M 23 w15 7 (M.1 3 0 (0 : Int32).toNatClampNeg) → (Q M17))))) ∧ (v1 = 10 → (∃ w18 : Nat, M.2.2 2 0 8 = some (23 + w18) ∧ w18 < 2 ∧ (vp_in 0 4 ∧ (∀ M20 : Mem, M20 = sI M 23 w18 8 (M.1 3 0 (0 : Int32).toNatClampNeg) → (Q M20))))) ∧ (v1 = 11 → (∃ w21 : Nat, M.2.2 2 0 8 = some (23 + w21) ∧ w21 < 2 ∧ (vp_in 0 4 ∧ (∀ M23 : Mem, M23 = sI M 23 w21 9 (M.1 3 0 (0 : Int32).toNatClampNeg) → (Q M23))))) ∧ (¬ v1 = 0 → ¬ v1 = 6 → ¬ v1 = 7 → ¬ v1 = 8 → ¬ v1 = 9 → ¬ v1 = 10 → ¬ v1 = 11 → (p_X6_takeOfBird v1 M (fun M4 => (Q M4)))))
set_option maxRecDepth 100000 in
set_option maxHeartbeats 4000000 in
theorem k_X6_take_22 {p : Program} {l : Launch} {e : Env} {s : State} {m : MethodId} {args : Array Value} {below : List Frame} {meth : Method} {c : Code} {g : Geo} (C : CX g p s m args meth c cX6_take 2 none RX6) {Q : Mem → Prop} (v1 : Int32) (M : Mem) (hw : b_X6_take_22 Q v1 M) {H : Heap} {locs : List Loc} {ls : Array Slot} (hl : lv_has ls 2 [(0, .ref (g.2.1 (2 + 0))), (1, .int v1)]) (hP : va_P g.1 clz (xw g M) H) (hS : va_S (Af 0 g) s.heap H locs) : W p l e ({ frames := 3, cells := 0, slots := 0, locals := 67 } : Room) s m args below meth c H locs 0 0 (MQ below (va_Qv Q (PB g (xw g)) (Af 0 g)) args s 0 0 (Af 0 g)) (F0 m 22 ls []) := by
  unfold b_X6_take_22 at hw
  refine lv_iload_n C.1 C.2.1 dX6_take_22 rfl (lv_at hl 1 rfl) ?_
  by_cases q3_0 : v1 = 0
  · have hw := hw.1 q3_0
    refine lv_tableIn (tgt := 84) (off := 61) C.1 C.2.1 dX6_take_23 (by rw [q3_0]; decide) (by rw [q3_0]; decide) (by rw [q3_0]; decide +kernel) (by decide) ?_
    refine lv_aload_n C.1 C.2.1 dX6_take_84 rfl (lv_at hl 0 rfl) ?_
    obtain ⟨w5, h5, hb5, hw⟩ := hw
    refine gX6_34f C hP Nat.zero_lt_one h5 dX6_take_85 ?_
    refine lv_aload_n C.1 C.2.1 dX6_take_88 rfl (lv_at hl 0 rfl) ?_
    refine gX6_112 C hP Nat.zero_lt_one dX6_take_89 ?_
    refine lv_aload_n C.1 C.2.1 dX6_take_92 rfl (lv_at hl 0 rfl) ?_
    refine gX6_19 C hP Nat.zero_lt_one dX6_take_93 ?_
    refine lv_iconst (v := 0) C.1 C.2.1 dX6_take_96 (by decide) ?_
    obtain ⟨h6, hw⟩ := hw
    refine al_3 C hP Nat.zero_lt_one h6 dX6_take_97 ?_
    refine goV (wf := (xw g)) (runV (w := xw g M) (As := [.int (M.1 2 0 9), .int (M.1 3 0 (0 : Int32).toNatClampNeg)]) (rest := []) C lkX6_139 (c_X9_addBird l g C.2.2.2.2.2.2.2.2.2.2 w5 ((M.1 2 0 9)) ((M.1 3 0 (0 : Int32).toNatClampNeg)) hb5 M _ hw) hP hS rfl rfl ⟨Nat.le_of_ble_eq_true rfl, Nat.le_of_ble_eq_true rfl⟩ (xx_23 hb5) rfl rfl hl.1 rfl (Nat.le_of_ble_eq_true rfl) dX6_take_98) hS (fun M7 hw H locs hP hS => ?_)
    refine lv_goto (tgt := 196) C.1 C.2.1 dX6_take_101 (by decide) ?_
    exact retV (wf := (xw g)) C hP hS hw dX6_take_196
  by_cases q3_1 : v1 = 1
  · have hw := hw.2.2.2.2.2.2.2 (by rw [q3_1]; decide) (by rw [q3_1]; decide) (by rw [q3_1]; decide) (by rw [q3_1]; decide) (by rw [q3_1]; decide) (by rw [q3_1]; decide) (by rw [q3_1]; decide)
    refine lv_tableIn (tgt := 191) (off := 168) C.1 C.2.1 dX6_take_23 (by rw [q3_1]; decide) (by rw [q3_1]; decide) (by rw [q3_1]; decide +kernel) (by decide) ?_
    refine lv_aload_n C.1 C.2.1 dX6_take_191 rfl (lv_at hl 0 rfl) ?_
    refine lv_iload_n C.1 C.2.1 dX6_take_192 rfl (lv_at hl 1 rfl) ?_
    refine goV (wf := (xw g)) (runV (w := xw g M) (As := [.int v1]) (rest := []) C lkX6_161 (c_X6_takeOfBird l g C.2.2.2.2.2.2.2.2.2.2 v1  M _ hw) hP hS rfl rfl ⟨Nat.le_of_ble_eq_true rfl, Nat.le_of_ble_eq_true rfl⟩ (xx_2 Nat.zero_lt_one) rfl rfl hl.1 rfl (Nat.le_of_ble_eq_true rfl) dX6_take_193) hS (fun M4 hw H locs hP hS => ?_)
    exact retV (wf := (xw g)) C hP hS hw dX6_take_196
  by_cases q3_2 : v1 = 2
  · have hw := hw.2.2.2.2.2.2.2 (by rw [q3_2]; decide) (by rw [q3_2]; decide) (by rw [q3_2]; decide) (by rw [q3_2]; decide) (by rw [q3_2]; decide) (by rw [q3_2]; decide) (by rw [q3_2]; decide)
    refine lv_tableIn (tgt := 191) (off := 168) C.1 C.2.1 dX6_take_23 (by rw [q3_2]; decide) (by rw [q3_2]; decide) (by rw [q3_2]; decide +kernel) (by decide) ?_
    refine lv_aload_n C.1 C.2.1 dX6_take_191 rfl (lv_at hl 0 rfl) ?_
    refine lv_iload_n C.1 C.2.1 dX6_take_192 rfl (lv_at hl 1 rfl) ?_
    refine goV (wf := (xw g)) (runV (w := xw g M) (As := [.int v1]) (rest := []) C lkX6_161 (c_X6_takeOfBird l g C.2.2.2.2.2.2.2.2.2.2 v1  M _ hw) hP hS rfl rfl ⟨Nat.le_of_ble_eq_true rfl, Nat.le_of_ble_eq_true rfl⟩ (xx_2 Nat.zero_lt_one) rfl rfl hl.1 rfl (Nat.le_of_ble_eq_true rfl) dX6_take_193) hS (fun M4 hw H locs hP hS => ?_)
    exact retV (wf := (xw g)) C hP hS hw dX6_take_196
  by_cases q3_3 : v1 = 3
  · have hw := hw.2.2.2.2.2.2.2 (by rw [q3_3]; decide) (by rw [q3_3]; decide) (by rw [q3_3]; decide) (by rw [q3_3]; decide) (by rw [q3_3]; decide) (by rw [q3_3]; decide) (by rw [q3_3]; decide)
    refine lv_tableIn (tgt := 191) (off := 168) C.1 C.2.1 dX6_take_23 (by rw [q3_3]; decide) (by rw [q3_3]; decide) (by rw [q3_3]; decide +kernel) (by decide) ?_
    refine lv_aload_n C.1 C.2.1 dX6_take_191 rfl (lv_at hl 0 rfl) ?_
    refine lv_iload_n C.1 C.2.1 dX6_take_192 rfl (lv_at hl 1 rfl) ?_
    refine goV (wf := (xw g)) (runV (w := xw g M) (As := [.int v1]) (rest := []) C lkX6_161 (c_X6_takeOfBird l g C.2.2.2.2.2.2.2.2.2.2 v1  M _ hw) hP hS rfl rfl ⟨Nat.le_of_ble_eq_true rfl, Nat.le_of_ble_eq_true rfl⟩ (xx_2 Nat.zero_lt_one) rfl rfl hl.1 rfl (Nat.le_of_ble_eq_true rfl) dX6_take_193) hS (fun M4 hw H locs hP hS => ?_)
    exact retV (wf := (xw g)) C hP hS hw dX6_take_196
  by_cases q3_4 : v1 = 4
  · have hw := hw.2.2.2.2.2.2.2 (by rw [q3_4]; decide) (by rw [q3_4]; decide) (by rw [q3_4]; decide) (by rw [q3_4]; decide) (by rw [q3_4]; decide) (by rw [q3_4]; decide) (by rw [q3_4]; decide)
    refine lv_tableIn (tgt := 191) (off := 168) C.1 C.2.1 dX6_take_23 (by rw [q3_4]; decide) (by rw [q3_4]; decide) (by rw [q3_4]; decide +kernel) (by decide) ?_
    refine lv_aload_n C.1 C.2.1 dX6_take_191 rfl (lv_at hl 0 rfl) ?_
    refine lv_iload_n C.1 C.2.1 dX6_take_192 rfl (lv_at hl 1 rfl) ?_
    refine goV (wf := (xw g)) (runV (w := xw g M) (As := [.int v1]) (rest := []) C lkX6_161 (c_X6_takeOfBird l g C.2.2.2.2.2.2.2.2.2.2 v1  M _ hw) hP hS rfl rfl ⟨Nat.le_of_ble_eq_true rfl, Nat.le_of_ble_eq_true rfl⟩ (xx_2 Nat.zero_lt_one) rfl rfl hl.1 rfl (Nat.le_of_ble_eq_true rfl) dX6_take_193) hS (fun M4 hw H locs hP hS => ?_)
    exact retV (wf := (xw g)) C hP hS hw dX6_take_196
  by_cases q3_5 : v1 = 5
  · have hw := hw.2.2.2.2.2.2.2 (by rw [q3_5]; decide) (by rw [q3_5]; decide) (by rw [q3_5]; decide) (by rw [q3_5]; decide) (by rw [q3_5]; decide) (by rw [q3_5]; decide) (by rw [q3_5]; decide)
    refine lv_tableIn (tgt := 191) (off := 168) C.1 C.2.1 dX6_take_23 (by rw [q3_5]; decide) (by rw [q3_5]; decide) (by rw [q3_5]; decide +kernel) (by decide) ?_
    refine lv_aload_n C.1 C.2.1 dX6_take_191 rfl (lv_at hl 0 rfl) ?_
    refine lv_iload_n C.1 C.2.1 dX6_take_192 rfl (lv_at hl 1 rfl) ?_
    refine goV (wf := (xw g)) (runV (w := xw g M) (As := [.int v1]) (rest := []) C lkX6_161 (c_X6_takeOfBird l g C.2.2.2.2.2.2.2.2.2.2 v1  M _ hw) hP hS rfl rfl ⟨Nat.le_of_ble_eq_true rfl, Nat.le_of_ble_eq_true rfl⟩ (xx_2 Nat.zero_lt_one) rfl rfl hl.1 rfl (Nat.le_of_ble_eq_true rfl) dX6_take_193) hS (fun M4 hw H locs hP hS => ?_)
    exact retV (wf := (xw g)) C hP hS hw dX6_take_196
  by_cases q3_6 : v1 = 6
  · have hw := hw.2.1 q3_6
    refine lv_tableIn (tgt := 104) (off := 81) C.1 C.2.1 dX6_take_23 (by rw [q3_6]; decide) (by rw [q3_6]; decide) (by rw [q3_6]; decide +kernel) (by decide) ?_
    refine lv_aload_n C.1 C.2.1 dX6_take_104 rfl (lv_at hl 0 rfl) ?_
    refine goV (wf := (xw g)) (runV (w := xw g M) (As := []) (rest := []) C lkX6_143 (c_X6_takeHome l g C.2.2.2.2.2.2.2.2.2.2   M _ hw) hP hS rfl rfl ⟨Nat.le_of_ble_eq_true rfl, Nat.le_of_ble_eq_true rfl⟩ (xx_2 Nat.zero_lt_one) rfl rfl hl.1 rfl (Nat.le_of_ble_eq_true rfl) dX6_take_105) hS (fun M8 hw H locs hP hS => ?_)
    refine lv_goto (tgt := 196) C.1 C.2.1 dX6_take_108 (by decide) ?_
    exact retV (wf := (xw g)) C hP hS hw dX6_take_196
  by_cases q3_7 : v1 = 7
  · have hw := hw.2.2.1 q3_7
    refine lv_tableIn (tgt := 111) (off := 88) C.1 C.2.1 dX6_take_23 (by rw [q3_7]; decide) (by rw [q3_7]; decide) (by rw [q3_7]; decide +kernel) (by decide) ?_
    refine lv_aload_n C.1 C.2.1 dX6_take_111 rfl (lv_at hl 0 rfl) ?_
    obtain ⟨w9, h9, hb9, hw⟩ := hw
    refine gX6_34f C hP Nat.zero_lt_one h9 dX6_take_112 ?_
    refine lv_aload_n C.1 C.2.1 dX6_take_115 rfl (lv_at hl 0 rfl) ?_
    refine gX6_19 C hP Nat.zero_lt_one dX6_take_116 ?_
    refine lv_iconst (v := 0) C.1 C.2.1 dX6_take_119 (by decide) ?_
    obtain ⟨h10, hw⟩ := hw
    refine al_3 C hP Nat.zero_lt_one h10 dX6_take_120 ?_
    refine pX6_146 C hP hS hb9 dX6_take_121 (fun M11 e11 H locs hP hS => ?_)
    have hw := hw M11 e11
    refine lv_goto (tgt := 196) C.1 C.2.1 dX6_take_124 (by decide) ?_
    exact retV (wf := (xw g)) C hP hS hw dX6_take_196
  by_cases q3_8 : v1 = 8
  · have hw := hw.2.2.2.1 q3_8
    refine lv_tableIn (tgt := 127) (off := 104) C.1 C.2.1 dX6_take_23 (by rw [q3_8]; decide) (by rw [q3_8]; decide) (by rw [q3_8]; decide +kernel) (by decide) ?_
    refine lv_aload_n C.1 C.2.1 dX6_take_127 rfl (lv_at hl 0 rfl) ?_
    obtain ⟨w12, h12, hb12, hw⟩ := hw
    refine gX6_34f C hP Nat.zero_lt_one h12 dX6_take_128 ?_
    refine lv_aload_n C.1 C.2.1 dX6_take_131 rfl (lv_at hl 0 rfl) ?_
    refine gX6_19 C hP Nat.zero_lt_one dX6_take_132 ?_
    refine lv_iconst (v := 0) C.1 C.2.1 dX6_take_135 (by decide) ?_
    obtain ⟨h13, hw⟩ := hw
    refine al_3 C hP Nat.zero_lt_one h13 dX6_take_136 ?_
    refine pX6_149 C hP hS hb12 dX6_take_137 (fun M14 e14 H locs hP hS => ?_)
    have hw := hw M14 e14
    refine lv_goto (tgt := 196) C.1 C.2.1 dX6_take_140 (by decide) ?_
    exact retV (wf := (xw g)) C hP hS hw dX6_take_196
  by_cases q3_9 : v1 = 9
  · have hw := hw.2.2.2.2.1 q3_9
    refine lv_tableIn (tgt := 143) (off := 120) C.1 C.2.1 dX6_take_23 (by rw [q3_9]; decide) (by rw [q3_9]; decide) (by rw [q3_9]; decide +kernel) (by decide) ?_
    refine lv_aload_n C.1 C.2.1 dX6_take_143 rfl (lv_at hl 0 rfl) ?_
    obtain ⟨w15, h15, hb15, hw⟩ := hw
    refine gX6_34f C hP Nat.zero_lt_one h15 dX6_take_144 ?_
    refine lv_aload_n C.1 C.2.1 dX6_take_147 rfl (lv_at hl 0 rfl) ?_
    refine gX6_19 C hP Nat.zero_lt_one dX6_take_148 ?_
    refine lv_iconst (v := 0) C.1 C.2.1 dX6_take_151 (by decide) ?_
    obtain ⟨h16, hw⟩ := hw
    refine al_3 C hP Nat.zero_lt_one h16 dX6_take_152 ?_
    refine pX6_152 C hP hS hb15 dX6_take_153 (fun M17 e17 H locs hP hS => ?_)
    have hw := hw M17 e17
    refine lv_goto (tgt := 196) C.1 C.2.1 dX6_take_156 (by decide) ?_
    exact retV (wf := (xw g)) C hP hS hw dX6_take_196
  by_cases q3_10 : v1 = 10
  · have hw := hw.2.2.2.2.2.1 q3_10
    refine lv_tableIn (tgt := 159) (off := 136) C.1 C.2.1 dX6_take_23 (by rw [q3_10]; decide) (by rw [q3_10]; decide) (by rw [q3_10]; decide +kernel) (by decide) ?_
    refine lv_aload_n C.1 C.2.1 dX6_take_159 rfl (lv_at hl 0 rfl) ?_
    obtain ⟨w18, h18, hb18, hw⟩ := hw
    refine gX6_34f C hP Nat.zero_lt_one h18 dX6_take_160 ?_
    refine lv_aload_n C.1 C.2.1 dX6_take_163 rfl (lv_at hl 0 rfl) ?_
    refine gX6_19 C hP Nat.zero_lt_one dX6_take_164 ?_
    refine lv_iconst (v := 0) C.1 C.2.1 dX6_take_167 (by decide) ?_
    obtain ⟨h19, hw⟩ := hw
    refine al_3 C hP Nat.zero_lt_one h19 dX6_take_168 ?_
    refine pX6_155 C hP hS hb18 dX6_take_169 (fun M20 e20 H locs hP hS => ?_)
    have hw := hw M20 e20
    refine lv_goto (tgt := 196) C.1 C.2.1 dX6_take_172 (by decide) ?_
    exact retV (wf := (xw g)) C hP hS hw dX6_take_196
  by_cases q3_11 : v1 = 11
  · have hw := hw.2.2.2.2.2.2.1 q3_11
    refine lv_tableIn (tgt := 175) (off := 152) C.1 C.2.1 dX6_take_23 (by rw [q3_11]; decide) (by rw [q3_11]; decide) (by rw [q3_11]; decide +kernel) (by decide) ?_
    refine lv_aload_n C.1 C.2.1 dX6_take_175 rfl (lv_at hl 0 rfl) ?_
    obtain ⟨w21, h21, hb21, hw⟩ := hw
    refine gX6_34f C hP Nat.zero_lt_one h21 dX6_take_176 ?_
    refine lv_aload_n C.1 C.2.1 dX6_take_179 rfl (lv_at hl 0 rfl) ?_
    refine gX6_19 C hP Nat.zero_lt_one dX6_take_180 ?_
    refine lv_iconst (v := 0) C.1 C.2.1 dX6_take_183 (by decide) ?_
    obtain ⟨h22, hw⟩ := hw
    refine al_3 C hP Nat.zero_lt_one h22 dX6_take_184 ?_
    refine pX6_158 C hP hS hb21 dX6_take_185 (fun M23 e23 H locs hP hS => ?_)
    have hw := hw M23 e23
    refine lv_goto (tgt := 196) C.1 C.2.1 dX6_take_188 (by decide) ?_
    exact retV (wf := (xw g)) C hP hS hw dX6_take_196
  have hw := hw.2.2.2.2.2.2.2 q3_0 q3_6 q3_7 q3_8 q3_9 q3_10 q3_11
  have n3_0 : v1.toInt ≠ 0 := tsw q3_0
  have n3_1 : v1.toInt ≠ 1 := tsw q3_1
  have n3_2 : v1.toInt ≠ 2 := tsw q3_2
  have n3_3 : v1.toInt ≠ 3 := tsw q3_3
  have n3_4 : v1.toInt ≠ 4 := tsw q3_4
  have n3_5 : v1.toInt ≠ 5 := tsw q3_5
  have n3_6 : v1.toInt ≠ 6 := tsw q3_6
  have n3_7 : v1.toInt ≠ 7 := tsw q3_7
  have n3_8 : v1.toInt ≠ 8 := tsw q3_8
  have n3_9 : v1.toInt ≠ 9 := tsw q3_9
  have n3_10 : v1.toInt ≠ 10 := tsw q3_10
  have n3_11 : v1.toInt ≠ 11 := tsw q3_11
  refine lv_tableOut (tgt := 191) C.1 C.2.1 dX6_take_23 (by omega) (by decide) ?_
  refine lv_aload_n C.1 C.2.1 dX6_take_191 rfl (lv_at hl 0 rfl) ?_
  refine lv_iload_n C.1 C.2.1 dX6_take_192 rfl (lv_at hl 1 rfl) ?_
  refine goV (wf := (xw g)) (runV (w := xw g M) (As := [.int v1]) (rest := []) C lkX6_161 (c_X6_takeOfBird l g C.2.2.2.2.2.2.2.2.2.2 v1  M _ hw) hP hS rfl rfl ⟨Nat.le_of_ble_eq_true rfl, Nat.le_of_ble_eq_true rfl⟩ (xx_2 Nat.zero_lt_one) rfl rfl hl.1 rfl (Nat.le_of_ble_eq_true rfl) dX6_take_193) hS (fun M4 hw H locs hP hS => ?_)
  exact retV (wf := (xw g)) C hP hS hw dX6_take_196
def p_X6_take (a1 : Int32) (M : Mem) (Q : Mem → Prop) : Prop := (p_X6_isOnce a1 M (fun r1 M1 => ((r1 = 0 → (b_X6_take_22 Q a1 M1)) ∧ (¬ r1 = 0 → (∃ w24 : Nat, M1.2.2 2 0 8 = some (23 + w24) ∧ w24 < 2 ∧ (∀ M25 : Mem, M25 = sI M1 23 w24 15 ((M1.1 23 w24 15) ||| ((1 : Int32) <<< (a1 &&& 31))) → (b_X6_take_22 Q a1 M25)))))))
set_option maxRecDepth 100000 in
set_option maxHeartbeats 4000000 in
theorem c_X6_take (l : Launch) (g : Geo) (gi : GI g) (a1 : Int32) (M : Mem) (Q : Mem → Prop) (hw : p_X6_take a1 M Q) : Met l yX6_take (Cond.code yX6_take cX6_take 2 none :: bg) ({ frames := 3, cells := 0, slots := 0, locals := 67 } : Room) (va_Pc [.ref (g.2.1 (2 + 0)), .int a1] (PW g (xw g M))) (va_Qv Q (PB g (xw g)) (Af 0 g)) 0 0 (Af 0 g) := by
  refine Met.ofW (cc := cX6_take) (maxL := 2) (ret := none) (by decide +kernel) rfl ?_
  intro p e s m args below meth c s₁ B hml hv
  obtain ⟨rfl, hv⟩ := hv
  have C := CX.start (own := RX6) B hml rfl gi hv
  have hP := hv.1
  have hS : va_S (Af 0 g) s.heap s.heap [] := va_S.rf
  have hl := lv_entry ([.ref (g.2.1 (2 + 0)), .int a1]) (n := 2) (Nat.le_of_ble_eq_true rfl)
  rw [lg_entry_eq]
  generalize (lg_sl ([.ref (g.2.1 (2 + 0)), .int a1]) ++ List.replicate (2 - (lg_sl ([.ref (g.2.1 (2 + 0)), .int a1])).length) Slot.unset).toArray = ls at hl ⊢
  have hl : lv_has ls 2 [(0, .ref (g.2.1 (2 + 0))), (1, .int a1)] := hl
  unfold p_X6_take at hw
  refine lv_iload_n C.1 C.2.1 dX6_take_0 rfl (lv_at hl 1 rfl) ?_
  refine goI (wf := (xw g)) (runS (w := xw g M) (As := [.int a1]) (rest := []) C lkX6_76 (c_X6_isOnce l g C.2.2.2.2.2.2.2.2.2.2 a1  M _ hw) hP hS rfl rfl ⟨Nat.le_of_ble_eq_true rfl, Nat.le_of_ble_eq_true rfl⟩ hl.1 rfl (Nat.le_of_ble_eq_true rfl) dX6_take_1) hS (fun r1 M1 hw H locs hP hS => ?_)
  obtain ⟨hw, hz1⟩ := hw
  refine lv_if_eq (tgt := 22) C.1 C.2.1 dX6_take_4 (by decide) (fun h2 => ?_) (fun h2 => ?_)
  · have hw := hw.1 h2
    exact k_X6_take_22 (Q := Q) C a1  _ hw (lv_sub hl [0, 1] rfl) hP hS
  · have hw := hw.2 h2
    refine lv_aload_n C.1 C.2.1 dX6_take_7 rfl (lv_at hl 0 rfl) ?_
    obtain ⟨w24, h24, hb24, hw⟩ := hw
    refine gX6_34f C hP Nat.zero_lt_one h24 dX6_take_8 ?_
    refine lv_dup C.1 C.2.1 dX6_take_11 rfl ?_
    refine gX6_79 C hP hb24 dX6_take_12 ?_
    refine lv_iconst (v := 1) C.1 C.2.1 dX6_take_15 (by decide) ?_
    refine lv_iload_n C.1 C.2.1 dX6_take_16 rfl (lv_at hl 1 rfl) ?_
    refine lv_ishl C.1 C.2.1 dX6_take_17 ?_
    refine lv_ior C.1 C.2.1 dX6_take_18 ?_
    refine pX6_79 C hP hS hb24 dX6_take_19 (fun M25 e25 H locs hP hS => ?_)
    have hw := hw M25 e25
    exact k_X6_take_22 (Q := Q) C a1  _ hw (lv_sub hl [0, 1] rfl) hP hS
def b_X6_wordNumber_2 (Q : Int32 → Mem → Prop) : Nat → Int32 → Int32 → Mem → Prop
  | 0, _, _, _ => False
  | n + 1, v0, v1, M => ((12 ≤ v1 → (Q (-1) M)) ∧ (¬ 12 ≤ v1 → (vp_in v1 12 ∧ ((¬ (stab 0 (v1 : Int32).toNatClampNeg) = v0 → (∀ x4 : Int32, x4 = (v1 + 1) → (b_X6_wordNumber_2 Q n v0 x4 M))) ∧ ((stab 0 (v1 : Int32).toNatClampNeg) = v0 → (Q v1 M))))))
set_option maxRecDepth 100000 in
set_option maxHeartbeats 4000000 in
theorem k_X6_wordNumber_2 {p : Program} {l : Launch} {e : Env} {s : State} {m : MethodId} {args : Array Value} {below : List Frame} {meth : Method} {c : Code} {g : Geo} (C : CX g p s m args meth c cX6_wordNumber 2 (some .int) RX6) {Q : Int32 → Mem → Prop} : ∀ (n : Nat) (v0 : Int32) (v1 : Int32) (M : Mem) (hw : b_X6_wordNumber_2 Q n v0 v1 M) {H : Heap} {locs : List Loc} {ls : Array Slot} (hl : lv_has ls 2 [(0, .int v0), (1, .int v1)]) (hP : va_P g.1 clz (xw g M) H) (hS : va_S (Af 0 g) s.heap H locs), W p l e ({ frames := 0, cells := 0, slots := 0, locals := 0 } : Room) s m args below meth c H locs 0 0 (MQ below (va_Qi Q (PB g (xw g)) (Af 0 g)) args s 0 0 (Af 0 g)) (F0 m 2 ls []) := by
  intro n
  induction n with
  | zero => intro v0 v1 M hw H locs ls hl hP hS; exact absurd hw (by rw [b_X6_wordNumber_2]; exact fun h => h)
  | succ n ih =>
    intro v0 v1 M hw H locs ls hl hP hS
    rw [b_X6_wordNumber_2] at hw
    refine lv_iload_n C.1 C.2.1 dX6_wordNumber_2 rfl (lv_at hl 1 rfl) ?_
    refine gX6_206 C hS dX6_wordNumber_3 ?_
    refine sn_0 C hS dX6_wordNumber_6 ?_
    refine lv_icmp_ge (tgt := 27) C.1 C.2.1 dX6_wordNumber_7 (by decide) (fun h1 => ?_) (fun h1 => ?_)
    · have hw := hw.1 h1
      refine lv_iconst (v := (-1)) C.1 C.2.1 dX6_wordNumber_27 (by decide) ?_
      exact retI (wf := (xw g)) C hP hS hw dX6_wordNumber_28
    · have hw := hw.2 h1
      refine gX6_206 C hS dX6_wordNumber_10 ?_
      refine lv_iload_n C.1 C.2.1 dX6_wordNumber_13 rfl (lv_at hl 1 rfl) ?_
      obtain ⟨h2, hw⟩ := hw
      refine si_0 C hS h2 dX6_wordNumber_14 ?_
      refine lv_iload_n C.1 C.2.1 dX6_wordNumber_15 rfl (lv_at hl 0 rfl) ?_
      refine lv_icmp_ne (tgt := 21) C.1 C.2.1 dX6_wordNumber_16 (by decide) (fun h3 => ?_) (fun h3 => ?_)
      · have hw := hw.1 h3
        obtain ⟨x4, e4⟩ : ∃ y : Int32, y = (v1 + 1) := ⟨_, rfl⟩
        have hw := hw x4 e4
        refine lv_iinc (v := x4) (lv' := [(1, .int x4), (0, .int v0)]) C.1 C.2.1 dX6_wordNumber_21 hl (k := 1) rfl (by rw [e4]; rfl) (by decide) rfl (fun ls hl => ?_)
        refine lv_goto (tgt := 2) C.1 C.2.1 dX6_wordNumber_24 (by decide) ?_
        exact ih v0 x4  _ hw (lv_sub hl [1, 0] rfl) hP hS
      · have hw := hw.2 h3
        refine lv_iload_n C.1 C.2.1 dX6_wordNumber_19 rfl (lv_at hl 1 rfl) ?_
        exact retI (wf := (xw g)) C hP hS hw dX6_wordNumber_20
def p_X6_wordNumber (a0 : Int32) (M : Mem) (Q : Int32 → Mem → Prop) : Prop := (∃ n2 : Nat, b_X6_wordNumber_2 Q n2 a0 0 M)
set_option maxRecDepth 100000 in
set_option maxHeartbeats 4000000 in
theorem c_X6_wordNumber (l : Launch) (g : Geo) (gi : GI g) (a0 : Int32) (M : Mem) (Q : Int32 → Mem → Prop) (hw : p_X6_wordNumber a0 M Q) : Met l yX6_wordNumber (Cond.code yX6_wordNumber cX6_wordNumber 2 (some .int) :: bg) ({ frames := 0, cells := 0, slots := 0, locals := 0 } : Room) (va_Pc [.int a0] (PW g (xw g M))) (va_Qi Q (PB g (xw g)) (Af 0 g)) 0 0 (Af 0 g) := by
  refine Met.ofW (cc := cX6_wordNumber) (maxL := 2) (ret := (some .int)) (by decide +kernel) rfl ?_
  intro p e s m args below meth c s₁ B hml hv
  obtain ⟨rfl, hv⟩ := hv
  have C := CX.start (own := RX6) B hml rfl gi hv
  have hP := hv.1
  have hS : va_S (Af 0 g) s.heap s.heap [] := va_S.rf
  have hl := lv_entry ([.int a0]) (n := 2) (Nat.le_of_ble_eq_true rfl)
  rw [lg_entry_eq]
  generalize (lg_sl ([.int a0]) ++ List.replicate (2 - (lg_sl ([.int a0])).length) Slot.unset).toArray = ls at hl ⊢
  have hl : lv_has ls 2 [(0, .int a0)] := hl
  unfold p_X6_wordNumber at hw
  refine lv_iconst (v := 0) C.1 C.2.1 dX6_wordNumber_0 (by decide) ?_
  refine lv_istore_n (lv' := [(1, .int 0), (0, .int a0)]) C.1 C.2.1 dX6_wordNumber_1 rfl hl (by decide) rfl (fun ls hl => ?_)
  obtain ⟨n9, hw⟩ := hw
  exact k_X6_wordNumber_2 (Q := Q) C n9 a0 0  _ hw (lv_sub hl [1, 0] rfl) hP hS
def b_X9_numberOf_2 (Q : Int32 → Mem → Prop) : Nat → Nat → Int32 → Int32 → Mem → Prop
  | 0, _, _, _, _ => False
  | n + 1, v0, v1, v2, M => (((M.1 23 v0 1) ≤ v2 → (Q (-1) M)) ∧ (¬ (M.1 23 v0 1) ≤ v2 → (vp_in v2 5 ∧ ((¬ (M.1 25 (5 * v0 + (v2 : Int32).toNatClampNeg) 0) = v1 → (∀ x4 : Int32, x4 = (v2 + 1) → (b_X9_numberOf_2 Q n v0 v1 x4 M))) ∧ ((M.1 25 (5 * v0 + (v2 : Int32).toNatClampNeg) 0) = v1 → (Q v2 M))))))
set_option maxRecDepth 100000 in
set_option maxHeartbeats 4000000 in
theorem k_X9_numberOf_2 {p : Program} {l : Launch} {e : Env} {s : State} {m : MethodId} {args : Array Value} {below : List Frame} {meth : Method} {c : Code} {g : Geo} (C : CX g p s m args meth c cX9_numberOf 3 (some .int) RX9) {Q : Int32 → Mem → Prop} : ∀ (n : Nat) (v0 : Nat) (v1 : Int32) (v2 : Int32) (hv0 : v0 < 2) (M : Mem) (hw : b_X9_numberOf_2 Q n v0 v1 v2 M) {H : Heap} {locs : List Loc} {ls : Array Slot} (hl : lv_has ls 3 [(0, .ref (g.2.1 (23 + v0))), (1, .int v1), (2, .int v2)]) (hP : va_P g.1 clz (xw g M) H) (hS : va_S (Af 0 g) s.heap H locs), W p l e ({ frames := 0, cells := 0, slots := 0, locals := 0 } : Room) s m args below meth c H locs 0 0 (MQ below (va_Qi Q (PB g (xw g)) (Af 0 g)) args s 0 0 (Af 0 g)) (F0 m 2 ls []) := by
  intro n
  induction n with
  | zero => intro v0 v1 v2 hv0 M hw H locs ls hl hP hS; exact absurd hw (by rw [b_X9_numberOf_2]; exact fun h => h)
  | succ n ih =>
    intro v0 v1 v2 hv0 M hw H locs ls hl hP hS
    rw [b_X9_numberOf_2] at hw
    refine lv_iload_n C.1 C.2.1 dX9_numberOf_2 rfl (lv_at hl 2 rfl) ?_
    refine lv_aload_n C.1 C.2.1 dX9_numberOf_3 rfl (lv_at hl 0 rfl) ?_
    refine gX9_24 C hP hv0 dX9_numberOf_4 ?_
    refine lv_icmp_ge (tgt := 31) C.1 C.2.1 dX9_numberOf_7 (by decide) (fun h1 => ?_) (fun h1 => ?_)
    · have hw := hw.1 h1
      refine lv_iconst (v := (-1)) C.1 C.2.1 dX9_numberOf_31 (by decide) ?_
      exact retI (wf := (xw g)) C hP hS hw dX9_numberOf_32
    · have hw := hw.2 h1
      refine lv_aload_n C.1 C.2.1 dX9_numberOf_10 rfl (lv_at hl 0 rfl) ?_
      refine gX9_11 C hP hv0 dX9_numberOf_11 ?_
      refine lv_iload_n C.1 C.2.1 dX9_numberOf_14 rfl (lv_at hl 2 rfl) ?_
      obtain ⟨h2, hw⟩ := hw
      have hb2 : (5 * v0 + (v2 : Int32).toNatClampNeg) < 10 := by have h9 := vp_lt h2; have h8 := hv0; omega
      refine al_24 C hP hv0 h2 dX9_numberOf_15 ?_
      refine gX9_77 C hP hb2 dX9_numberOf_16 ?_
      refine lv_iload_n C.1 C.2.1 dX9_numberOf_19 rfl (lv_at hl 1 rfl) ?_
      refine lv_icmp_ne (tgt := 25) C.1 C.2.1 dX9_numberOf_20 (by decide) (fun h3 => ?_) (fun h3 => ?_)
      · have hw := hw.1 h3
        obtain ⟨x4, e4⟩ : ∃ y : Int32, y = (v2 + 1) := ⟨_, rfl⟩
        have hw := hw x4 e4
        refine lv_iinc (v := x4) (lv' := [(2, .int x4), (0, .ref (g.2.1 (23 + v0))), (1, .int v1)]) C.1 C.2.1 dX9_numberOf_25 hl (k := 2) rfl (by rw [e4]; rfl) (by decide) rfl (fun ls hl => ?_)
        refine lv_goto (tgt := 2) C.1 C.2.1 dX9_numberOf_28 (by decide) ?_
        exact ih v0 v1 x4 hv0 _ hw (lv_sub hl [1, 2, 0] rfl) hP hS
      · have hw := hw.2 h3
        refine lv_iload_n C.1 C.2.1 dX9_numberOf_23 rfl (lv_at hl 2 rfl) ?_
        exact retI (wf := (xw g)) C hP hS hw dX9_numberOf_24
def p_X9_numberOf (a0 : Nat) (a1 : Int32) (M : Mem) (Q : Int32 → Mem → Prop) : Prop := (∃ n2 : Nat, b_X9_numberOf_2 Q n2 a0 a1 0 M)
set_option maxRecDepth 100000 in
set_option maxHeartbeats 4000000 in
theorem c_X9_numberOf (l : Launch) (g : Geo) (gi : GI g) (a0 : Nat) (a1 : Int32) (ha0 : a0 < 2) (M : Mem) (Q : Int32 → Mem → Prop) (hw : p_X9_numberOf a0 a1 M Q) : Met l yX9_numberOf (Cond.code yX9_numberOf cX9_numberOf 3 (some .int) :: bg) ({ frames := 0, cells := 0, slots := 0, locals := 0 } : Room) (va_Pc [.ref (g.2.1 (23 + a0)), .int a1] (PW g (xw g M))) (va_Qi Q (PB g (xw g)) (Af 0 g)) 0 0 (Af 0 g) := by
  refine Met.ofW (cc := cX9_numberOf) (maxL := 3) (ret := (some .int)) (by decide +kernel) rfl ?_
  intro p e s m args below meth c s₁ B hml hv
  obtain ⟨rfl, hv⟩ := hv
  have C := CX.start (own := RX9) B hml rfl gi hv
  have hP := hv.1
  have hS : va_S (Af 0 g) s.heap s.heap [] := va_S.rf
  have hl := lv_entry ([.ref (g.2.1 (23 + a0)), .int a1]) (n := 3) (Nat.le_of_ble_eq_true rfl)
  rw [lg_entry_eq]
  generalize (lg_sl ([.ref (g.2.1 (23 + a0)), .int a1]) ++ List.replicate (3 - (lg_sl ([.ref (g.2.1 (23 + a0)), .int a1])).length) Slot.unset).toArray = ls at hl ⊢
  have hl : lv_has ls 3 [(0, .ref (g.2.1 (23 + a0))), (1, .int a1)] := hl
  unfold p_X9_numberOf at hw
  refine lv_iconst (v := 0) C.1 C.2.1 dX9_numberOf_0 (by decide) ?_
  refine lv_istore_n (lv' := [(2, .int 0), (0, .ref (g.2.1 (23 + a0))), (1, .int a1)]) C.1 C.2.1 dX9_numberOf_1 rfl hl (by decide) rfl (fun ls hl => ?_)
  obtain ⟨n9, hw⟩ := hw
  exact k_X9_numberOf_2 (Q := Q) C n9 a0 a1 0 ha0 _ hw (lv_sub hl [1, 2, 0] rfl) hP hS
def p_X6_isToldOfBird (a1 : Int32) (M : Mem) (Q : Int32 → Mem → Prop) : Prop := ((M.2.2 2 0 10 = none → (Q 0 M)) ∧ (∀ q1 : Nat, M.2.2 2 0 10 = some q1 → ((a1 = 1 → (∃ w3 : Nat, M.2.2 2 0 10 = some (27 + w3) ∧ w3 < 10 ∧ (p_X0_isHeard w3 M (fun r4 M4 => (Q r4 M4))))) ∧ (a1 = 2 → (∃ w5 : Nat, M.2.2 2 0 10 = some (27 + w5) ∧ w5 < 10 ∧ (((M.1 25 w5 7) ≤ 0 → (Q 0 M)) ∧ (¬ (M.1 25 w5 7) ≤ 0 → (Q 1 M))))) ∧ (a1 = 3 → (∃ w7 : Nat, M.2.2 2 0 10 = some (27 + w7) ∧ w7 < 10 ∧ (((M.1 25 w7 8) ≤ 0 → (Q 0 M)) ∧ (¬ (M.1 25 w7 8) ≤ 0 → (Q 1 M))))) ∧ (a1 = 5 → (∃ w9 : Nat, M.2.2 2 0 10 = some (27 + w9) ∧ w9 < 10 ∧ (narrow .boolean (.int (M.1 25 w9 9)) = .int (M.1 25 w9 9) ∧ Q (M.1 25 w9 9) M))) ∧ (¬ a1 = 1 → ¬ a1 = 2 → ¬ a1 = 3 → ¬ a1 = 5 → (Q 0 M)))))
set_option maxRecDepth 100000 in
set_option maxHeartbeats 4000000 in
theorem c_X6_isToldOfBird (l : Launch) (g : Geo) (gi : GI g) (a1 : Int32) (M : Mem) (Q : Int32 → Mem → Prop) (hw : p_X6_isToldOfBird a1 M Q) : Met l yX6_isToldOfBird (Cond.code yX6_isToldOfBird cX6_isToldOfBird 2 (some .boolean) :: bg) ({ frames := 1, cells := 0, slots := 0, locals := 20 } : Room) (va_Pc [.ref (g.2.1 (2 + 0)), .int a1] (PW g (xw g M))) (va_Qi (fun r M => Q r M ∧ narrow .boolean (.int r) = .int r) (PB g (xw g)) (Af 0 g)) 0 0 (Af 0 g) := by
  refine Met.ofW (cc := cX6_isToldOfBird) (maxL := 2) (ret := (some .boolean)) (by decide +kernel) rfl ?_
  intro p e s m args below meth c s₁ B hml hv
  obtain ⟨rfl, hv⟩ := hv
  have C := CX.start (own := RX6) B hml rfl gi hv
  have hP := hv.1
  have hS : va_S (Af 0 g) s.heap s.heap [] := va_S.rf
  have hl := lv_entry ([.ref (g.2.1 (2 + 0)), .int a1]) (n := 2) (Nat.le_of_ble_eq_true rfl)
  rw [lg_entry_eq]
  generalize (lg_sl ([.ref (g.2.1 (2 + 0)), .int a1]) ++ List.replicate (2 - (lg_sl ([.ref (g.2.1 (2 + 0)), .int a1])).length) Slot.unset).toArray = ls at hl ⊢
  have hl : lv_has ls 2 [(0, .ref (g.2.1 (2 + 0))), (1, .int a1)] := hl
  unfold p_X6_isToldOfBird at hw
  refine lv_aload_n C.1 C.2.1 dX6_isToldOfBird_0 rfl (lv_at hl 0 rfl) ?_
  refine gX6_105 C hP Nat.zero_lt_one dX6_isToldOfBird_1 ?_
  rcases h1 : M.2.2 2 0 10 with _ | q1
  · have hw := hw.1 h1
    refine lv_ifnonnullN C.1 C.2.1 dX6_isToldOfBird_4 ?_
    refine lv_iconst (v := 0) C.1 C.2.1 dX6_isToldOfBird_7 (by decide) ?_
    exact retZ (wf := (xw g)) C hP hS rfl hw dX6_isToldOfBird_8
  · have hw := hw.2 _ h1
    refine lv_ifnonnull (tgt := 9) C.1 C.2.1 dX6_isToldOfBird_4 (by decide) ?_
    refine lv_iload_n C.1 C.2.1 dX6_isToldOfBird_9 rfl (lv_at hl 1 rfl) ?_
    by_cases q2_0 : a1 = 1
    · have hw := hw.1 q2_0
      refine lv_tableIn (tgt := 44) (off := 34) C.1 C.2.1 dX6_isToldOfBird_10 (by rw [q2_0]; decide) (by rw [q2_0]; decide) (by rw [q2_0]; decide +kernel) (by decide) ?_
      refine lv_aload_n C.1 C.2.1 dX6_isToldOfBird_44 rfl (lv_at hl 0 rfl) ?_
      obtain ⟨w3, h3, hb3, hw⟩ := hw
      refine gX6_105f C hP Nat.zero_lt_one h3 dX6_isToldOfBird_45 ?_
      refine goI (wf := (xw g)) (runV (w := xw g M) (As := []) (rest := []) C lkX6_115 (c_X0_isHeard l g C.2.2.2.2.2.2.2.2.2.2 w3 hb3 M _ hw) hP hS rfl rfl ⟨Nat.le_of_ble_eq_true rfl, Nat.le_of_ble_eq_true rfl⟩ (xx_25 hb3) rfl rfl hl.1 rfl (Nat.le_of_ble_eq_true rfl) dX6_isToldOfBird_48) hS (fun r4 M4 hw H locs hP hS => ?_)
      obtain ⟨hw, hz4⟩ := hw
      exact retZ (wf := (xw g)) C hP hS hz4 hw dX6_isToldOfBird_51
    by_cases q2_1 : a1 = 2
    · have hw := hw.2.1 q2_1
      refine lv_tableIn (tgt := 52) (off := 42) C.1 C.2.1 dX6_isToldOfBird_10 (by rw [q2_1]; decide) (by rw [q2_1]; decide) (by rw [q2_1]; decide +kernel) (by decide) ?_
      refine lv_aload_n C.1 C.2.1 dX6_isToldOfBird_52 rfl (lv_at hl 0 rfl) ?_
      obtain ⟨w5, h5, hb5, hw⟩ := hw
      refine gX6_105f C hP Nat.zero_lt_one h5 dX6_isToldOfBird_53 ?_
      refine gX6_120 C hP hb5 dX6_isToldOfBird_56 ?_
      refine lv_if_le (tgt := 66) C.1 C.2.1 dX6_isToldOfBird_59 (by decide) (fun h6 => ?_) (fun h6 => ?_)
      · have hw := hw.1 h6
        refine lv_iconst (v := 0) C.1 C.2.1 dX6_isToldOfBird_66 (by decide) ?_
        exact retZ (wf := (xw g)) C hP hS rfl hw dX6_isToldOfBird_67
      · have hw := hw.2 h6
        refine lv_iconst (v := 1) C.1 C.2.1 dX6_isToldOfBird_62 (by decide) ?_
        refine lv_goto (tgt := 67) C.1 C.2.1 dX6_isToldOfBird_63 (by decide) ?_
        exact retZ (wf := (xw g)) C hP hS rfl hw dX6_isToldOfBird_67
    by_cases q2_2 : a1 = 3
    · have hw := hw.2.2.1 q2_2
      refine lv_tableIn (tgt := 68) (off := 58) C.1 C.2.1 dX6_isToldOfBird_10 (by rw [q2_2]; decide) (by rw [q2_2]; decide) (by rw [q2_2]; decide +kernel) (by decide) ?_
      refine lv_aload_n C.1 C.2.1 dX6_isToldOfBird_68 rfl (lv_at hl 0 rfl) ?_
      obtain ⟨w7, h7, hb7, hw⟩ := hw
      refine gX6_105f C hP Nat.zero_lt_one h7 dX6_isToldOfBird_69 ?_
      refine gX6_123 C hP hb7 dX6_isToldOfBird_72 ?_
      refine lv_if_le (tgt := 82) C.1 C.2.1 dX6_isToldOfBird_75 (by decide) (fun h8 => ?_) (fun h8 => ?_)
      · have hw := hw.1 h8
        refine lv_iconst (v := 0) C.1 C.2.1 dX6_isToldOfBird_82 (by decide) ?_
        exact retZ (wf := (xw g)) C hP hS rfl hw dX6_isToldOfBird_83
      · have hw := hw.2 h8
        refine lv_iconst (v := 1) C.1 C.2.1 dX6_isToldOfBird_78 (by decide) ?_
        refine lv_goto (tgt := 83) C.1 C.2.1 dX6_isToldOfBird_79 (by decide) ?_
        exact retZ (wf := (xw g)) C hP hS rfl hw dX6_isToldOfBird_83
    by_cases q2_3 : a1 = 4
    · have hw := hw.2.2.2.2 (by rw [q2_3]; decide) (by rw [q2_3]; decide) (by rw [q2_3]; decide) (by rw [q2_3]; decide)
      refine lv_tableIn (tgt := 92) (off := 82) C.1 C.2.1 dX6_isToldOfBird_10 (by rw [q2_3]; decide) (by rw [q2_3]; decide) (by rw [q2_3]; decide +kernel) (by decide) ?_
      refine lv_iconst (v := 0) C.1 C.2.1 dX6_isToldOfBird_92 (by decide) ?_
      exact retZ (wf := (xw g)) C hP hS rfl hw dX6_isToldOfBird_93
    by_cases q2_4 : a1 = 5
    · have hw := hw.2.2.2.1 q2_4
      refine lv_tableIn (tgt := 84) (off := 74) C.1 C.2.1 dX6_isToldOfBird_10 (by rw [q2_4]; decide) (by rw [q2_4]; decide) (by rw [q2_4]; decide +kernel) (by decide) ?_
      refine lv_aload_n C.1 C.2.1 dX6_isToldOfBird_84 rfl (lv_at hl 0 rfl) ?_
      obtain ⟨w9, h9, hb9, hw⟩ := hw
      refine gX6_105f C hP Nat.zero_lt_one h9 dX6_isToldOfBird_85 ?_
      refine gX6_126 C hP hb9 dX6_isToldOfBird_88 ?_
      exact retZ (wf := (xw g)) C hP hS hw.1 hw.2 dX6_isToldOfBird_91
    have hw := hw.2.2.2.2 q2_0 q2_1 q2_2 q2_4
    have n2_0 : a1.toInt ≠ 1 := tsw q2_0
    have n2_1 : a1.toInt ≠ 2 := tsw q2_1
    have n2_2 : a1.toInt ≠ 3 := tsw q2_2
    have n2_3 : a1.toInt ≠ 4 := tsw q2_3
    have n2_4 : a1.toInt ≠ 5 := tsw q2_4
    refine lv_tableOut (tgt := 92) C.1 C.2.1 dX6_isToldOfBird_10 (by omega) (by decide) ?_
    refine lv_iconst (v := 0) C.1 C.2.1 dX6_isToldOfBird_92 (by decide) ?_
    exact retZ (wf := (xw g)) C hP hS rfl hw dX6_isToldOfBird_93
def b_X6_readName_19 (Q : Int32 → Mem → Prop) (M : Mem) : Prop := (p_X6_refuse 1 M (fun r2 M2 => (Q r2 M2)))
set_option maxRecDepth 100000 in
set_option maxHeartbeats 4000000 in
theorem k_X6_readName_19 {p : Program} {l : Launch} {e : Env} {s : State} {m : MethodId} {args : Array Value} {below : List Frame} {meth : Method} {c : Code} {g : Geo} (C : CX g p s m args meth c cX6_readName 3 (some .boolean) RX6) {Q : Int32 → Mem → Prop} (M : Mem) (hw : b_X6_readName_19 Q M) {H : Heap} {locs : List Loc} {ls : Array Slot} (hl : lv_has ls 3 [(0, .ref (g.2.1 (2 + 0)))]) (hP : va_P g.1 clz (xw g M) H) (hS : va_S (Af 0 g) s.heap H locs) : W p l e ({ frames := 3, cells := 0, slots := 0, locals := 62 } : Room) s m args below meth c H locs 0 0 (MQ below (va_Qi (fun r M => Q r M ∧ narrow .boolean (.int r) = .int r) (PB g (xw g)) (Af 0 g)) args s 0 0 (Af 0 g)) (F0 m 19 ls []) := by
  unfold b_X6_readName_19 at hw
  refine lv_aload_n C.1 C.2.1 dX6_readName_19 rfl (lv_at hl 0 rfl) ?_
  refine lv_iconst (v := 1) C.1 C.2.1 dX6_readName_20 (by decide) ?_
  refine goI (wf := (xw g)) (runV (w := xw g M) (As := [.int 1]) (rest := []) C lkX6_69 (c_X6_refuse l g C.2.2.2.2.2.2.2.2.2.2 1  M _ hw) hP hS rfl rfl ⟨Nat.le_of_ble_eq_true rfl, Nat.le_of_ble_eq_true rfl⟩ (xx_2 Nat.zero_lt_one) rfl rfl hl.1 rfl (Nat.le_of_ble_eq_true rfl) dX6_readName_21) hS (fun r2 M2 hw H locs hP hS => ?_)
  obtain ⟨hw, hz2⟩ := hw
  exact retZ (wf := (xw g)) C hP hS hz2 hw dX6_readName_24
def b_X6_readName_90 (Q : Int32 → Mem → Prop) (M : Mem) : Prop := (∀ M14 : Mem, M14 = sI M 2 0 9 (M.1 2 0 7) → (p_X6_advance  M14 (fun M15 => (Q 1 M15))))
set_option maxRecDepth 100000 in
set_option maxHeartbeats 4000000 in
theorem k_X6_readName_90 {p : Program} {l : Launch} {e : Env} {s : State} {m : MethodId} {args : Array Value} {below : List Frame} {meth : Method} {c : Code} {g : Geo} (C : CX g p s m args meth c cX6_readName 3 (some .boolean) RX6) {Q : Int32 → Mem → Prop} (M : Mem) (hw : b_X6_readName_90 Q M) {H : Heap} {locs : List Loc} {ls : Array Slot} (hl : lv_has ls 3 [(0, .ref (g.2.1 (2 + 0)))]) (hP : va_P g.1 clz (xw g M) H) (hS : va_S (Af 0 g) s.heap H locs) : W p l e ({ frames := 3, cells := 0, slots := 0, locals := 62 } : Room) s m args below meth c H locs 0 0 (MQ below (va_Qi (fun r M => Q r M ∧ narrow .boolean (.int r) = .int r) (PB g (xw g)) (Af 0 g)) args s 0 0 (Af 0 g)) (F0 m 90 ls []) := by
  unfold b_X6_readName_90 at hw
  refine lv_aload_n C.1 C.2.1 dX6_readName_90 rfl (lv_at hl 0 rfl) ?_
  refine lv_aload_n C.1 C.2.1 dX6_readName_91 rfl (lv_at hl 0 rfl) ?_
  refine gX6_62 C hP Nat.zero_lt_one dX6_readName_92 ?_
  refine pX6_112 C hP hS Nat.zero_lt_one dX6_readName_95 (fun M14 e14 H locs hP hS => ?_)
  have hw := hw M14 e14
  refine lv_aload_n C.1 C.2.1 dX6_readName_98 rfl (lv_at hl 0 rfl) ?_
  refine goV (wf := (xw g)) (runV (w := xw g M14) (As := []) (rest := []) C lkX6_46 (c_X6_advance l g C.2.2.2.2.2.2.2.2.2.2   M14 _ hw) hP hS rfl rfl ⟨Nat.le_of_ble_eq_true rfl, Nat.le_of_ble_eq_true rfl⟩ (xx_2 Nat.zero_lt_one) rfl rfl hl.1 rfl (Nat.le_of_ble_eq_true rfl) dX6_readName_99) hS (fun M15 hw H locs hP hS => ?_)
  refine lv_iconst (v := 1) C.1 C.2.1 dX6_readName_102 (by decide) ?_
  exact retZ (wf := (xw g)) C hP hS rfl hw dX6_readName_103
def p_X6_readName (a1 : Int32) (M : Mem) (Q : Int32 → Mem → Prop) : Prop := ((¬ (M.1 2 0 5) = 1 → (b_X6_readName_19 Q  M)) ∧ ((M.1 2 0 5) = 1 → (p_X6_wordNumber ((M.1 2 0 7)) M (fun r3 M3 => ((r3 = (-1) → (∃ w5 : Nat, M3.2.2 2 0 8 = some (23 + w5) ∧ w5 < 2 ∧ (p_X9_numberOf w5 ((M3.1 2 0 7)) M3 (fun r6 M6 => ((¬ a1 = 0 → ((¬ r6 = (-1) → (∃ w9 : Nat, M6.2.2 2 0 8 = some (23 + w9) ∧ w9 < 2 ∧ (vp_in r6 5 ∧ (∀ M11 : Mem, M11 = sR M6 2 0 10 (some (27 + (5 * w9 + (r6 : Int32).toNatClampNeg))) → (p_X6_isToldOfBird a1 M11 (fun r12 M12 => ((r12 = 0 → (b_X6_readName_90 Q  M12)) ∧ (¬ r12 = 0 → (p_X6_refuse 3 M12 (fun r16 M16 => (Q r16 M16))))))))))) ∧ (r6 = (-1) → (p_X6_refuse 4 M6 (fun r17 M17 => (Q r17 M17)))))) ∧ (a1 = 0 → ((r6 = (-1) → (b_X6_readName_90 Q  M6)) ∧ (¬ r6 = (-1) → (p_X6_refuse 3 M6 (fun r19 M19 => (Q r19 M19))))))))))) ∧ (¬ r3 = (-1) → (b_X6_readName_19 Q  M3)))))))
set_option maxRecDepth 100000 in
set_option maxHeartbeats 4000000 in
theorem c_X6_readName (l : Launch) (g : Geo) (gi : GI g) (a1 : Int32) (M : Mem) (Q : Int32 → Mem → Prop) (hw : p_X6_readName a1 M Q) : Met l yX6_readName (Cond.code yX6_readName cX6_readName 3 (some .boolean) :: bg) ({ frames := 3, cells := 0, slots := 0, locals := 62 } : Room) (va_Pc [.ref (g.2.1 (2 + 0)), .int a1] (PW g (xw g M))) (va_Qi (fun r M => Q r M ∧ narrow .boolean (.int r) = .int r) (PB g (xw g)) (Af 0 g)) 0 0 (Af 0 g) := by
  refine Met.ofW (cc := cX6_readName) (maxL := 3) (ret := (some .boolean)) (by decide +kernel) rfl ?_
  intro p e s m args below meth c s₁ B hml hv
  obtain ⟨rfl, hv⟩ := hv
  have C := CX.start (own := RX6) B hml rfl gi hv
  have hP := hv.1
  have hS : va_S (Af 0 g) s.heap s.heap [] := va_S.rf
  have hl := lv_entry ([.ref (g.2.1 (2 + 0)), .int a1]) (n := 3) (Nat.le_of_ble_eq_true rfl)
  rw [lg_entry_eq]
  generalize (lg_sl ([.ref (g.2.1 (2 + 0)), .int a1]) ++ List.replicate (3 - (lg_sl ([.ref (g.2.1 (2 + 0)), .int a1])).length) Slot.unset).toArray = ls at hl ⊢
  have hl : lv_has ls 3 [(0, .ref (g.2.1 (2 + 0))), (1, .int a1)] := hl
  unfold p_X6_readName at hw
  refine lv_aload_n C.1 C.2.1 dX6_readName_0 rfl (lv_at hl 0 rfl) ?_
  refine gX6_49 C hP Nat.zero_lt_one dX6_readName_1 ?_
  refine lv_iconst (v := 1) C.1 C.2.1 dX6_readName_4 (by decide) ?_
  refine lv_icmp_ne (tgt := 19) C.1 C.2.1 dX6_readName_5 (by decide) (fun h1 => ?_) (fun h1 => ?_)
  · have hw := hw.1 h1
    exact k_X6_readName_19 (Q := Q) C   _ hw (lv_sub hl [0] rfl) hP hS
  · have hw := hw.2 h1
    refine lv_aload_n C.1 C.2.1 dX6_readName_8 rfl (lv_at hl 0 rfl) ?_
    refine gX6_62 C hP Nat.zero_lt_one dX6_readName_9 ?_
    refine goI (wf := (xw g)) (runS (w := xw g M) (As := [.int (M.1 2 0 7)]) (rest := []) C lkX6_65 (c_X6_wordNumber l g C.2.2.2.2.2.2.2.2.2.2 ((M.1 2 0 7))  M _ hw) hP hS rfl rfl ⟨Nat.le_of_ble_eq_true rfl, Nat.le_of_ble_eq_true rfl⟩ hl.1 rfl (Nat.le_of_ble_eq_true rfl) dX6_readName_12) hS (fun r3 M3 hw H locs hP hS => ?_)
    refine lv_iconst (v := (-1)) C.1 C.2.1 dX6_readName_15 (by decide) ?_
    refine lv_icmp_eq (tgt := 25) C.1 C.2.1 dX6_readName_16 (by decide) (fun h4 => ?_) (fun h4 => ?_)
    · have hw := hw.1 h4
      refine lv_aload_n C.1 C.2.1 dX6_readName_25 rfl (lv_at hl 0 rfl) ?_
      obtain ⟨w5, h5, hb5, hw⟩ := hw
      refine gX6_34f C hP Nat.zero_lt_one h5 dX6_readName_26 ?_
      refine lv_aload_n C.1 C.2.1 dX6_readName_29 rfl (lv_at hl 0 rfl) ?_
      refine gX6_62 C hP Nat.zero_lt_one dX6_readName_30 ?_
      refine goI (wf := (xw g)) (runV (w := xw g M3) (As := [.int (M3.1 2 0 7)]) (rest := []) C lkX6_98 (c_X9_numberOf l g C.2.2.2.2.2.2.2.2.2.2 w5 ((M3.1 2 0 7)) hb5 M3 _ hw) hP hS rfl rfl ⟨Nat.le_of_ble_eq_true rfl, Nat.le_of_ble_eq_true rfl⟩ (xx_23 hb5) rfl rfl hl.1 rfl (Nat.le_of_ble_eq_true rfl) dX6_readName_33) hS (fun r6 M6 hw H locs hP hS => ?_)
      refine lv_istore_n (lv' := [(2, .int r6), (0, .ref (g.2.1 (2 + 0))), (1, .int a1)]) C.1 C.2.1 dX6_readName_36 rfl hl (by decide) rfl (fun ls hl => ?_)
      refine lv_iload_n C.1 C.2.1 dX6_readName_37 rfl (lv_at hl 2 rfl) ?_
      refine lv_if_ne (tgt := 52) C.1 C.2.1 dX6_readName_38 (by decide) (fun h7 => ?_) (fun h7 => ?_)
      · have hw := hw.1 h7
        refine lv_iload_n C.1 C.2.1 dX6_readName_52 rfl (lv_at hl 0 rfl) ?_
        refine lv_iconst (v := (-1)) C.1 C.2.1 dX6_readName_53 (by decide) ?_
        refine lv_icmp_ne (tgt := 63) C.1 C.2.1 dX6_readName_54 (by decide) (fun h8 => ?_) (fun h8 => ?_)
        · have hw := hw.1 h8
          refine lv_aload_n C.1 C.2.1 dX6_readName_63 rfl (lv_at hl 1 rfl) ?_
          refine lv_aload_n C.1 C.2.1 dX6_readName_64 rfl (lv_at hl 1 rfl) ?_
          obtain ⟨w9, h9, hb9, hw⟩ := hw
          refine gX6_34f C hP Nat.zero_lt_one h9 dX6_readName_65 ?_
          refine gX6_101 C hP hb9 dX6_readName_68 ?_
          refine lv_iload_n C.1 C.2.1 dX6_readName_71 rfl (lv_at hl 0 rfl) ?_
          obtain ⟨h10, hw⟩ := hw
          have hb10 : (5 * w9 + (r6 : Int32).toNatClampNeg) < 10 := by have h9 := vp_lt h10; have h8 := hb9; omega
          refine al_24 C hP hb9 h10 dX6_readName_72 ?_
          refine pX6_105 C hP hS Nat.zero_lt_one dX6_readName_73 (fun M11 e11 H locs hP hS => ?_)
          have hw := hw M11 e11
          refine lv_aload_n C.1 C.2.1 dX6_readName_76 rfl (lv_at hl 1 rfl) ?_
          refine lv_iload_n C.1 C.2.1 dX6_readName_77 rfl (lv_at hl 2 rfl) ?_
          refine goI (wf := (xw g)) (runV (w := xw g M11) (As := [.int a1]) (rest := []) C lkX6_109 (c_X6_isToldOfBird l g C.2.2.2.2.2.2.2.2.2.2 a1  M11 _ hw) hP hS rfl rfl ⟨Nat.le_of_ble_eq_true rfl, Nat.le_of_ble_eq_true rfl⟩ (xx_2 Nat.zero_lt_one) rfl rfl hl.1 rfl (Nat.le_of_ble_eq_true rfl) dX6_readName_78) hS (fun r12 M12 hw H locs hP hS => ?_)
          obtain ⟨hw, hz12⟩ := hw
          refine lv_if_eq (tgt := 90) C.1 C.2.1 dX6_readName_81 (by decide) (fun h13 => ?_) (fun h13 => ?_)
          · have hw := hw.1 h13
            exact k_X6_readName_90 (Q := Q) C   _ hw (lv_sub hl [1] rfl) hP hS
          · have hw := hw.2 h13
            refine lv_aload_n C.1 C.2.1 dX6_readName_84 rfl (lv_at hl 1 rfl) ?_
            refine lv_iconst (v := 3) C.1 C.2.1 dX6_readName_85 (by decide) ?_
            refine goI (wf := (xw g)) (runV (w := xw g M12) (As := [.int 3]) (rest := []) C lkX6_69 (c_X6_refuse l g C.2.2.2.2.2.2.2.2.2.2 3  M12 _ hw) hP hS rfl rfl ⟨Nat.le_of_ble_eq_true rfl, Nat.le_of_ble_eq_true rfl⟩ (xx_2 Nat.zero_lt_one) rfl rfl hl.1 rfl (Nat.le_of_ble_eq_true rfl) dX6_readName_86) hS (fun r16 M16 hw H locs hP hS => ?_)
            obtain ⟨hw, hz16⟩ := hw
            exact retZ (wf := (xw g)) C hP hS hz16 hw dX6_readName_89
        · have hw := hw.2 h8
          refine lv_aload_n C.1 C.2.1 dX6_readName_57 rfl (lv_at hl 1 rfl) ?_
          refine lv_iconst (v := 4) C.1 C.2.1 dX6_readName_58 (by decide) ?_
          refine goI (wf := (xw g)) (runV (w := xw g M6) (As := [.int 4]) (rest := []) C lkX6_69 (c_X6_refuse l g C.2.2.2.2.2.2.2.2.2.2 4  M6 _ hw) hP hS rfl rfl ⟨Nat.le_of_ble_eq_true rfl, Nat.le_of_ble_eq_true rfl⟩ (xx_2 Nat.zero_lt_one) rfl rfl hl.1 rfl (Nat.le_of_ble_eq_true rfl) dX6_readName_59) hS (fun r17 M17 hw H locs hP hS => ?_)
          obtain ⟨hw, hz17⟩ := hw
          exact retZ (wf := (xw g)) C hP hS hz17 hw dX6_readName_62
      · have hw := hw.2 h7
        refine lv_iload_n C.1 C.2.1 dX6_readName_41 rfl (lv_at hl 0 rfl) ?_
        refine lv_iconst (v := (-1)) C.1 C.2.1 dX6_readName_42 (by decide) ?_
        refine lv_icmp_eq (tgt := 90) C.1 C.2.1 dX6_readName_43 (by decide) (fun h18 => ?_) (fun h18 => ?_)
        · have hw := hw.1 h18
          exact k_X6_readName_90 (Q := Q) C   _ hw (lv_sub hl [1] rfl) hP hS
        · have hw := hw.2 h18
          refine lv_aload_n C.1 C.2.1 dX6_readName_46 rfl (lv_at hl 1 rfl) ?_
          refine lv_iconst (v := 3) C.1 C.2.1 dX6_readName_47 (by decide) ?_
          refine goI (wf := (xw g)) (runV (w := xw g M6) (As := [.int 3]) (rest := []) C lkX6_69 (c_X6_refuse l g C.2.2.2.2.2.2.2.2.2.2 3  M6 _ hw) hP hS rfl rfl ⟨Nat.le_of_ble_eq_true rfl, Nat.le_of_ble_eq_true rfl⟩ (xx_2 Nat.zero_lt_one) rfl rfl hl.1 rfl (Nat.le_of_ble_eq_true rfl) dX6_readName_48) hS (fun r19 M19 hw H locs hP hS => ?_)
          obtain ⟨hw, hz19⟩ := hw
          exact retZ (wf := (xw g)) C hP hS hz19 hw dX6_readName_51
    · have hw := hw.2 h4
      exact k_X6_readName_19 (Q := Q) C   _ hw (lv_sub hl [0] rfl) hP hS
def b_X6_readLine_94 (Q : Int32 → Mem → Prop) (v1 : Int32) (M : Mem) : Prop := (p_X6_readNumbers v1 M (fun r10 M10 => ((¬ r10 = 0 → (((M10.1 2 0 5) = 3 → (p_X6_take v1 M10 (fun M13 => (p_X6_advance  M13 (fun M14 => (Q 1 M14)))))) ∧ (¬ (M10.1 2 0 5) = 3 → (p_X6_refuse 1 M10 (fun r15 M15 => (Q r15 M15)))))) ∧ (r10 = 0 → (Q 0 M10)))))
set_option maxRecDepth 100000 in
set_option maxHeartbeats 4000000 in
theorem k_X6_readLine_94 {p : Program} {l : Launch} {e : Env} {s : State} {m : MethodId} {args : Array Value} {below : List Frame} {meth : Method} {c : Code} {g : Geo} (C : CX g p s m args meth c cX6_readLine 2 (some .boolean) RX6) {Q : Int32 → Mem → Prop} (v1 : Int32) (M : Mem) (hw : b_X6_readLine_94 Q v1 M) {H : Heap} {locs : List Loc} {ls : Array Slot} (hl : lv_has ls 2 [(0, .ref (g.2.1 (2 + 0))), (1, .int v1)]) (hP : va_P g.1 clz (xw g M) H) (hS : va_S (Af 0 g) s.heap H locs) : W p l e ({ frames := 4, cells := 0, slots := 0, locals := 88 } : Room) s m args below meth c H locs 0 0 (MQ below (va_Qi (fun r M => Q r M ∧ narrow .boolean (.int r) = .int r) (PB g (xw g)) (Af 0 g)) args s 0 0 (Af 0 g)) (F0 m 94 ls []) := by
  unfold b_X6_readLine_94 at hw
  refine lv_aload_n C.1 C.2.1 dX6_readLine_94 rfl (lv_at hl 0 rfl) ?_
  refine lv_iload_n C.1 C.2.1 dX6_readLine_95 rfl (lv_at hl 1 rfl) ?_
  refine goI (wf := (xw g)) (runV (w := xw g M) (As := [.int v1]) (rest := []) C lkX6_85 (c_X6_readNumbers l g C.2.2.2.2.2.2.2.2.2.2 v1  M _ hw) hP hS rfl rfl ⟨Nat.le_of_ble_eq_true rfl, Nat.le_of_ble_eq_true rfl⟩ (xx_2 Nat.zero_lt_one) rfl rfl hl.1 rfl (Nat.le_of_ble_eq_true rfl) dX6_readLine_96) hS (fun r10 M10 hw H locs hP hS => ?_)
  obtain ⟨hw, hz10⟩ := hw
  refine lv_if_ne (tgt := 104) C.1 C.2.1 dX6_readLine_99 (by decide) (fun h11 => ?_) (fun h11 => ?_)
  · have hw := hw.1 h11
    refine lv_aload_n C.1 C.2.1 dX6_readLine_104 rfl (lv_at hl 0 rfl) ?_
    refine gX6_49 C hP Nat.zero_lt_one dX6_readLine_105 ?_
    refine lv_iconst (v := 3) C.1 C.2.1 dX6_readLine_108 (by decide) ?_
    refine lv_icmp_eq (tgt := 118) C.1 C.2.1 dX6_readLine_109 (by decide) (fun h12 => ?_) (fun h12 => ?_)
    · have hw := hw.1 h12
      refine lv_aload_n C.1 C.2.1 dX6_readLine_118 rfl (lv_at hl 0 rfl) ?_
      refine lv_iload_n C.1 C.2.1 dX6_readLine_119 rfl (lv_at hl 1 rfl) ?_
      refine goV (wf := (xw g)) (runV (w := xw g M10) (As := [.int v1]) (rest := []) C lkX6_88 (c_X6_take l g C.2.2.2.2.2.2.2.2.2.2 v1  M10 _ hw) hP hS rfl rfl ⟨Nat.le_of_ble_eq_true rfl, Nat.le_of_ble_eq_true rfl⟩ (xx_2 Nat.zero_lt_one) rfl rfl hl.1 rfl (Nat.le_of_ble_eq_true rfl) dX6_readLine_120) hS (fun M13 hw H locs hP hS => ?_)
      refine lv_aload_n C.1 C.2.1 dX6_readLine_123 rfl (lv_at hl 0 rfl) ?_
      refine goV (wf := (xw g)) (runV (w := xw g M13) (As := []) (rest := []) C lkX6_46 (c_X6_advance l g C.2.2.2.2.2.2.2.2.2.2   M13 _ hw) hP hS rfl rfl ⟨Nat.le_of_ble_eq_true rfl, Nat.le_of_ble_eq_true rfl⟩ (xx_2 Nat.zero_lt_one) rfl rfl hl.1 rfl (Nat.le_of_ble_eq_true rfl) dX6_readLine_124) hS (fun M14 hw H locs hP hS => ?_)
      refine lv_iconst (v := 1) C.1 C.2.1 dX6_readLine_127 (by decide) ?_
      exact retZ (wf := (xw g)) C hP hS rfl hw dX6_readLine_128
    · have hw := hw.2 h12
      refine lv_aload_n C.1 C.2.1 dX6_readLine_112 rfl (lv_at hl 0 rfl) ?_
      refine lv_iconst (v := 1) C.1 C.2.1 dX6_readLine_113 (by decide) ?_
      refine goI (wf := (xw g)) (runV (w := xw g M10) (As := [.int 1]) (rest := []) C lkX6_69 (c_X6_refuse l g C.2.2.2.2.2.2.2.2.2.2 1  M10 _ hw) hP hS rfl rfl ⟨Nat.le_of_ble_eq_true rfl, Nat.le_of_ble_eq_true rfl⟩ (xx_2 Nat.zero_lt_one) rfl rfl hl.1 rfl (Nat.le_of_ble_eq_true rfl) dX6_readLine_114) hS (fun r15 M15 hw H locs hP hS => ?_)
      obtain ⟨hw, hz15⟩ := hw
      exact retZ (wf := (xw g)) C hP hS hz15 hw dX6_readLine_117
  · have hw := hw.2 h11
    refine lv_iconst (v := 0) C.1 C.2.1 dX6_readLine_102 (by decide) ?_
    exact retZ (wf := (xw g)) C hP hS rfl hw dX6_readLine_103
def b_X6_readLine_73 (Q : Int32 → Mem → Prop) (v1 : Int32) (M : Mem) : Prop := (p_X6_advance  M (fun M7 => (p_X6_isOnce v1 M7 (fun r8 M8 => ((¬ r8 = 0 → (b_X6_readLine_94 Q v1 M8)) ∧ (r8 = 0 → (p_X6_readName v1 M8 (fun r16 M16 => ((¬ r16 = 0 → (b_X6_readLine_94 Q v1 M16)) ∧ (r16 = 0 → (Q 0 M16)))))))))))
set_option maxRecDepth 100000 in
set_option maxHeartbeats 4000000 in
theorem k_X6_readLine_73 {p : Program} {l : Launch} {e : Env} {s : State} {m : MethodId} {args : Array Value} {below : List Frame} {meth : Method} {c : Code} {g : Geo} (C : CX g p s m args meth c cX6_readLine 2 (some .boolean) RX6) {Q : Int32 → Mem → Prop} (v1 : Int32) (M : Mem) (hw : b_X6_readLine_73 Q v1 M) {H : Heap} {locs : List Loc} {ls : Array Slot} (hl : lv_has ls 2 [(0, .ref (g.2.1 (2 + 0))), (1, .int v1)]) (hP : va_P g.1 clz (xw g M) H) (hS : va_S (Af 0 g) s.heap H locs) : W p l e ({ frames := 4, cells := 0, slots := 0, locals := 88 } : Room) s m args below meth c H locs 0 0 (MQ below (va_Qi (fun r M => Q r M ∧ narrow .boolean (.int r) = .int r) (PB g (xw g)) (Af 0 g)) args s 0 0 (Af 0 g)) (F0 m 73 ls []) := by
  unfold b_X6_readLine_73 at hw
  refine lv_aload_n C.1 C.2.1 dX6_readLine_73 rfl (lv_at hl 0 rfl) ?_
  refine goV (wf := (xw g)) (runV (w := xw g M) (As := []) (rest := []) C lkX6_46 (c_X6_advance l g C.2.2.2.2.2.2.2.2.2.2   M _ hw) hP hS rfl rfl ⟨Nat.le_of_ble_eq_true rfl, Nat.le_of_ble_eq_true rfl⟩ (xx_2 Nat.zero_lt_one) rfl rfl hl.1 rfl (Nat.le_of_ble_eq_true rfl) dX6_readLine_74) hS (fun M7 hw H locs hP hS => ?_)
  refine lv_iload_n C.1 C.2.1 dX6_readLine_77 rfl (lv_at hl 1 rfl) ?_
  refine goI (wf := (xw g)) (runS (w := xw g M7) (As := [.int v1]) (rest := []) C lkX6_76 (c_X6_isOnce l g C.2.2.2.2.2.2.2.2.2.2 v1  M7 _ hw) hP hS rfl rfl ⟨Nat.le_of_ble_eq_true rfl, Nat.le_of_ble_eq_true rfl⟩ hl.1 rfl (Nat.le_of_ble_eq_true rfl) dX6_readLine_78) hS (fun r8 M8 hw H locs hP hS => ?_)
  obtain ⟨hw, hz8⟩ := hw
  refine lv_if_ne (tgt := 94) C.1 C.2.1 dX6_readLine_81 (by decide) (fun h9 => ?_) (fun h9 => ?_)
  · have hw := hw.1 h9
    exact k_X6_readLine_94 (Q := Q) C v1  _ hw (lv_sub hl [0, 1] rfl) hP hS
  · have hw := hw.2 h9
    refine lv_aload_n C.1 C.2.1 dX6_readLine_84 rfl (lv_at hl 0 rfl) ?_
    refine lv_iload_n C.1 C.2.1 dX6_readLine_85 rfl (lv_at hl 1 rfl) ?_
    refine goI (wf := (xw g)) (runV (w := xw g M8) (As := [.int v1]) (rest := []) C lkX6_82 (c_X6_readName l g C.2.2.2.2.2.2.2.2.2.2 v1  M8 _ hw) hP hS rfl rfl ⟨Nat.le_of_ble_eq_true rfl, Nat.le_of_ble_eq_true rfl⟩ (xx_2 Nat.zero_lt_one) rfl rfl hl.1 rfl (Nat.le_of_ble_eq_true rfl) dX6_readLine_86) hS (fun r16 M16 hw H locs hP hS => ?_)
    obtain ⟨hw, hz16⟩ := hw
    refine lv_if_ne (tgt := 94) C.1 C.2.1 dX6_readLine_89 (by decide) (fun h17 => ?_) (fun h17 => ?_)
    · have hw := hw.1 h17
      exact k_X6_readLine_94 (Q := Q) C v1  _ hw (lv_sub hl [0, 1] rfl) hP hS
    · have hw := hw.2 h17
      refine lv_iconst (v := 0) C.1 C.2.1 dX6_readLine_92 (by decide) ?_
      exact retZ (wf := (xw g)) C hP hS rfl hw dX6_readLine_93
def b_X6_readLine_19 (Q : Int32 → Mem → Prop) (s0 : Int32) (M : Mem) : Prop := ((¬ s0 = (-1) → (p_X6_isOneTooMany s0 M (fun r3 M3 => ((r3 = 0 → (p_X6_isOnce s0 M3 (fun r5 M5 => ((r5 = 0 → (b_X6_readLine_73 Q s0 M5)) ∧ (¬ r5 = 0 → (∃ w18 : Nat, M5.2.2 2 0 8 = some (23 + w18) ∧ w18 < 2 ∧ ((¬ ((((M5.1 23 w18 15) : Int32).toUInt32 >>> ((s0 : Int32).toUInt32 &&& Int32.toUInt32 31)).toInt32 &&& 1) = 1 → (b_X6_readLine_73 Q s0 M5)) ∧ (((((M5.1 23 w18 15) : Int32).toUInt32 >>> ((s0 : Int32).toUInt32 &&& Int32.toUInt32 31)).toInt32 &&& 1) = 1 → (p_X6_refuse 3 M5 (fun r20 M20 => (Q r20 M20))))))))))) ∧ (¬ r3 = 0 → (p_X6_refuse 2 M3 (fun r21 M21 => (Q r21 M21)))))))) ∧ (s0 = (-1) → (p_X6_refuse 1 M (fun r22 M22 => (Q r22 M22)))))
set_option maxRecDepth 100000 in
set_option maxHeartbeats 4000000 in
theorem k_X6_readLine_19 {p : Program} {l : Launch} {e : Env} {s : State} {m : MethodId} {args : Array Value} {below : List Frame} {meth : Method} {c : Code} {g : Geo} (C : CX g p s m args meth c cX6_readLine 2 (some .boolean) RX6) {Q : Int32 → Mem → Prop} (s0 : Int32) (M : Mem) (hw : b_X6_readLine_19 Q s0 M) {H : Heap} {locs : List Loc} {ls : Array Slot} (hl : lv_has ls 2 [(0, .ref (g.2.1 (2 + 0)))]) (hP : va_P g.1 clz (xw g M) H) (hS : va_S (Af 0 g) s.heap H locs) : W p l e ({ frames := 4, cells := 0, slots := 0, locals := 88 } : Room) s m args below meth c H locs 0 0 (MQ below (va_Qi (fun r M => Q r M ∧ narrow .boolean (.int r) = .int r) (PB g (xw g)) (Af 0 g)) args s 0 0 (Af 0 g)) (F0 m 19 ls [.int s0]) := by
  unfold b_X6_readLine_19 at hw
  refine lv_istore_n (lv' := [(1, .int s0), (0, .ref (g.2.1 (2 + 0)))]) C.1 C.2.1 dX6_readLine_19 rfl hl (by decide) rfl (fun ls hl => ?_)
  refine lv_iload_n C.1 C.2.1 dX6_readLine_20 rfl (lv_at hl 0 rfl) ?_
  refine lv_iconst (v := (-1)) C.1 C.2.1 dX6_readLine_21 (by decide) ?_
  refine lv_icmp_ne (tgt := 31) C.1 C.2.1 dX6_readLine_22 (by decide) (fun h2 => ?_) (fun h2 => ?_)
  · have hw := hw.1 h2
    refine lv_aload_n C.1 C.2.1 dX6_readLine_31 rfl (lv_at hl 1 rfl) ?_
    refine lv_iload_n C.1 C.2.1 dX6_readLine_32 rfl (lv_at hl 0 rfl) ?_
    refine goI (wf := (xw g)) (runV (w := xw g M) (As := [.int s0]) (rest := []) C lkX6_73 (c_X6_isOneTooMany l g C.2.2.2.2.2.2.2.2.2.2 s0  M _ hw) hP hS rfl rfl ⟨Nat.le_of_ble_eq_true rfl, Nat.le_of_ble_eq_true rfl⟩ (xx_2 Nat.zero_lt_one) rfl rfl hl.1 rfl (Nat.le_of_ble_eq_true rfl) dX6_readLine_33) hS (fun r3 M3 hw H locs hP hS => ?_)
    obtain ⟨hw, hz3⟩ := hw
    refine lv_if_eq (tgt := 45) C.1 C.2.1 dX6_readLine_36 (by decide) (fun h4 => ?_) (fun h4 => ?_)
    · have hw := hw.1 h4
      refine lv_iload_n C.1 C.2.1 dX6_readLine_45 rfl (lv_at hl 0 rfl) ?_
      refine goI (wf := (xw g)) (runS (w := xw g M3) (As := [.int s0]) (rest := []) C lkX6_76 (c_X6_isOnce l g C.2.2.2.2.2.2.2.2.2.2 s0  M3 _ hw) hP hS rfl rfl ⟨Nat.le_of_ble_eq_true rfl, Nat.le_of_ble_eq_true rfl⟩ hl.1 rfl (Nat.le_of_ble_eq_true rfl) dX6_readLine_46) hS (fun r5 M5 hw H locs hP hS => ?_)
      obtain ⟨hw, hz5⟩ := hw
      refine lv_if_eq (tgt := 73) C.1 C.2.1 dX6_readLine_49 (by decide) (fun h6 => ?_) (fun h6 => ?_)
      · have hw := hw.1 h6
        exact k_X6_readLine_73 (Q := Q) C s0  _ hw (lv_sub hl [1, 0] rfl) hP hS
      · have hw := hw.2 h6
        refine lv_aload_n C.1 C.2.1 dX6_readLine_52 rfl (lv_at hl 1 rfl) ?_
        obtain ⟨w18, h18, hb18, hw⟩ := hw
        refine gX6_34f C hP Nat.zero_lt_one h18 dX6_readLine_53 ?_
        refine gX6_79 C hP hb18 dX6_readLine_56 ?_
        refine lv_iload_n C.1 C.2.1 dX6_readLine_59 rfl (lv_at hl 0 rfl) ?_
        refine lv_iushr C.1 C.2.1 dX6_readLine_60 rfl ?_
        refine lv_iconst (v := 1) C.1 C.2.1 dX6_readLine_61 (by decide) ?_
        refine lv_iand C.1 C.2.1 dX6_readLine_62 ?_
        refine lv_iconst (v := 1) C.1 C.2.1 dX6_readLine_63 (by decide) ?_
        refine lv_icmp_ne (tgt := 73) C.1 C.2.1 dX6_readLine_64 (by decide) (fun h19 => ?_) (fun h19 => ?_)
        · have hw := hw.1 h19
          exact k_X6_readLine_73 (Q := Q) C s0  _ hw (lv_sub hl [1, 0] rfl) hP hS
        · have hw := hw.2 h19
          refine lv_aload_n C.1 C.2.1 dX6_readLine_67 rfl (lv_at hl 1 rfl) ?_
          refine lv_iconst (v := 3) C.1 C.2.1 dX6_readLine_68 (by decide) ?_
          refine goI (wf := (xw g)) (runV (w := xw g M5) (As := [.int 3]) (rest := []) C lkX6_69 (c_X6_refuse l g C.2.2.2.2.2.2.2.2.2.2 3  M5 _ hw) hP hS rfl rfl ⟨Nat.le_of_ble_eq_true rfl, Nat.le_of_ble_eq_true rfl⟩ (xx_2 Nat.zero_lt_one) rfl rfl hl.1 rfl (Nat.le_of_ble_eq_true rfl) dX6_readLine_69) hS (fun r20 M20 hw H locs hP hS => ?_)
          obtain ⟨hw, hz20⟩ := hw
          exact retZ (wf := (xw g)) C hP hS hz20 hw dX6_readLine_72
    · have hw := hw.2 h4
      refine lv_aload_n C.1 C.2.1 dX6_readLine_39 rfl (lv_at hl 1 rfl) ?_
      refine lv_iconst (v := 2) C.1 C.2.1 dX6_readLine_40 (by decide) ?_
      refine goI (wf := (xw g)) (runV (w := xw g M3) (As := [.int 2]) (rest := []) C lkX6_69 (c_X6_refuse l g C.2.2.2.2.2.2.2.2.2.2 2  M3 _ hw) hP hS rfl rfl ⟨Nat.le_of_ble_eq_true rfl, Nat.le_of_ble_eq_true rfl⟩ (xx_2 Nat.zero_lt_one) rfl rfl hl.1 rfl (Nat.le_of_ble_eq_true rfl) dX6_readLine_41) hS (fun r21 M21 hw H locs hP hS => ?_)
      obtain ⟨hw, hz21⟩ := hw
      exact retZ (wf := (xw g)) C hP hS hz21 hw dX6_readLine_44
  · have hw := hw.2 h2
    refine lv_aload_n C.1 C.2.1 dX6_readLine_25 rfl (lv_at hl 1 rfl) ?_
    refine lv_iconst (v := 1) C.1 C.2.1 dX6_readLine_26 (by decide) ?_
    refine goI (wf := (xw g)) (runV (w := xw g M) (As := [.int 1]) (rest := []) C lkX6_69 (c_X6_refuse l g C.2.2.2.2.2.2.2.2.2.2 1  M _ hw) hP hS rfl rfl ⟨Nat.le_of_ble_eq_true rfl, Nat.le_of_ble_eq_true rfl⟩ (xx_2 Nat.zero_lt_one) rfl rfl hl.1 rfl (Nat.le_of_ble_eq_true rfl) dX6_readLine_27) hS (fun r22 M22 hw H locs hP hS => ?_)
    obtain ⟨hw, hz22⟩ := hw
    exact retZ (wf := (xw g)) C hP hS hz22 hw dX6_readLine_30
def p_X6_readLine (M : Mem) (Q : Int32 → Mem → Prop) : Prop := ((¬ (M.1 2 0 5) = 1 → (b_X6_readLine_19 Q (-1) M)) ∧ ((M.1 2 0 5) = 1 → (p_X6_wordNumber ((M.1 2 0 7)) M (fun r23 M23 => (b_X6_readLine_19 Q r23 M23)))))
set_option maxRecDepth 100000 in
set_option maxHeartbeats 4000000 in
theorem c_X6_readLine (l : Launch) (g : Geo) (gi : GI g) (M : Mem) (Q : Int32 → Mem → Prop) (hw : p_X6_readLine  M Q) : Met l yX6_readLine (Cond.code yX6_readLine cX6_readLine 2 (some .boolean) :: bg) ({ frames := 4, cells := 0, slots := 0, locals := 88 } : Room) (va_Pc [.ref (g.2.1 (2 + 0))] (PW g (xw g M))) (va_Qi (fun r M => Q r M ∧ narrow .boolean (.int r) = .int r) (PB g (xw g)) (Af 0 g)) 0 0 (Af 0 g) := by
  refine Met.ofW (cc := cX6_readLine) (maxL := 2) (ret := (some .boolean)) (by decide +kernel) rfl ?_
  intro p e s m args below meth c s₁ B hml hv
  obtain ⟨rfl, hv⟩ := hv
  have C := CX.start (own := RX6) B hml rfl gi hv
  have hP := hv.1
  have hS : va_S (Af 0 g) s.heap s.heap [] := va_S.rf
  have hl := lv_entry ([.ref (g.2.1 (2 + 0))]) (n := 2) (Nat.le_of_ble_eq_true rfl)
  rw [lg_entry_eq]
  generalize (lg_sl ([.ref (g.2.1 (2 + 0))]) ++ List.replicate (2 - (lg_sl ([.ref (g.2.1 (2 + 0))])).length) Slot.unset).toArray = ls at hl ⊢
  have hl : lv_has ls 2 [(0, .ref (g.2.1 (2 + 0)))] := hl
  unfold p_X6_readLine at hw
  refine lv_aload_n C.1 C.2.1 dX6_readLine_0 rfl (lv_at hl 0 rfl) ?_
  refine gX6_49 C hP Nat.zero_lt_one dX6_readLine_1 ?_
  refine lv_iconst (v := 1) C.1 C.2.1 dX6_readLine_4 (by decide) ?_
  refine lv_icmp_ne (tgt := 18) C.1 C.2.1 dX6_readLine_5 (by decide) (fun h1 => ?_) (fun h1 => ?_)
  · have hw := hw.1 h1
    refine lv_iconst (v := (-1)) C.1 C.2.1 dX6_readLine_18 (by decide) ?_
    exact k_X6_readLine_19 (Q := Q) C (-1)  _ hw (lv_sub hl [0] rfl) hP hS
  · have hw := hw.2 h1
    refine lv_aload_n C.1 C.2.1 dX6_readLine_8 rfl (lv_at hl 0 rfl) ?_
    refine gX6_62 C hP Nat.zero_lt_one dX6_readLine_9 ?_
    refine goI (wf := (xw g)) (runS (w := xw g M) (As := [.int (M.1 2 0 7)]) (rest := []) C lkX6_65 (c_X6_wordNumber l g C.2.2.2.2.2.2.2.2.2.2 ((M.1 2 0 7))  M _ hw) hP hS rfl rfl ⟨Nat.le_of_ble_eq_true rfl, Nat.le_of_ble_eq_true rfl⟩ hl.1 rfl (Nat.le_of_ble_eq_true rfl) dX6_readLine_12) hS (fun r23 M23 hw H locs hP hS => ?_)
    refine lv_goto (tgt := 19) C.1 C.2.1 dX6_readLine_15 (by decide) ?_
    exact k_X6_readLine_19 (Q := Q) C r23  _ hw (lv_sub hl [0] rfl) hP hS
def b_X6_readAll_1_86 (Q : Int32 → Mem → Prop) (v4 : Int32) (M : Mem) : Prop := (∃ w11 : Nat, M.2.2 2 0 8 = some (23 + w11) ∧ w11 < 2 ∧ (p_X9_settle w11 M (fun M12 => (Q v4 M12))))
set_option maxRecDepth 100000 in
set_option maxHeartbeats 4000000 in
theorem k_X6_readAll_1_86 {p : Program} {l : Launch} {e : Env} {s : State} {m : MethodId} {args : Array Value} {below : List Frame} {meth : Method} {c : Code} {g : Geo} (C : CX g p s m args meth c cX6_readAll 6 (some .int) RX6) {Q : Int32 → Mem → Prop} (v4 : Int32) (M : Mem) (hw : b_X6_readAll_1_86 Q v4 M) {H : Heap} {locs : List Loc} {ls : Array Slot} (hl : lv_has ls 6 [(0, .ref (g.2.1 (2 + 0))), (4, .int v4)]) (hP : va_P g.1 clz (xw g M) H) (hS : va_S (Af 0 g) s.heap H locs) : W p l e ({ frames := 5, cells := 0, slots := 0, locals := 109 } : Room) s m args below meth c H locs 0 0 (MQ below (va_Qi Q (PB g (xw g)) (Af 0 g)) args s 0 0 (Af 0 g)) (F0 m 86 ls []) := by
  unfold b_X6_readAll_1_86 at hw
  refine lv_aload_n C.1 C.2.1 dX6_readAll_86 rfl (lv_at hl 0 rfl) ?_
  obtain ⟨w11, h11, hb11, hw⟩ := hw
  refine gX6_34f C hP Nat.zero_lt_one h11 dX6_readAll_87 ?_
  refine goV (wf := (xw g)) (runV (w := xw g M) (As := []) (rest := []) C lkX6_56 (c_X9_settle l g C.2.2.2.2.2.2.2.2.2.2 w11 hb11 M _ hw) hP hS rfl rfl ⟨Nat.le_of_ble_eq_true rfl, Nat.le_of_ble_eq_true rfl⟩ (xx_23 hb11) rfl rfl hl.1 rfl (Nat.le_of_ble_eq_true rfl) dX6_readAll_90) hS (fun M12 hw H locs hP hS => ?_)
  refine lv_iload C.1 C.2.1 dX6_readAll_93 (lv_at hl 1 rfl) ?_
  exact retI (wf := (xw g)) C hP hS hw dX6_readAll_95
def b_X6_readAll_1_52 (Q : Int32 → Mem → Prop) : Nat → Int32 → Int32 → Mem → Prop
  | 0, _, _, _ => False
  | n + 1, v4, v5, M => (((M.1 2 0 3) ≤ v5 → (b_X6_readAll_1_86 Q v4 M)) ∧ (¬ (M.1 2 0 3) ≤ v5 → (((M.1 2 0 5) = 0 → (b_X6_readAll_1_86 Q v4 M)) ∧ (¬ (M.1 2 0 5) = 0 → (p_X6_readLine  M (fun r14 M14 => ((¬ r14 = 0 → (∀ x16 : Int32, x16 = (v4 + 1) → (∀ x17 : Int32, x17 = (v5 + 1) → (b_X6_readAll_1_52 Q n x16 x17 M14)))) ∧ (r14 = 0 → (Q (-1) M14)))))))))
set_option maxRecDepth 100000 in
set_option maxHeartbeats 4000000 in
theorem k_X6_readAll_1_52 {p : Program} {l : Launch} {e : Env} {s : State} {m : MethodId} {args : Array Value} {below : List Frame} {meth : Method} {c : Code} {g : Geo} (C : CX g p s m args meth c cX6_readAll 6 (some .int) RX6) {Q : Int32 → Mem → Prop} : ∀ (n : Nat) (v4 : Int32) (v5 : Int32) (M : Mem) (hw : b_X6_readAll_1_52 Q n v4 v5 M) {H : Heap} {locs : List Loc} {ls : Array Slot} (hl : lv_has ls 6 [(0, .ref (g.2.1 (2 + 0))), (4, .int v4), (5, .int v5)]) (hP : va_P g.1 clz (xw g M) H) (hS : va_S (Af 0 g) s.heap H locs), W p l e ({ frames := 5, cells := 0, slots := 0, locals := 109 } : Room) s m args below meth c H locs 0 0 (MQ below (va_Qi Q (PB g (xw g)) (Af 0 g)) args s 0 0 (Af 0 g)) (F0 m 52 ls []) := by
  intro n
  induction n with
  | zero => intro v4 v5 M hw H locs ls hl hP hS; exact absurd hw (by rw [b_X6_readAll_1_52]; exact fun h => h)
  | succ n ih =>
    intro v4 v5 M hw H locs ls hl hP hS
    rw [b_X6_readAll_1_52] at hw
    refine lv_iload C.1 C.2.1 dX6_readAll_52 (lv_at hl 2 rfl) ?_
    refine lv_aload_n C.1 C.2.1 dX6_readAll_54 rfl (lv_at hl 0 rfl) ?_
    refine gX6_28 C hP Nat.zero_lt_one dX6_readAll_55 ?_
    refine lv_icmp_ge (tgt := 86) C.1 C.2.1 dX6_readAll_58 (by decide) (fun h10 => ?_) (fun h10 => ?_)
    · have hw := hw.1 h10
      exact k_X6_readAll_1_86 (Q := Q) C v4  _ hw (lv_sub hl [0, 1] rfl) hP hS
    · have hw := hw.2 h10
      refine lv_aload_n C.1 C.2.1 dX6_readAll_61 rfl (lv_at hl 0 rfl) ?_
      refine gX6_49 C hP Nat.zero_lt_one dX6_readAll_62 ?_
      refine lv_if_eq (tgt := 86) C.1 C.2.1 dX6_readAll_65 (by decide) (fun h13 => ?_) (fun h13 => ?_)
      · have hw := hw.1 h13
        exact k_X6_readAll_1_86 (Q := Q) C v4  _ hw (lv_sub hl [0, 1] rfl) hP hS
      · have hw := hw.2 h13
        refine lv_aload_n C.1 C.2.1 dX6_readAll_68 rfl (lv_at hl 0 rfl) ?_
        refine goI (wf := (xw g)) (runV (w := xw g M) (As := []) (rest := []) C lkX6_52 (c_X6_readLine l g C.2.2.2.2.2.2.2.2.2.2   M _ hw) hP hS rfl rfl ⟨Nat.le_of_ble_eq_true rfl, Nat.le_of_ble_eq_true rfl⟩ (xx_2 Nat.zero_lt_one) rfl rfl hl.1 rfl (Nat.le_of_ble_eq_true rfl) dX6_readAll_69) hS (fun r14 M14 hw H locs hP hS => ?_)
        obtain ⟨hw, hz14⟩ := hw
        refine lv_if_ne (tgt := 77) C.1 C.2.1 dX6_readAll_72 (by decide) (fun h15 => ?_) (fun h15 => ?_)
        · have hw := hw.1 h15
          obtain ⟨x16, e16⟩ : ∃ y : Int32, y = (v4 + 1) := ⟨_, rfl⟩
          have hw := hw x16 e16
          refine lv_iinc (v := x16) (lv' := [(4, .int x16), (0, .ref (g.2.1 (2 + 0))), (5, .int v5)]) C.1 C.2.1 dX6_readAll_77 hl (k := 1) rfl (by rw [e16]; rfl) (by decide) rfl (fun ls hl => ?_)
          obtain ⟨x17, e17⟩ : ∃ y : Int32, y = (v5 + 1) := ⟨_, rfl⟩
          have hw := hw x17 e17
          refine lv_iinc (v := x17) (lv' := [(5, .int x17), (4, .int x16), (0, .ref (g.2.1 (2 + 0)))]) C.1 C.2.1 dX6_readAll_80 hl (k := 2) rfl (by rw [e17]; rfl) (by decide) rfl (fun ls hl => ?_)
          refine lv_goto (tgt := 52) C.1 C.2.1 dX6_readAll_83 (by decide) ?_
          exact ih x16 x17  _ hw (lv_sub hl [2, 1, 0] rfl) hP hS
        · have hw := hw.2 h15
          refine lv_iconst (v := (-1)) C.1 C.2.1 dX6_readAll_75 (by decide) ?_
          exact retI (wf := (xw g)) C hP hS hw dX6_readAll_76
def p_X6_readAll_1 (a2 : Int32) (a3 : Nat) (M : Mem) (Q : Int32 → Mem → Prop) : Prop := (∀ M1 : Mem, M1 = sR M 2 0 2 (some (1 + 0)) → (∀ M2 : Mem, M2 = sI M1 2 0 3 (if 700 < a2 then 700 else a2) → (∀ M3 : Mem, M3 = sI M2 2 0 4 0 → (∀ M4 : Mem, M4 = sR M3 2 0 8 (some (23 + a3)) → (∃ w5 : Nat, M4.2.2 2 0 8 = some (23 + w5) ∧ w5 < 2 ∧ (p_X9_begin w5 M4 (fun M6 => (∀ M7 : Mem, M7 = sI M6 2 0 0 0 → (∀ M8 : Mem, M8 = sI M7 2 0 1 (-1) → (p_X6_advance  M8 (fun M9 => (∃ n52 : Nat, b_X6_readAll_1_52 Q n52 0 0 M9))))))))))))
set_option maxRecDepth 100000 in
set_option maxHeartbeats 4000000 in
theorem c_X6_readAll_1 (l : Launch) (g : Geo) (gi : GI g) (a2 : Int32) (a3 : Nat) (ha3 : a3 < 2) (M : Mem) (Q : Int32 → Mem → Prop) (hw : p_X6_readAll_1 a2 a3 M Q) : Met l yX6_readAll (Cond.code yX6_readAll cX6_readAll 6 (some .int) :: bg) ({ frames := 5, cells := 0, slots := 0, locals := 109 } : Room) (va_Pc [.ref (g.2.1 (2 + 0)), .ref (g.2.1 (1 + 0)), .int a2, .ref (g.2.1 (23 + a3))] (PW g (xw g M))) (va_Qi Q (PB g (xw g)) (Af 0 g)) 0 0 (Af 0 g) := by
  refine Met.ofW (cc := cX6_readAll) (maxL := 6) (ret := (some .int)) (by decide +kernel) rfl ?_
  intro p e s m args below meth c s₁ B hml hv
  obtain ⟨rfl, hv⟩ := hv
  have C := CX.start (own := RX6) B hml rfl gi hv
  have hP := hv.1
  have hS : va_S (Af 0 g) s.heap s.heap [] := va_S.rf
  have hl := lv_entry ([.ref (g.2.1 (2 + 0)), .ref (g.2.1 (1 + 0)), .int a2, .ref (g.2.1 (23 + a3))]) (n := 6) (Nat.le_of_ble_eq_true rfl)
  rw [lg_entry_eq]
  generalize (lg_sl ([.ref (g.2.1 (2 + 0)), .ref (g.2.1 (1 + 0)), .int a2, .ref (g.2.1 (23 + a3))]) ++ List.replicate (6 - (lg_sl ([.ref (g.2.1 (2 + 0)), .ref (g.2.1 (1 + 0)), .int a2, .ref (g.2.1 (23 + a3))])).length) Slot.unset).toArray = ls at hl ⊢
  have hl : lv_has ls 6 [(0, .ref (g.2.1 (2 + 0))), (1, .ref (g.2.1 (1 + 0))), (2, .int a2), (3, .ref (g.2.1 (23 + a3)))] := hl
  unfold p_X6_readAll_1 at hw
  refine lv_aload_n C.1 C.2.1 dX6_readAll_0 rfl (lv_at hl 0 rfl) ?_
  refine lv_aload_n C.1 C.2.1 dX6_readAll_1 rfl (lv_at hl 1 rfl) ?_
  refine pX6_15 C hP hS Nat.zero_lt_one dX6_readAll_2 (fun M1 e1 H locs hP hS => ?_)
  have hw := hw M1 e1
  refine lv_aload_n C.1 C.2.1 dX6_readAll_5 rfl (lv_at hl 0 rfl) ?_
  refine lv_iload_n C.1 C.2.1 dX6_readAll_6 rfl (lv_at hl 2 rfl) ?_
  refine lv_aload_n C.1 C.2.1 dX6_readAll_7 rfl (lv_at hl 1 rfl) ?_
  refine an_1 C hP Nat.zero_lt_one dX6_readAll_8 ?_
  refine va_mmin C.1 C.2.1 (C.2.2.1.trans hl.1.symm) C.2.2.2.2.1 (C.2.2.2.2.2.1 _ (bg_of 637 (by decide +kernel) rfl)) (C.2.2.2.2.2.1 _ (bg_of 638 (by decide +kernel) rfl)) (C.2.2.2.2.2.1 _ (bg_of 108 (by decide +kernel) rfl)) (C.2.2.2.2.2.1 _ (bg_of 639 (by decide +kernel) rfl)) (Nat.le_of_ble_eq_true rfl) (Nat.le_of_ble_eq_true rfl) (Nat.zero_le _) (Nat.zero_le _) dX6_readAll_9 ?_
  refine pX6_28 C hP hS Nat.zero_lt_one dX6_readAll_12 (fun M2 e2 H locs hP hS => ?_)
  have hw := hw M2 e2
  refine lv_aload_n C.1 C.2.1 dX6_readAll_15 rfl (lv_at hl 0 rfl) ?_
  refine lv_iconst (v := 0) C.1 C.2.1 dX6_readAll_16 (by decide) ?_
  refine pX6_31 C hP hS Nat.zero_lt_one dX6_readAll_17 (fun M3 e3 H locs hP hS => ?_)
  have hw := hw M3 e3
  refine lv_aload_n C.1 C.2.1 dX6_readAll_20 rfl (lv_at hl 0 rfl) ?_
  refine lv_aload_n C.1 C.2.1 dX6_readAll_21 rfl (lv_at hl 3 rfl) ?_
  refine pX6_34 C hP hS Nat.zero_lt_one dX6_readAll_22 (fun M4 e4 H locs hP hS => ?_)
  have hw := hw M4 e4
  refine lv_aload_n C.1 C.2.1 dX6_readAll_25 rfl (lv_at hl 0 rfl) ?_
  obtain ⟨w5, h5, hb5, hw⟩ := hw
  refine gX6_34f C hP Nat.zero_lt_one h5 dX6_readAll_26 ?_
  refine goV (wf := (xw g)) (runV (w := xw g M4) (As := []) (rest := []) C lkX6_38 (c_X9_begin l g C.2.2.2.2.2.2.2.2.2.2 w5 hb5 M4 _ hw) hP hS rfl rfl ⟨Nat.le_of_ble_eq_true rfl, Nat.le_of_ble_eq_true rfl⟩ (xx_23 hb5) rfl rfl hl.1 rfl (Nat.le_of_ble_eq_true rfl) dX6_readAll_29) hS (fun M6 hw H locs hP hS => ?_)
  refine lv_aload_n C.1 C.2.1 dX6_readAll_32 rfl (lv_at hl 0 rfl) ?_
  refine lv_iconst (v := 0) C.1 C.2.1 dX6_readAll_33 (by decide) ?_
  refine pX6_43 C hP hS Nat.zero_lt_one dX6_readAll_34 (fun M7 e7 H locs hP hS => ?_)
  have hw := hw M7 e7
  refine lv_aload_n C.1 C.2.1 dX6_readAll_37 rfl (lv_at hl 0 rfl) ?_
  refine lv_iconst (v := (-1)) C.1 C.2.1 dX6_readAll_38 (by decide) ?_
  refine pX6_9 C hP hS Nat.zero_lt_one dX6_readAll_39 (fun M8 e8 H locs hP hS => ?_)
  have hw := hw M8 e8
  refine lv_iconst (v := 0) C.1 C.2.1 dX6_readAll_42 (by decide) ?_
  refine lv_istore (lv' := [(4, .int 0), (0, .ref (g.2.1 (2 + 0))), (1, .ref (g.2.1 (1 + 0))), (2, .int a2), (3, .ref (g.2.1 (23 + a3)))]) C.1 C.2.1 dX6_readAll_43 hl (by decide) rfl (fun ls hl => ?_)
  refine lv_aload_n C.1 C.2.1 dX6_readAll_45 rfl (lv_at hl 1 rfl) ?_
  refine goV (wf := (xw g)) (runV (w := xw g M8) (As := []) (rest := []) C lkX6_46 (c_X6_advance l g C.2.2.2.2.2.2.2.2.2.2   M8 _ hw) hP hS rfl rfl ⟨Nat.le_of_ble_eq_true rfl, Nat.le_of_ble_eq_true rfl⟩ (xx_2 Nat.zero_lt_one) rfl rfl hl.1 rfl (Nat.le_of_ble_eq_true rfl) dX6_readAll_46) hS (fun M9 hw H locs hP hS => ?_)
  refine lv_iconst (v := 0) C.1 C.2.1 dX6_readAll_49 (by decide) ?_
  refine lv_istore (lv' := [(5, .int 0), (4, .int 0), (0, .ref (g.2.1 (2 + 0))), (1, .ref (g.2.1 (1 + 0))), (2, .int a2), (3, .ref (g.2.1 (23 + a3)))]) C.1 C.2.1 dX6_readAll_50 hl (by decide) rfl (fun ls hl => ?_)
  obtain ⟨n9, hw⟩ := hw
  exact k_X6_readAll_1_52 (Q := Q) C n9 0 0  _ hw (lv_sub hl [2, 1, 0] rfl) hP hS
def p_X7_way (a1 : Int32) (a2 : Int32) (a3 : Int32) (M : Mem) (Q : Int32 → Mem → Prop) : Prop := (∀ x1 : Int32, x1 = (((a1 * a1) + (a2 * a2)) + (a3 * a3)) → ((x1 < 0 → (Q 0 M)) ∧ (¬ x1 < 0 → ((676 ≤ x1 → (Q 0 M)) ∧ (¬ 676 ≤ x1 → (vp_in x1 676 ∧ (Q (M.1 20 0 (x1 : Int32).toNatClampNeg) M)))))))
set_option maxRecDepth 100000 in
set_option maxHeartbeats 4000000 in
theorem c_X7_way (l : Launch) (g : Geo) (gi : GI g) (a1 : Int32) (a2 : Int32) (a3 : Int32) (M : Mem) (Q : Int32 → Mem → Prop) (hw : p_X7_way a1 a2 a3 M Q) : Met l yX7_way (Cond.code yX7_way cX7_way 5 (some .int) :: bg) ({ frames := 0, cells := 0, slots := 0, locals := 0 } : Room) (va_Pc [.ref (g.2.1 (17 + 0)), .int a1, .int a2, .int a3] (PW g (xw g M))) (va_Qi Q (PB g (xw g)) (Af 0 g)) 0 0 (Af 0 g) := by
  refine Met.ofW (cc := cX7_way) (maxL := 5) (ret := (some .int)) (by decide +kernel) rfl ?_
  intro p e s m args below meth c s₁ B hml hv
  obtain ⟨rfl, hv⟩ := hv
  have C := CX.start (own := RX7) B hml rfl gi hv
  have hP := hv.1
  have hS : va_S (Af 0 g) s.heap s.heap [] := va_S.rf
  have hl := lv_entry ([.ref (g.2.1 (17 + 0)), .int a1, .int a2, .int a3]) (n := 5) (Nat.le_of_ble_eq_true rfl)
  rw [lg_entry_eq]
  generalize (lg_sl ([.ref (g.2.1 (17 + 0)), .int a1, .int a2, .int a3]) ++ List.replicate (5 - (lg_sl ([.ref (g.2.1 (17 + 0)), .int a1, .int a2, .int a3])).length) Slot.unset).toArray = ls at hl ⊢
  have hl : lv_has ls 5 [(0, .ref (g.2.1 (17 + 0))), (1, .int a1), (2, .int a2), (3, .int a3)] := hl
  unfold p_X7_way at hw
  refine lv_iload_n C.1 C.2.1 dX7_way_0 rfl (lv_at hl 1 rfl) ?_
  refine lv_iload_n C.1 C.2.1 dX7_way_1 rfl (lv_at hl 1 rfl) ?_
  refine lv_imul C.1 C.2.1 dX7_way_2 ?_
  refine lv_iload_n C.1 C.2.1 dX7_way_3 rfl (lv_at hl 2 rfl) ?_
  refine lv_iload_n C.1 C.2.1 dX7_way_4 rfl (lv_at hl 2 rfl) ?_
  refine lv_imul C.1 C.2.1 dX7_way_5 ?_
  refine lv_iadd C.1 C.2.1 dX7_way_6 ?_
  refine lv_iload_n C.1 C.2.1 dX7_way_7 rfl (lv_at hl 3 rfl) ?_
  refine lv_iload_n C.1 C.2.1 dX7_way_8 rfl (lv_at hl 3 rfl) ?_
  refine lv_imul C.1 C.2.1 dX7_way_9 ?_
  refine lv_iadd C.1 C.2.1 dX7_way_10 ?_
  refine lv_topi (fun x1 e1 => ?_)
  have hw := hw x1 e1
  refine lv_istore (lv' := [(4, .int x1), (0, .ref (g.2.1 (17 + 0))), (1, .int a1), (2, .int a2), (3, .int a3)]) C.1 C.2.1 dX7_way_11 hl (by decide) rfl (fun ls hl => ?_)
  refine lv_iload C.1 C.2.1 dX7_way_13 (lv_at hl 0 rfl) ?_
  refine lv_if_lt (tgt := 38) C.1 C.2.1 dX7_way_15 (by decide) (fun h2 => ?_) (fun h2 => ?_)
  · have hw := hw.1 h2
    refine lv_iconst (v := 0) C.1 C.2.1 dX7_way_38 (by decide) ?_
    exact retI (wf := (xw g)) C hP hS hw dX7_way_39
  · have hw := hw.2 h2
    refine lv_iload C.1 C.2.1 dX7_way_18 (lv_at hl 0 rfl) ?_
    refine lv_aload_n C.1 C.2.1 dX7_way_20 rfl (lv_at hl 1 rfl) ?_
    refine gX7_21 C hP Nat.zero_lt_one dX7_way_21 ?_
    refine an_20 C hP Nat.zero_lt_one dX7_way_24 ?_
    refine lv_icmp_ge (tgt := 38) C.1 C.2.1 dX7_way_25 (by decide) (fun h3 => ?_) (fun h3 => ?_)
    · have hw := hw.1 h3
      refine lv_iconst (v := 0) C.1 C.2.1 dX7_way_38 (by decide) ?_
      exact retI (wf := (xw g)) C hP hS hw dX7_way_39
    · have hw := hw.2 h3
      refine lv_aload_n C.1 C.2.1 dX7_way_28 rfl (lv_at hl 1 rfl) ?_
      refine gX7_21 C hP Nat.zero_lt_one dX7_way_29 ?_
      refine lv_iload C.1 C.2.1 dX7_way_32 (lv_at hl 0 rfl) ?_
      obtain ⟨h4, hw⟩ := hw
      refine al_20 C hP Nat.zero_lt_one h4 dX7_way_34 ?_
      refine lv_goto (tgt := 39) C.1 C.2.1 dX7_way_35 (by decide) ?_
      exact retI (wf := (xw g)) C hP hS hw dX7_way_39
def b_X7_gather_89 (Q : Mem → Prop) (k8 : Nat → Nat → Int32 → Int32 → Mem → Prop) (v1 : Nat) (v2 : Nat) (v3 : Int32) (v4 : Int32) (M : Mem) : Prop := (∀ x4 : Int32, x4 = (v4 + 1) → (k8 v1 v2 v3 x4 M))
set_option maxRecDepth 100000 in
set_option maxHeartbeats 4000000 in
theorem k_X7_gather_89 {p : Program} {l : Launch} {e : Env} {s : State} {m : MethodId} {args : Array Value} {below : List Frame} {meth : Method} {c : Code} {g : Geo} (C : CX g p s m args meth c cX7_gather 5 none RX7) {Q : Mem → Prop} {k8 : Nat → Nat → Int32 → Int32 → Mem → Prop} (hk8 : ∀ (v1 : Nat) (v2 : Nat) (v3 : Int32) (v4 : Int32) (hv1 : v1 < 2) (hv2 : v2 < 13) (M : Mem), k8 v1 v2 v3 v4 M → ∀ (H : Heap) (locs : List Loc) (ls : Array Slot), lv_has ls 5 [(0, .ref (g.2.1 (17 + 0))), (1, .ref (g.2.1 (23 + v1))), (2, .ref (g.2.1 (47 + v2))), (3, .int v3), (4, .int v4)] → va_P g.1 clz (xw g M) H → va_S (Af 0 g) s.heap H locs → W p l e ({ frames := 0, cells := 0, slots := 0, locals := 0 } : Room) s m args below meth c H locs 0 0 (MQ below (va_Qv Q (PB g (xw g)) (Af 0 g)) args s 0 0 (Af 0 g)) (F0 m 8 ls [])) (v1 : Nat) (v2 : Nat) (v3 : Int32) (v4 : Int32) (hv1 : v1 < 2) (hv2 : v2 < 13) (M : Mem) (hw : b_X7_gather_89 Q k8 v1 v2 v3 v4 M) {H : Heap} {locs : List Loc} {ls : Array Slot} (hl : lv_has ls 5 [(0, .ref (g.2.1 (17 + 0))), (1, .ref (g.2.1 (23 + v1))), (2, .ref (g.2.1 (47 + v2))), (3, .int v3), (4, .int v4)]) (hP : va_P g.1 clz (xw g M) H) (hS : va_S (Af 0 g) s.heap H locs) : W p l e ({ frames := 0, cells := 0, slots := 0, locals := 0 } : Room) s m args below meth c H locs 0 0 (MQ below (va_Qv Q (PB g (xw g)) (Af 0 g)) args s 0 0 (Af 0 g)) (F0 m 89 ls []) := by
  unfold b_X7_gather_89 at hw
  obtain ⟨x4, e4⟩ : ∃ y : Int32, y = (v4 + 1) := ⟨_, rfl⟩
  have hw := hw x4 e4
  refine lv_iinc (v := x4) (lv' := [(4, .int x4), (0, .ref (g.2.1 (17 + 0))), (1, .ref (g.2.1 (23 + v1))), (2, .ref (g.2.1 (47 + v2))), (3, .int v3)]) C.1 C.2.1 dX7_gather_89 hl (k := 4) rfl (by rw [e4]; rfl) (by decide) rfl (fun ls hl => ?_)
  refine lv_goto (tgt := 8) C.1 C.2.1 dX7_gather_92 (by decide) ?_
  exact hk8 v1 v2 v3 x4 hv1 hv2 _ hw _ _ _ (lv_sub hl [1, 2, 3, 4, 0] rfl) hP hS
def b_X7_gather_8 (Q : Mem → Prop) : Nat → Nat → Nat → Int32 → Int32 → Mem → Prop
  | 0, _, _, _, _, _ => False
  | n + 1, v1, v2, v3, v4, M => (((M.1 23 v1 1) ≤ v4 → (Q M)) ∧ (¬ (M.1 23 v1 1) ≤ v4 → ((v4 = v3 → (b_X7_gather_89 Q (fun v1 v2 v3 v4 M => b_X7_gather_8 Q n v1 v2 v3 v4 M) v1 v2 v3 v4 M)) ∧ (¬ v4 = v3 → (vp_in v4 5 ∧ (((M.1 25 (5 * v1 + (v4 : Int32).toNatClampNeg) 9) = 0 → (b_X7_gather_89 Q (fun v1 v2 v3 v4 M => b_X7_gather_8 Q n v1 v2 v3 v4 M) v1 v2 v3 v4 M)) ∧ (¬ (M.1 25 (5 * v1 + (v4 : Int32).toNatClampNeg) 9) = 0 → (vp_in v4 5 ∧ (((M.1 29 v2 (v4 : Int32).toNatClampNeg) = (-1) → (b_X7_gather_89 Q (fun v1 v2 v3 v4 M => b_X7_gather_8 Q n v1 v2 v3 v4 M) v1 v2 v3 v4 M)) ∧ (¬ (M.1 29 v2 (v4 : Int32).toNatClampNeg) = (-1) → (vp_in v4 5 ∧ (vp_in (M.1 17 0 0) 5 ∧ (∀ M10 : Mem, M10 = sR M 18 0 ((M.1 17 0 0) : Int32).toNatClampNeg (some (27 + (5 * v1 + (v4 : Int32).toNatClampNeg))) → (vp_in v4 5 ∧ (vp_in (M10.1 17 0 0) 5 ∧ (∀ M12 : Mem, M12 = sI M10 19 0 ((M10.1 17 0 0) : Int32).toNatClampNeg (M10.1 29 v2 (v4 : Int32).toNatClampNeg) → (∀ M13 : Mem, M13 = sI M12 17 0 0 ((M12.1 17 0 0) + 1) → (b_X7_gather_89 Q (fun v1 v2 v3 v4 M => b_X7_gather_8 Q n v1 v2 v3 v4 M) v1 v2 v3 v4 M13))))))))))))))))))
set_option maxRecDepth 100000 in
set_option maxHeartbeats 4000000 in
theorem k_X7_gather_8 {p : Program} {l : Launch} {e : Env} {s : State} {m : MethodId} {args : Array Value} {below : List Frame} {meth : Method} {c : Code} {g : Geo} (C : CX g p s m args meth c cX7_gather 5 none RX7) {Q : Mem → Prop} : ∀ (n : Nat) (v1 : Nat) (v2 : Nat) (v3 : Int32) (v4 : Int32) (hv1 : v1 < 2) (hv2 : v2 < 13) (M : Mem) (hw : b_X7_gather_8 Q n v1 v2 v3 v4 M) {H : Heap} {locs : List Loc} {ls : Array Slot} (hl : lv_has ls 5 [(0, .ref (g.2.1 (17 + 0))), (1, .ref (g.2.1 (23 + v1))), (2, .ref (g.2.1 (47 + v2))), (3, .int v3), (4, .int v4)]) (hP : va_P g.1 clz (xw g M) H) (hS : va_S (Af 0 g) s.heap H locs), W p l e ({ frames := 0, cells := 0, slots := 0, locals := 0 } : Room) s m args below meth c H locs 0 0 (MQ below (va_Qv Q (PB g (xw g)) (Af 0 g)) args s 0 0 (Af 0 g)) (F0 m 8 ls []) := by
  intro n
  induction n with
  | zero => intro v1 v2 v3 v4 hv1 hv2 M hw H locs ls hl hP hS; exact absurd hw (by rw [b_X7_gather_8]; exact fun h => h)
  | succ n ih =>
    intro v1 v2 v3 v4 hv1 hv2 M hw H locs ls hl hP hS
    rw [b_X7_gather_8] at hw
    refine lv_iload C.1 C.2.1 dX7_gather_8 (lv_at hl 4 rfl) ?_
    refine lv_aload_n C.1 C.2.1 dX7_gather_10 rfl (lv_at hl 1 rfl) ?_
    refine gX7_28 C hP hv1 dX7_gather_11 ?_
    refine lv_icmp_ge (tgt := 95) C.1 C.2.1 dX7_gather_14 (by decide) (fun h2 => ?_) (fun h2 => ?_)
    · have hw := hw.1 h2
      exact retV (wf := (xw g)) C hP hS hw dX7_gather_95
    · have hw := hw.2 h2
      refine lv_iload C.1 C.2.1 dX7_gather_17 (lv_at hl 4 rfl) ?_
      refine lv_iload_n C.1 C.2.1 dX7_gather_19 rfl (lv_at hl 3 rfl) ?_
      refine lv_icmp_eq (tgt := 89) C.1 C.2.1 dX7_gather_20 (by decide) (fun h3 => ?_) (fun h3 => ?_)
      · have hw := hw.1 h3
        exact k_X7_gather_89 (Q := Q) C (fun v1 v2 v3 v4 hv1 hv2 M hw H locs ls hl hP hS => ih v1 v2 v3 v4 hv1 hv2 M hw hl hP hS) v1 v2 v3 v4 hv1 hv2 _ hw (lv_sub hl [0, 1, 2, 3, 4] rfl) hP hS
      · have hw := hw.2 h3
        refine lv_aload_n C.1 C.2.1 dX7_gather_23 rfl (lv_at hl 1 rfl) ?_
        refine gX7_33 C hP hv1 dX7_gather_24 ?_
        refine lv_iload C.1 C.2.1 dX7_gather_27 (lv_at hl 4 rfl) ?_
        obtain ⟨h5, hw⟩ := hw
        have hb5 : (5 * v1 + (v4 : Int32).toNatClampNeg) < 10 := by have h9 := vp_lt h5; have h8 := hv1; omega
        refine al_24 C hP hv1 h5 dX7_gather_29 ?_
        refine gX7_34 C hP hb5 dX7_gather_30 ?_
        refine lv_if_eq (tgt := 89) C.1 C.2.1 dX7_gather_33 (by decide) (fun h6 => ?_) (fun h6 => ?_)
        · have hw := hw.1 h6
          exact k_X7_gather_89 (Q := Q) C (fun v1 v2 v3 v4 hv1 hv2 M hw H locs ls hl hP hS => ih v1 v2 v3 v4 hv1 hv2 M hw hl hP hS) v1 v2 v3 v4 hv1 hv2 _ hw (lv_sub hl [0, 1, 2, 3, 4] rfl) hP hS
        · have hw := hw.2 h6
          refine lv_aload_n C.1 C.2.1 dX7_gather_36 rfl (lv_at hl 2 rfl) ?_
          refine gX7_38 C hP hv2 dX7_gather_37 ?_
          refine lv_iload C.1 C.2.1 dX7_gather_40 (lv_at hl 4 rfl) ?_
          obtain ⟨h7, hw⟩ := hw
          refine al_29 C hP hv2 h7 dX7_gather_42 ?_
          refine lv_iconst (v := (-1)) C.1 C.2.1 dX7_gather_43 (by decide) ?_
          refine lv_icmp_eq (tgt := 89) C.1 C.2.1 dX7_gather_44 (by decide) (fun h8 => ?_) (fun h8 => ?_)
          · have hw := hw.1 h8
            exact k_X7_gather_89 (Q := Q) C (fun v1 v2 v3 v4 hv1 hv2 M hw H locs ls hl hP hS => ih v1 v2 v3 v4 hv1 hv2 M hw hl hP hS) v1 v2 v3 v4 hv1 hv2 _ hw (lv_sub hl [0, 1, 2, 3, 4] rfl) hP hS
          · have hw := hw.2 h8
            refine lv_aload_n C.1 C.2.1 dX7_gather_47 rfl (lv_at hl 0 rfl) ?_
            refine gX7_11 C hP Nat.zero_lt_one dX7_gather_48 ?_
            refine lv_aload_n C.1 C.2.1 dX7_gather_51 rfl (lv_at hl 0 rfl) ?_
            refine gX7_24 C hP Nat.zero_lt_one dX7_gather_52 ?_
            refine lv_aload_n C.1 C.2.1 dX7_gather_55 rfl (lv_at hl 1 rfl) ?_
            refine gX7_33 C hP hv1 dX7_gather_56 ?_
            refine lv_iload C.1 C.2.1 dX7_gather_59 (lv_at hl 4 rfl) ?_
            obtain ⟨h9, hw⟩ := hw
            have hb9 : (5 * v1 + (v4 : Int32).toNatClampNeg) < 10 := by have h9 := vp_lt h9; have h8 := hv1; omega
            refine al_24 C hP hv1 h9 dX7_gather_61 ?_
            obtain ⟨h10, hw⟩ := hw
            refine as_18 C hP hS Nat.zero_lt_one hb9 h10 dX7_gather_62 (fun M10 e10 H locs hP hS => ?_)
            have hw := hw M10 e10
            refine lv_aload_n C.1 C.2.1 dX7_gather_63 rfl (lv_at hl 0 rfl) ?_
            refine gX7_17 C hP Nat.zero_lt_one dX7_gather_64 ?_
            refine lv_aload_n C.1 C.2.1 dX7_gather_67 rfl (lv_at hl 0 rfl) ?_
            refine gX7_24 C hP Nat.zero_lt_one dX7_gather_68 ?_
            refine lv_aload_n C.1 C.2.1 dX7_gather_71 rfl (lv_at hl 2 rfl) ?_
            refine gX7_38 C hP hv2 dX7_gather_72 ?_
            refine lv_iload C.1 C.2.1 dX7_gather_75 (lv_at hl 4 rfl) ?_
            obtain ⟨h11, hw⟩ := hw
            refine al_29 C hP hv2 h11 dX7_gather_77 ?_
            obtain ⟨h12, hw⟩ := hw
            refine as_19 C hP hS Nat.zero_lt_one h12 dX7_gather_78 (fun M12 e12 H locs hP hS => ?_)
            have hw := hw M12 e12
            refine lv_aload_n C.1 C.2.1 dX7_gather_79 rfl (lv_at hl 0 rfl) ?_
            refine lv_dup C.1 C.2.1 dX7_gather_80 rfl ?_
            refine gX7_24 C hP Nat.zero_lt_one dX7_gather_81 ?_
            refine lv_iconst (v := 1) C.1 C.2.1 dX7_gather_84 (by decide) ?_
            refine lv_iadd C.1 C.2.1 dX7_gather_85 ?_
            refine pX7_24 C hP hS Nat.zero_lt_one dX7_gather_86 (fun M13 e13 H locs hP hS => ?_)
            have hw := hw M13 e13
            exact k_X7_gather_89 (Q := Q) C (fun v1 v2 v3 v4 hv1 hv2 M hw H locs ls hl hP hS => ih v1 v2 v3 v4 hv1 hv2 M hw hl hP hS) v1 v2 v3 v4 hv1 hv2 _ hw (lv_sub hl [0, 1, 2, 3, 4] rfl) hP hS
def p_X7_gather (a1 : Nat) (a2 : Nat) (a3 : Int32) (M : Mem) (Q : Mem → Prop) : Prop := (∀ M1 : Mem, M1 = sI M 17 0 0 0 → (∃ n8 : Nat, b_X7_gather_8 Q n8 a1 a2 a3 0 M1))
set_option maxRecDepth 100000 in
set_option maxHeartbeats 4000000 in
theorem c_X7_gather (l : Launch) (g : Geo) (gi : GI g) (a1 : Nat) (a2 : Nat) (a3 : Int32) (ha1 : a1 < 2) (ha2 : a2 < 13) (M : Mem) (Q : Mem → Prop) (hw : p_X7_gather a1 a2 a3 M Q) : Met l yX7_gather (Cond.code yX7_gather cX7_gather 5 none :: bg) ({ frames := 0, cells := 0, slots := 0, locals := 0 } : Room) (va_Pc [.ref (g.2.1 (17 + 0)), .ref (g.2.1 (23 + a1)), .ref (g.2.1 (47 + a2)), .int a3] (PW g (xw g M))) (va_Qv Q (PB g (xw g)) (Af 0 g)) 0 0 (Af 0 g) := by
  refine Met.ofW (cc := cX7_gather) (maxL := 5) (ret := none) (by decide +kernel) rfl ?_
  intro p e s m args below meth c s₁ B hml hv
  obtain ⟨rfl, hv⟩ := hv
  have C := CX.start (own := RX7) B hml rfl gi hv
  have hP := hv.1
  have hS : va_S (Af 0 g) s.heap s.heap [] := va_S.rf
  have hl := lv_entry ([.ref (g.2.1 (17 + 0)), .ref (g.2.1 (23 + a1)), .ref (g.2.1 (47 + a2)), .int a3]) (n := 5) (Nat.le_of_ble_eq_true rfl)
  rw [lg_entry_eq]
  generalize (lg_sl ([.ref (g.2.1 (17 + 0)), .ref (g.2.1 (23 + a1)), .ref (g.2.1 (47 + a2)), .int a3]) ++ List.replicate (5 - (lg_sl ([.ref (g.2.1 (17 + 0)), .ref (g.2.1 (23 + a1)), .ref (g.2.1 (47 + a2)), .int a3])).length) Slot.unset).toArray = ls at hl ⊢
  have hl : lv_has ls 5 [(0, .ref (g.2.1 (17 + 0))), (1, .ref (g.2.1 (23 + a1))), (2, .ref (g.2.1 (47 + a2))), (3, .int a3)] := hl
  unfold p_X7_gather at hw
  refine lv_aload_n C.1 C.2.1 dX7_gather_0 rfl (lv_at hl 0 rfl) ?_
  refine lv_iconst (v := 0) C.1 C.2.1 dX7_gather_1 (by decide) ?_
  refine pX7_24 C hP hS Nat.zero_lt_one dX7_gather_2 (fun M1 e1 H locs hP hS => ?_)
  have hw := hw M1 e1
  refine lv_iconst (v := 0) C.1 C.2.1 dX7_gather_5 (by decide) ?_
  refine lv_istore (lv' := [(4, .int 0), (0, .ref (g.2.1 (17 + 0))), (1, .ref (g.2.1 (23 + a1))), (2, .ref (g.2.1 (47 + a2))), (3, .int a3)]) C.1 C.2.1 dX7_gather_6 hl (by decide) rfl (fun ls hl => ?_)
  obtain ⟨n9, hw⟩ := hw
  exact k_X7_gather_8 (Q := Q) C n9 a1 a2 a3 0 ha1 ha2 _ hw (lv_sub hl [1, 2, 3, 4, 0] rfl) hP hS
def p_X7_bestClock (a1 : Int32) (M : Mem) (Q : Int32 → Mem → Prop) : Prop := ((0 < (M.1 17 0 0) → (p_J9_floorDiv_7cf53 (((M.1 17 0 0) - ((2 : Int32) * a1))) (((2 : Int32) * (M.1 17 0 0))) M (fun r2 M2 => (∀ x3 : Int32, x3 = (-r2) → (Q (if 0 < (if x3 < 99 then x3 else 99) then (if x3 < 99 then x3 else 99) else 0) M2))))) ∧ (¬ 0 < (M.1 17 0 0) → (Q 0 M)))
set_option maxRecDepth 100000 in
set_option maxHeartbeats 4000000 in
theorem c_X7_bestClock (l : Launch) (g : Geo) (gi : GI g) (a1 : Int32) (M : Mem) (Q : Int32 → Mem → Prop) (hw : p_X7_bestClock a1 M Q) : Met l yX7_bestClock (Cond.code yX7_bestClock cX7_bestClock 3 (some .int) :: bg) ({ frames := 1, cells := 0, slots := 0, locals := 22 } : Room) (va_Pc [.ref (g.2.1 (17 + 0)), .int a1] (PW g (xw g M))) (va_Qi Q (PB g (xw g)) (Af 0 g)) 0 0 (Af 0 g) := by
  refine Met.ofW (cc := cX7_bestClock) (maxL := 3) (ret := (some .int)) (by decide +kernel) rfl ?_
  intro p e s m args below meth c s₁ B hml hv
  obtain ⟨rfl, hv⟩ := hv
  have C := CX.start (own := RX7) B hml rfl gi hv
  have hP := hv.1
  have hS : va_S (Af 0 g) s.heap s.heap [] := va_S.rf
  have hl := lv_entry ([.ref (g.2.1 (17 + 0)), .int a1]) (n := 3) (Nat.le_of_ble_eq_true rfl)
  rw [lg_entry_eq]
  generalize (lg_sl ([.ref (g.2.1 (17 + 0)), .int a1]) ++ List.replicate (3 - (lg_sl ([.ref (g.2.1 (17 + 0)), .int a1])).length) Slot.unset).toArray = ls at hl ⊢
  have hl : lv_has ls 3 [(0, .ref (g.2.1 (17 + 0))), (1, .int a1)] := hl
  unfold p_X7_bestClock at hw
  refine lv_aload_n C.1 C.2.1 dX7_bestClock_0 rfl (lv_at hl 0 rfl) ?_
  refine gX7_24 C hP Nat.zero_lt_one dX7_bestClock_1 ?_
  refine lv_if_gt (tgt := 9) C.1 C.2.1 dX7_bestClock_4 (by decide) (fun h1 => ?_) (fun h1 => ?_)
  · have hw := hw.1 h1
    refine lv_aload_n C.1 C.2.1 dX7_bestClock_9 rfl (lv_at hl 0 rfl) ?_
    refine gX7_24 C hP Nat.zero_lt_one dX7_bestClock_10 ?_
    refine lv_iconst (v := 2) C.1 C.2.1 dX7_bestClock_13 (by decide) ?_
    refine lv_iload_n C.1 C.2.1 dX7_bestClock_14 rfl (lv_at hl 1 rfl) ?_
    refine lv_imul C.1 C.2.1 dX7_bestClock_15 ?_
    refine lv_isub C.1 C.2.1 dX7_bestClock_16 ?_
    refine lv_iconst (v := 2) C.1 C.2.1 dX7_bestClock_17 (by decide) ?_
    refine lv_aload_n C.1 C.2.1 dX7_bestClock_18 rfl (lv_at hl 0 rfl) ?_
    refine gX7_24 C hP Nat.zero_lt_one dX7_bestClock_19 ?_
    refine lv_imul C.1 C.2.1 dX7_bestClock_22 ?_
    refine goI (wf := (xw g)) (runS (w := xw g M) (As := [.int ((M.1 17 0 0) - ((2 : Int32) * a1)), .int ((2 : Int32) * (M.1 17 0 0))]) (rest := []) C lkX7_74 (c_J9_floorDiv_7cf53 l g C.2.2.2.2.2.2.2.2.2.2 (((M.1 17 0 0) - ((2 : Int32) * a1))) (((2 : Int32) * (M.1 17 0 0)))  M _ hw) hP hS rfl rfl ⟨Nat.le_of_ble_eq_true rfl, Nat.le_of_ble_eq_true rfl⟩ hl.1 rfl (Nat.le_of_ble_eq_true rfl) dX7_bestClock_23) hS (fun r2 M2 hw H locs hP hS => ?_)
    refine lv_ineg C.1 C.2.1 dX7_bestClock_26 ?_
    refine lv_topi (fun x3 e3 => ?_)
    have hw := hw x3 e3
    refine lv_istore_n (lv' := [(2, .int x3), (0, .ref (g.2.1 (17 + 0))), (1, .int a1)]) C.1 C.2.1 dX7_bestClock_27 rfl hl (by decide) rfl (fun ls hl => ?_)
    refine lv_iconst (v := 0) C.1 C.2.1 dX7_bestClock_28 (by decide) ?_
    refine lv_bipush (v := 99) C.1 C.2.1 dX7_bestClock_29 (by decide) ?_
    refine lv_iload_n C.1 C.2.1 dX7_bestClock_31 rfl (lv_at hl 0 rfl) ?_
    refine va_mmin C.1 C.2.1 (C.2.2.1.trans hl.1.symm) C.2.2.2.2.1 (C.2.2.2.2.2.1 _ (bg_of 1134 (by decide +kernel) rfl)) (C.2.2.2.2.2.1 _ (bg_of 638 (by decide +kernel) rfl)) (C.2.2.2.2.2.1 _ (bg_of 108 (by decide +kernel) rfl)) (C.2.2.2.2.2.1 _ (bg_of 639 (by decide +kernel) rfl)) (Nat.le_of_ble_eq_true rfl) (Nat.le_of_ble_eq_true rfl) (Nat.zero_le _) (Nat.zero_le _) dX7_bestClock_32 ?_
    refine va_mmax C.1 C.2.1 (C.2.2.1.trans hl.1.symm) C.2.2.2.2.1 (C.2.2.2.2.2.1 _ (bg_of 1135 (by decide +kernel) rfl)) (C.2.2.2.2.2.1 _ (bg_of 791 (by decide +kernel) rfl)) (C.2.2.2.2.2.1 _ (bg_of 108 (by decide +kernel) rfl)) (C.2.2.2.2.2.1 _ (bg_of 792 (by decide +kernel) rfl)) (Nat.le_of_ble_eq_true rfl) (Nat.le_of_ble_eq_true rfl) (Nat.zero_le _) (Nat.zero_le _) dX7_bestClock_35 ?_
    exact retI (wf := (xw g)) C hP hS hw dX7_bestClock_38
  · have hw := hw.2 h1
    refine lv_iconst (v := 0) C.1 C.2.1 dX7_bestClock_7 (by decide) ?_
    exact retI (wf := (xw g)) C hP hS hw dX7_bestClock_8
def b_X7_tryPoint_150 (Q : Mem → Prop) (v1 : Int32) (v2 : Int32) (v3 : Int32) (v7 : Int32) (v8 : Int32) (M : Mem) : Prop := (∀ M6 : Mem, M6 = sI M 17 0 1 v8 → (∀ M7 : Mem, M7 = sI M6 17 0 3 v1 → (∀ M8 : Mem, M8 = sI M7 17 0 4 v2 → (∀ M9 : Mem, M9 = sI M8 17 0 5 v3 → (∀ M10 : Mem, M10 = sI M9 17 0 6 v7 → (Q M10))))))
set_option maxRecDepth 100000 in
set_option maxHeartbeats 4000000 in
theorem k_X7_tryPoint_150 {p : Program} {l : Launch} {e : Env} {s : State} {m : MethodId} {args : Array Value} {below : List Frame} {meth : Method} {c : Code} {g : Geo} (C : CX g p s m args meth c cX7_tryPoint 10 none RX7) {Q : Mem → Prop} (v1 : Int32) (v2 : Int32) (v3 : Int32) (v7 : Int32) (v8 : Int32) (M : Mem) (hw : b_X7_tryPoint_150 Q v1 v2 v3 v7 v8 M) {H : Heap} {locs : List Loc} {ls : Array Slot} (hl : lv_has ls 10 [(0, .ref (g.2.1 (17 + 0))), (1, .int v1), (2, .int v2), (3, .int v3), (7, .int v7), (8, .int v8)]) (hP : va_P g.1 clz (xw g M) H) (hS : va_S (Af 0 g) s.heap H locs) : W p l e ({ frames := 2, cells := 0, slots := 0, locals := 44 } : Room) s m args below meth c H locs 0 0 (MQ below (va_Qv Q (PB g (xw g)) (Af 0 g)) args s 0 0 (Af 0 g)) (F0 m 150 ls []) := by
  unfold b_X7_tryPoint_150 at hw
  refine lv_aload_n C.1 C.2.1 dX7_tryPoint_150 rfl (lv_at hl 0 rfl) ?_
  refine lv_iload C.1 C.2.1 dX7_tryPoint_151 (lv_at hl 5 rfl) ?_
  refine pX7_41 C hP hS Nat.zero_lt_one dX7_tryPoint_153 (fun M6 e6 H locs hP hS => ?_)
  have hw := hw M6 e6
  refine lv_aload_n C.1 C.2.1 dX7_tryPoint_156 rfl (lv_at hl 0 rfl) ?_
  refine lv_iload_n C.1 C.2.1 dX7_tryPoint_157 rfl (lv_at hl 1 rfl) ?_
  refine pX7_68 C hP hS Nat.zero_lt_one dX7_tryPoint_158 (fun M7 e7 H locs hP hS => ?_)
  have hw := hw M7 e7
  refine lv_aload_n C.1 C.2.1 dX7_tryPoint_161 rfl (lv_at hl 0 rfl) ?_
  refine lv_iload_n C.1 C.2.1 dX7_tryPoint_162 rfl (lv_at hl 2 rfl) ?_
  refine pX7_69 C hP hS Nat.zero_lt_one dX7_tryPoint_163 (fun M8 e8 H locs hP hS => ?_)
  have hw := hw M8 e8
  refine lv_aload_n C.1 C.2.1 dX7_tryPoint_166 rfl (lv_at hl 0 rfl) ?_
  refine lv_iload_n C.1 C.2.1 dX7_tryPoint_167 rfl (lv_at hl 3 rfl) ?_
  refine pX7_70 C hP hS Nat.zero_lt_one dX7_tryPoint_168 (fun M9 e9 H locs hP hS => ?_)
  have hw := hw M9 e9
  refine lv_aload_n C.1 C.2.1 dX7_tryPoint_171 rfl (lv_at hl 0 rfl) ?_
  refine lv_iload C.1 C.2.1 dX7_tryPoint_172 (lv_at hl 4 rfl) ?_
  refine pX7_71 C hP hS Nat.zero_lt_one dX7_tryPoint_174 (fun M10 e10 H locs hP hS => ?_)
  have hw := hw M10 e10
  exact retV (wf := (xw g)) C hP hS hw dX7_tryPoint_177
def b_X7_tryPoint_133 (Q : Mem → Prop) (v1 : Int32) (v2 : Int32) (v3 : Int32) (v7 : Int32) (v8 : Int32) (M : Mem) : Prop := (((M.1 17 0 1) = (-1) → (b_X7_tryPoint_150 Q v1 v2 v3 v7 v8 M)) ∧ (¬ (M.1 17 0 1) = (-1) → (((M.1 17 0 1) ≤ v8 → (Q M)) ∧ (¬ (M.1 17 0 1) ≤ v8 → (b_X7_tryPoint_150 Q v1 v2 v3 v7 v8 M)))))
set_option maxRecDepth 100000 in
set_option maxHeartbeats 4000000 in
theorem k_X7_tryPoint_133 {p : Program} {l : Launch} {e : Env} {s : State} {m : MethodId} {args : Array Value} {below : List Frame} {meth : Method} {c : Code} {g : Geo} (C : CX g p s m args meth c cX7_tryPoint 10 none RX7) {Q : Mem → Prop} (v1 : Int32) (v2 : Int32) (v3 : Int32) (v7 : Int32) (v8 : Int32) (M : Mem) (hw : b_X7_tryPoint_133 Q v1 v2 v3 v7 v8 M) {H : Heap} {locs : List Loc} {ls : Array Slot} (hl : lv_has ls 10 [(0, .ref (g.2.1 (17 + 0))), (1, .int v1), (2, .int v2), (3, .int v3), (7, .int v7), (8, .int v8)]) (hP : va_P g.1 clz (xw g M) H) (hS : va_S (Af 0 g) s.heap H locs) : W p l e ({ frames := 2, cells := 0, slots := 0, locals := 44 } : Room) s m args below meth c H locs 0 0 (MQ below (va_Qv Q (PB g (xw g)) (Af 0 g)) args s 0 0 (Af 0 g)) (F0 m 133 ls []) := by
  unfold b_X7_tryPoint_133 at hw
  refine lv_aload_n C.1 C.2.1 dX7_tryPoint_133 rfl (lv_at hl 0 rfl) ?_
  refine gX7_41 C hP Nat.zero_lt_one dX7_tryPoint_134 ?_
  refine lv_iconst (v := (-1)) C.1 C.2.1 dX7_tryPoint_137 (by decide) ?_
  refine lv_icmp_eq (tgt := 150) C.1 C.2.1 dX7_tryPoint_138 (by decide) (fun h5 => ?_) (fun h5 => ?_)
  · have hw := hw.1 h5
    exact k_X7_tryPoint_150 (Q := Q) C v1 v2 v3 v7 v8  _ hw (lv_sub hl [0, 1, 2, 3, 4, 5] rfl) hP hS
  · have hw := hw.2 h5
    refine lv_iload C.1 C.2.1 dX7_tryPoint_141 (lv_at hl 5 rfl) ?_
    refine lv_aload_n C.1 C.2.1 dX7_tryPoint_143 rfl (lv_at hl 0 rfl) ?_
    refine gX7_41 C hP Nat.zero_lt_one dX7_tryPoint_144 ?_
    refine lv_icmp_ge (tgt := 177) C.1 C.2.1 dX7_tryPoint_147 (by decide) (fun h11 => ?_) (fun h11 => ?_)
    · have hw := hw.1 h11
      exact retV (wf := (xw g)) C hP hS hw dX7_tryPoint_177
    · have hw := hw.2 h11
      exact k_X7_tryPoint_150 (Q := Q) C v1 v2 v3 v7 v8  _ hw (lv_sub hl [0, 1, 2, 3, 4, 5] rfl) hP hS
def b_X7_tryPoint_85 (Q : Mem → Prop) (v1 : Int32) (v2 : Int32) (v3 : Int32) (v4 : Int32) (v5 : Int32) (v6 : Int32) (M : Mem) : Prop := (p_X7_bestClock v5 M (fun r2 M2 => (∀ x3 : Int32, x3 = ((v6 - (((2 : Int32) * r2) * v5)) + (((M2.1 17 0 0) * r2) * r2)) → ((v4 < x3 → (b_X7_tryPoint_133 Q v1 v2 v3 r2 x3 M2)) ∧ (¬ v4 < x3 → (∀ M12 : Mem, M12 = sI M2 17 0 2 ((M2.1 17 0 2) + 1) → (b_X7_tryPoint_133 Q v1 v2 v3 r2 x3 M12)))))))
set_option maxRecDepth 100000 in
set_option maxHeartbeats 4000000 in
theorem k_X7_tryPoint_85 {p : Program} {l : Launch} {e : Env} {s : State} {m : MethodId} {args : Array Value} {below : List Frame} {meth : Method} {c : Code} {g : Geo} (C : CX g p s m args meth c cX7_tryPoint 10 none RX7) {Q : Mem → Prop} (v1 : Int32) (v2 : Int32) (v3 : Int32) (v4 : Int32) (v5 : Int32) (v6 : Int32) (M : Mem) (hw : b_X7_tryPoint_85 Q v1 v2 v3 v4 v5 v6 M) {H : Heap} {locs : List Loc} {ls : Array Slot} (hl : lv_has ls 10 [(0, .ref (g.2.1 (17 + 0))), (1, .int v1), (2, .int v2), (3, .int v3), (4, .int v4), (5, .int v5), (6, .int v6)]) (hP : va_P g.1 clz (xw g M) H) (hS : va_S (Af 0 g) s.heap H locs) : W p l e ({ frames := 2, cells := 0, slots := 0, locals := 44 } : Room) s m args below meth c H locs 0 0 (MQ below (va_Qv Q (PB g (xw g)) (Af 0 g)) args s 0 0 (Af 0 g)) (F0 m 85 ls []) := by
  unfold b_X7_tryPoint_85 at hw
  refine lv_aload_n C.1 C.2.1 dX7_tryPoint_85 rfl (lv_at hl 0 rfl) ?_
  refine lv_iload C.1 C.2.1 dX7_tryPoint_86 (lv_at hl 5 rfl) ?_
  refine goI (wf := (xw g)) (runV (w := xw g M) (As := [.int v5]) (rest := []) C lkX7_64 (c_X7_bestClock l g C.2.2.2.2.2.2.2.2.2.2 v5  M _ hw) hP hS rfl rfl ⟨Nat.le_of_ble_eq_true rfl, Nat.le_of_ble_eq_true rfl⟩ (xx_17 Nat.zero_lt_one) rfl rfl hl.1 rfl (Nat.le_of_ble_eq_true rfl) dX7_tryPoint_88) hS (fun r2 M2 hw H locs hP hS => ?_)
  refine lv_istore (lv' := [(7, .int r2), (0, .ref (g.2.1 (17 + 0))), (1, .int v1), (2, .int v2), (3, .int v3), (4, .int v4), (5, .int v5), (6, .int v6)]) C.1 C.2.1 dX7_tryPoint_91 hl (by decide) rfl (fun ls hl => ?_)
  refine lv_iload C.1 C.2.1 dX7_tryPoint_93 (lv_at hl 7 rfl) ?_
  refine lv_iconst (v := 2) C.1 C.2.1 dX7_tryPoint_95 (by decide) ?_
  refine lv_iload C.1 C.2.1 dX7_tryPoint_96 (lv_at hl 0 rfl) ?_
  refine lv_imul C.1 C.2.1 dX7_tryPoint_98 ?_
  refine lv_iload C.1 C.2.1 dX7_tryPoint_99 (lv_at hl 6 rfl) ?_
  refine lv_imul C.1 C.2.1 dX7_tryPoint_101 ?_
  refine lv_isub C.1 C.2.1 dX7_tryPoint_102 ?_
  refine lv_aload_n C.1 C.2.1 dX7_tryPoint_103 rfl (lv_at hl 1 rfl) ?_
  refine gX7_24 C hP Nat.zero_lt_one dX7_tryPoint_104 ?_
  refine lv_iload C.1 C.2.1 dX7_tryPoint_107 (lv_at hl 0 rfl) ?_
  refine lv_imul C.1 C.2.1 dX7_tryPoint_109 ?_
  refine lv_iload C.1 C.2.1 dX7_tryPoint_110 (lv_at hl 0 rfl) ?_
  refine lv_imul C.1 C.2.1 dX7_tryPoint_112 ?_
  refine lv_iadd C.1 C.2.1 dX7_tryPoint_113 ?_
  refine lv_topi (fun x3 e3 => ?_)
  have hw := hw x3 e3
  refine lv_istore (lv' := [(8, .int x3), (7, .int r2), (0, .ref (g.2.1 (17 + 0))), (1, .int v1), (2, .int v2), (3, .int v3), (4, .int v4), (5, .int v5), (6, .int v6)]) C.1 C.2.1 dX7_tryPoint_114 hl (by decide) rfl (fun ls hl => ?_)
  refine lv_iload C.1 C.2.1 dX7_tryPoint_116 (lv_at hl 0 rfl) ?_
  refine lv_iload C.1 C.2.1 dX7_tryPoint_118 (lv_at hl 6 rfl) ?_
  refine lv_icmp_gt (tgt := 133) C.1 C.2.1 dX7_tryPoint_120 (by decide) (fun h4 => ?_) (fun h4 => ?_)
  · have hw := hw.1 h4
    exact k_X7_tryPoint_133 (Q := Q) C v1 v2 v3 r2 x3  _ hw (lv_sub hl [2, 3, 4, 5, 1, 0] rfl) hP hS
  · have hw := hw.2 h4
    refine lv_aload_n C.1 C.2.1 dX7_tryPoint_123 rfl (lv_at hl 2 rfl) ?_
    refine lv_dup C.1 C.2.1 dX7_tryPoint_124 rfl ?_
    refine gX7_44 C hP Nat.zero_lt_one dX7_tryPoint_125 ?_
    refine lv_iconst (v := 1) C.1 C.2.1 dX7_tryPoint_128 (by decide) ?_
    refine lv_iadd C.1 C.2.1 dX7_tryPoint_129 ?_
    refine pX7_44 C hP hS Nat.zero_lt_one dX7_tryPoint_130 (fun M12 e12 H locs hP hS => ?_)
    have hw := hw M12 e12
    exact k_X7_tryPoint_133 (Q := Q) C v1 v2 v3 r2 x3  _ hw (lv_sub hl [2, 3, 4, 5, 1, 0] rfl) hP hS
def b_X7_tryPoint_9 (Q : Mem → Prop) : Nat → Int32 → Int32 → Int32 → Int32 → Int32 → Int32 → Int32 → Mem → Prop
  | 0, _, _, _, _, _, _, _, _ => False
  | n + 1, v1, v2, v3, v4, v5, v6, v7, M => (((M.1 17 0 0) ≤ v7 → (b_X7_tryPoint_85 Q v1 v2 v3 v4 v5 v6 M)) ∧ (¬ (M.1 17 0 0) ≤ v7 → (vp_in v7 5 ∧ (∃ w13 : Nat, M.2.2 18 0 (v7 : Int32).toNatClampNeg = some (27 + w13) ∧ w13 < 10 ∧ (vp_in v7 5 ∧ (p_X7_way (((M.1 25 w13 10) - v1)) (((M.1 25 w13 11) - v2)) (((M.1 25 w13 12) - v3)) M (fun r15 M15 => (∀ x16 : Int32, x16 = ((M.1 19 0 (v7 : Int32).toNatClampNeg) - r15) → (∀ x17 : Int32, x17 = (v5 + x16) → (∀ x18 : Int32, x18 = (v6 + (x16 * x16)) → (∀ x19 : Int32, x19 = (v7 + 1) → (b_X7_tryPoint_9 Q n v1 v2 v3 v4 x17 x18 x19 M15))))))))))))
set_option maxRecDepth 100000 in
set_option maxHeartbeats 4000000 in
theorem k_X7_tryPoint_9 {p : Program} {l : Launch} {e : Env} {s : State} {m : MethodId} {args : Array Value} {below : List Frame} {meth : Method} {c : Code} {g : Geo} (C : CX g p s m args meth c cX7_tryPoint 10 none RX7) {Q : Mem → Prop} : ∀ (n : Nat) (v1 : Int32) (v2 : Int32) (v3 : Int32) (v4 : Int32) (v5 : Int32) (v6 : Int32) (v7 : Int32) (M : Mem) (hw : b_X7_tryPoint_9 Q n v1 v2 v3 v4 v5 v6 v7 M) {H : Heap} {locs : List Loc} {ls : Array Slot} (hl : lv_has ls 10 [(0, .ref (g.2.1 (17 + 0))), (1, .int v1), (2, .int v2), (3, .int v3), (4, .int v4), (5, .int v5), (6, .int v6), (7, .int v7)]) (hP : va_P g.1 clz (xw g M) H) (hS : va_S (Af 0 g) s.heap H locs), W p l e ({ frames := 2, cells := 0, slots := 0, locals := 44 } : Room) s m args below meth c H locs 0 0 (MQ below (va_Qv Q (PB g (xw g)) (Af 0 g)) args s 0 0 (Af 0 g)) (F0 m 9 ls []) := by
  intro n
  induction n with
  | zero => intro v1 v2 v3 v4 v5 v6 v7 M hw H locs ls hl hP hS; exact absurd hw (by rw [b_X7_tryPoint_9]; exact fun h => h)
  | succ n ih =>
    intro v1 v2 v3 v4 v5 v6 v7 M hw H locs ls hl hP hS
    rw [b_X7_tryPoint_9] at hw
    refine lv_iload C.1 C.2.1 dX7_tryPoint_9 (lv_at hl 7 rfl) ?_
    refine lv_aload_n C.1 C.2.1 dX7_tryPoint_11 rfl (lv_at hl 0 rfl) ?_
    refine gX7_24 C hP Nat.zero_lt_one dX7_tryPoint_12 ?_
    refine lv_icmp_ge (tgt := 85) C.1 C.2.1 dX7_tryPoint_15 (by decide) (fun h1 => ?_) (fun h1 => ?_)
    · have hw := hw.1 h1
      exact k_X7_tryPoint_85 (Q := Q) C v1 v2 v3 v4 v5 v6  _ hw (lv_sub hl [0, 1, 2, 3, 4, 5, 6] rfl) hP hS
    · have hw := hw.2 h1
      refine lv_aload_n C.1 C.2.1 dX7_tryPoint_18 rfl (lv_at hl 0 rfl) ?_
      refine gX7_11 C hP Nat.zero_lt_one dX7_tryPoint_19 ?_
      refine lv_iload C.1 C.2.1 dX7_tryPoint_22 (lv_at hl 7 rfl) ?_
      obtain ⟨h13, hw⟩ := hw
      obtain ⟨w13, g13, hb13, hw⟩ := hw
      refine al_18 C hP Nat.zero_lt_one h13 g13 dX7_tryPoint_24 ?_
      refine lv_astore (lv' := [(8, .ref (g.2.1 (27 + w13))), (0, .ref (g.2.1 (17 + 0))), (1, .int v1), (2, .int v2), (3, .int v3), (4, .int v4), (5, .int v5), (6, .int v6), (7, .int v7)]) C.1 C.2.1 dX7_tryPoint_25 hl (by decide) rfl (fun ls hl => ?_)
      refine lv_aload_n C.1 C.2.1 dX7_tryPoint_27 rfl (lv_at hl 1 rfl) ?_
      refine gX7_17 C hP Nat.zero_lt_one dX7_tryPoint_28 ?_
      refine lv_iload C.1 C.2.1 dX7_tryPoint_31 (lv_at hl 8 rfl) ?_
      obtain ⟨h14, hw⟩ := hw
      refine al_19 C hP Nat.zero_lt_one h14 dX7_tryPoint_33 ?_
      refine lv_aload_n C.1 C.2.1 dX7_tryPoint_34 rfl (lv_at hl 1 rfl) ?_
      refine lv_aload C.1 C.2.1 dX7_tryPoint_35 (lv_at hl 0 rfl) ?_
      refine gX7_51 C hP hb13 dX7_tryPoint_37 ?_
      refine lv_iload_n C.1 C.2.1 dX7_tryPoint_40 rfl (lv_at hl 2 rfl) ?_
      refine lv_isub C.1 C.2.1 dX7_tryPoint_41 ?_
      refine lv_aload C.1 C.2.1 dX7_tryPoint_42 (lv_at hl 0 rfl) ?_
      refine gX7_54 C hP hb13 dX7_tryPoint_44 ?_
      refine lv_iload_n C.1 C.2.1 dX7_tryPoint_47 rfl (lv_at hl 3 rfl) ?_
      refine lv_isub C.1 C.2.1 dX7_tryPoint_48 ?_
      refine lv_aload C.1 C.2.1 dX7_tryPoint_49 (lv_at hl 0 rfl) ?_
      refine gX7_57 C hP hb13 dX7_tryPoint_51 ?_
      refine lv_iload_n C.1 C.2.1 dX7_tryPoint_54 rfl (lv_at hl 4 rfl) ?_
      refine lv_isub C.1 C.2.1 dX7_tryPoint_55 ?_
      refine goI (wf := (xw g)) (runV (w := xw g M) (As := [.int ((M.1 25 w13 10) - v1), .int ((M.1 25 w13 11) - v2), .int ((M.1 25 w13 12) - v3)]) (rest := [.int (M.1 19 0 (v7 : Int32).toNatClampNeg)]) C lkX7_60 (c_X7_way l g C.2.2.2.2.2.2.2.2.2.2 (((M.1 25 w13 10) - v1)) (((M.1 25 w13 11) - v2)) (((M.1 25 w13 12) - v3))  M _ hw) hP hS rfl rfl ⟨Nat.le_of_ble_eq_true rfl, Nat.le_of_ble_eq_true rfl⟩ (xx_17 Nat.zero_lt_one) rfl rfl hl.1 rfl (Nat.le_of_ble_eq_true rfl) dX7_tryPoint_56) hS (fun r15 M15 hw H locs hP hS => ?_)
      refine lv_isub C.1 C.2.1 dX7_tryPoint_59 ?_
      refine lv_topi (fun x16 e16 => ?_)
      have hw := hw x16 e16
      refine lv_istore (lv' := [(9, .int x16), (8, .ref (g.2.1 (27 + w13))), (0, .ref (g.2.1 (17 + 0))), (1, .int v1), (2, .int v2), (3, .int v3), (4, .int v4), (5, .int v5), (6, .int v6), (7, .int v7)]) C.1 C.2.1 dX7_tryPoint_60 hl (by decide) rfl (fun ls hl => ?_)
      refine lv_iload C.1 C.2.1 dX7_tryPoint_62 (lv_at hl 7 rfl) ?_
      refine lv_iload C.1 C.2.1 dX7_tryPoint_64 (lv_at hl 0 rfl) ?_
      refine lv_iadd C.1 C.2.1 dX7_tryPoint_66 ?_
      refine lv_topi (fun x17 e17 => ?_)
      have hw := hw x17 e17
      refine lv_istore (lv' := [(5, .int x17), (9, .int x16), (8, .ref (g.2.1 (27 + w13))), (0, .ref (g.2.1 (17 + 0))), (1, .int v1), (2, .int v2), (3, .int v3), (4, .int v4), (6, .int v6), (7, .int v7)]) C.1 C.2.1 dX7_tryPoint_67 hl (by decide) rfl (fun ls hl => ?_)
      refine lv_iload C.1 C.2.1 dX7_tryPoint_69 (lv_at hl 8 rfl) ?_
      refine lv_iload C.1 C.2.1 dX7_tryPoint_71 (lv_at hl 1 rfl) ?_
      refine lv_iload C.1 C.2.1 dX7_tryPoint_73 (lv_at hl 1 rfl) ?_
      refine lv_imul C.1 C.2.1 dX7_tryPoint_75 ?_
      refine lv_iadd C.1 C.2.1 dX7_tryPoint_76 ?_
      refine lv_topi (fun x18 e18 => ?_)
      have hw := hw x18 e18
      refine lv_istore (lv' := [(6, .int x18), (5, .int x17), (9, .int x16), (8, .ref (g.2.1 (27 + w13))), (0, .ref (g.2.1 (17 + 0))), (1, .int v1), (2, .int v2), (3, .int v3), (4, .int v4), (7, .int v7)]) C.1 C.2.1 dX7_tryPoint_77 hl (by decide) rfl (fun ls hl => ?_)
      obtain ⟨x19, e19⟩ : ∃ y : Int32, y = (v7 + 1) := ⟨_, rfl⟩
      have hw := hw x19 e19
      refine lv_iinc (v := x19) (lv' := [(7, .int x19), (6, .int x18), (5, .int x17), (9, .int x16), (8, .ref (g.2.1 (27 + w13))), (0, .ref (g.2.1 (17 + 0))), (1, .int v1), (2, .int v2), (3, .int v3), (4, .int v4)]) C.1 C.2.1 dX7_tryPoint_79 hl (k := 9) rfl (by rw [e19]; rfl) (by decide) rfl (fun ls hl => ?_)
      refine lv_goto (tgt := 9) C.1 C.2.1 dX7_tryPoint_82 (by decide) ?_
      exact ih v1 v2 v3 v4 x17 x18 x19  _ hw (lv_sub hl [5, 6, 7, 8, 9, 2, 1, 0] rfl) hP hS
def p_X7_tryPoint (a1 : Int32) (a2 : Int32) (a3 : Int32) (a4 : Int32) (M : Mem) (Q : Mem → Prop) : Prop := (∃ n9 : Nat, b_X7_tryPoint_9 Q n9 a1 a2 a3 a4 0 0 0 M)
set_option maxRecDepth 100000 in
set_option maxHeartbeats 4000000 in
theorem c_X7_tryPoint (l : Launch) (g : Geo) (gi : GI g) (a1 : Int32) (a2 : Int32) (a3 : Int32) (a4 : Int32) (M : Mem) (Q : Mem → Prop) (hw : p_X7_tryPoint a1 a2 a3 a4 M Q) : Met l yX7_tryPoint (Cond.code yX7_tryPoint cX7_tryPoint 10 none :: bg) ({ frames := 2, cells := 0, slots := 0, locals := 44 } : Room) (va_Pc [.ref (g.2.1 (17 + 0)), .int a1, .int a2, .int a3, .int a4] (PW g (xw g M))) (va_Qv Q (PB g (xw g)) (Af 0 g)) 0 0 (Af 0 g) := by
  refine Met.ofW (cc := cX7_tryPoint) (maxL := 10) (ret := none) (by decide +kernel) rfl ?_
  intro p e s m args below meth c s₁ B hml hv
  obtain ⟨rfl, hv⟩ := hv
  have C := CX.start (own := RX7) B hml rfl gi hv
  have hP := hv.1
  have hS : va_S (Af 0 g) s.heap s.heap [] := va_S.rf
  have hl := lv_entry ([.ref (g.2.1 (17 + 0)), .int a1, .int a2, .int a3, .int a4]) (n := 10) (Nat.le_of_ble_eq_true rfl)
  rw [lg_entry_eq]
  generalize (lg_sl ([.ref (g.2.1 (17 + 0)), .int a1, .int a2, .int a3, .int a4]) ++ List.replicate (10 - (lg_sl ([.ref (g.2.1 (17 + 0)), .int a1, .int a2, .int a3, .int a4])).length) Slot.unset).toArray = ls at hl ⊢
  have hl : lv_has ls 10 [(0, .ref (g.2.1 (17 + 0))), (1, .int a1), (2, .int a2), (3, .int a3), (4, .int a4)] := hl
  unfold p_X7_tryPoint at hw
  refine lv_iconst (v := 0) C.1 C.2.1 dX7_tryPoint_0 (by decide) ?_
  refine lv_istore (lv' := [(5, .int 0), (0, .ref (g.2.1 (17 + 0))), (1, .int a1), (2, .int a2), (3, .int a3), (4, .int a4)]) C.1 C.2.1 dX7_tryPoint_1 hl (by decide) rfl (fun ls hl => ?_)
  refine lv_iconst (v := 0) C.1 C.2.1 dX7_tryPoint_3 (by decide) ?_
  refine lv_istore (lv' := [(6, .int 0), (5, .int 0), (0, .ref (g.2.1 (17 + 0))), (1, .int a1), (2, .int a2), (3, .int a3), (4, .int a4)]) C.1 C.2.1 dX7_tryPoint_4 hl (by decide) rfl (fun ls hl => ?_)
  refine lv_iconst (v := 0) C.1 C.2.1 dX7_tryPoint_6 (by decide) ?_
  refine lv_istore (lv' := [(7, .int 0), (6, .int 0), (5, .int 0), (0, .ref (g.2.1 (17 + 0))), (1, .int a1), (2, .int a2), (3, .int a3), (4, .int a4)]) C.1 C.2.1 dX7_tryPoint_7 hl (by decide) rfl (fun ls hl => ?_)
  obtain ⟨n9, hw⟩ := hw
  exact k_X7_tryPoint_9 (Q := Q) C n9 a1 a2 a3 a4 0 0 0  _ hw (lv_sub hl [3, 4, 5, 6, 7, 2, 1, 0] rfl) hP hS
def b_X7_solve_57 (Q : Mem → Prop) (k12 : Int32 → Int32 → Mem → Prop) (v1 : Int32) (v2 : Int32) (M : Mem) : Prop := (∀ x5 : Int32, x5 = (v2 + 1) → (k12 v1 x5 M))
set_option maxRecDepth 100000 in
set_option maxHeartbeats 4000000 in
theorem k_X7_solve_57 {p : Program} {l : Launch} {e : Env} {s : State} {m : MethodId} {args : Array Value} {below : List Frame} {meth : Method} {c : Code} {g : Geo} (C : CX g p s m args meth c cX7_solve 5 none RX7) {Q : Mem → Prop} {k12 : Int32 → Int32 → Mem → Prop} (hk12 : ∀ (v1 : Int32) (v2 : Int32) (M : Mem), k12 v1 v2 M → ∀ (H : Heap) (locs : List Loc) (ls : Array Slot), lv_has ls 5 [(0, .ref (g.2.1 (17 + 0))), (1, .int v1), (2, .int v2)] → va_P g.1 clz (xw g M) H → va_S (Af 0 g) s.heap H locs → W p l e ({ frames := 3, cells := 0, slots := 0, locals := 73 } : Room) s m args below meth c H locs 0 0 (MQ below (va_Qv Q (PB g (xw g)) (Af 0 g)) args s 0 0 (Af 0 g)) (F0 m 12 ls [])) (v1 : Int32) (v2 : Int32) (M : Mem) (hw : b_X7_solve_57 Q k12 v1 v2 M) {H : Heap} {locs : List Loc} {ls : Array Slot} (hl : lv_has ls 5 [(0, .ref (g.2.1 (17 + 0))), (1, .int v1), (2, .int v2)]) (hP : va_P g.1 clz (xw g M) H) (hS : va_S (Af 0 g) s.heap H locs) : W p l e ({ frames := 3, cells := 0, slots := 0, locals := 73 } : Room) s m args below meth c H locs 0 0 (MQ below (va_Qv Q (PB g (xw g)) (Af 0 g)) args s 0 0 (Af 0 g)) (F0 m 57 ls []) := by
  unfold b_X7_solve_57 at hw
  obtain ⟨x5, e5⟩ : ∃ y : Int32, y = (v2 + 1) := ⟨_, rfl⟩
  have hw := hw x5 e5
  refine lv_iinc (v := x5) (lv' := [(2, .int x5), (0, .ref (g.2.1 (17 + 0))), (1, .int v1)]) C.1 C.2.1 dX7_solve_57 hl (k := 2) rfl (by rw [e5]; rfl) (by decide) rfl (fun ls hl => ?_)
  refine lv_goto (tgt := 12) C.1 C.2.1 dX7_solve_60 (by decide) ?_
  exact hk12 v1 x5  _ hw _ _ _ (lv_sub hl [1, 2, 0] rfl) hP hS
def b_X7_solve_51 (Q : Mem → Prop) (k20 : Int32 → Int32 → Int32 → Mem → Prop) (v1 : Int32) (v2 : Int32) (v3 : Int32) (M : Mem) : Prop := (∀ x7 : Int32, x7 = (v3 + 1) → (k20 v1 v2 x7 M))
set_option maxRecDepth 100000 in
set_option maxHeartbeats 4000000 in
theorem k_X7_solve_51 {p : Program} {l : Launch} {e : Env} {s : State} {m : MethodId} {args : Array Value} {below : List Frame} {meth : Method} {c : Code} {g : Geo} (C : CX g p s m args meth c cX7_solve 5 none RX7) {Q : Mem → Prop} {k20 : Int32 → Int32 → Int32 → Mem → Prop} (hk20 : ∀ (v1 : Int32) (v2 : Int32) (v3 : Int32) (M : Mem), k20 v1 v2 v3 M → ∀ (H : Heap) (locs : List Loc) (ls : Array Slot), lv_has ls 5 [(0, .ref (g.2.1 (17 + 0))), (1, .int v1), (2, .int v2), (3, .int v3)] → va_P g.1 clz (xw g M) H → va_S (Af 0 g) s.heap H locs → W p l e ({ frames := 3, cells := 0, slots := 0, locals := 73 } : Room) s m args below meth c H locs 0 0 (MQ below (va_Qv Q (PB g (xw g)) (Af 0 g)) args s 0 0 (Af 0 g)) (F0 m 20 ls [])) (v1 : Int32) (v2 : Int32) (v3 : Int32) (M : Mem) (hw : b_X7_solve_51 Q k20 v1 v2 v3 M) {H : Heap} {locs : List Loc} {ls : Array Slot} (hl : lv_has ls 5 [(0, .ref (g.2.1 (17 + 0))), (1, .int v1), (2, .int v2), (3, .int v3)]) (hP : va_P g.1 clz (xw g M) H) (hS : va_S (Af 0 g) s.heap H locs) : W p l e ({ frames := 3, cells := 0, slots := 0, locals := 73 } : Room) s m args below meth c H locs 0 0 (MQ below (va_Qv Q (PB g (xw g)) (Af 0 g)) args s 0 0 (Af 0 g)) (F0 m 51 ls []) := by
  unfold b_X7_solve_51 at hw
  obtain ⟨x7, e7⟩ : ∃ y : Int32, y = (v3 + 1) := ⟨_, rfl⟩
  have hw := hw x7 e7
  refine lv_iinc (v := x7) (lv' := [(3, .int x7), (0, .ref (g.2.1 (17 + 0))), (1, .int v1), (2, .int v2)]) C.1 C.2.1 dX7_solve_51 hl (k := 3) rfl (by rw [e7]; rfl) (by decide) rfl (fun ls hl => ?_)
  refine lv_goto (tgt := 20) C.1 C.2.1 dX7_solve_54 (by decide) ?_
  exact hk20 v1 v2 x7  _ hw _ _ _ (lv_sub hl [1, 2, 3, 0] rfl) hP hS
def b_X7_solve_29 (Q : Mem → Prop) (k20 : Int32 → Int32 → Int32 → Mem → Prop) : Nat → Int32 → Int32 → Int32 → Int32 → Mem → Prop
  | 0, _, _, _, _, _ => False
  | n + 1, v1, v2, v3, v4, M => ((16 ≤ v4 → (b_X7_solve_51 Q k20 v1 v2 v3 M)) ∧ (¬ 16 ≤ v4 → (p_X7_tryPoint v2 v3 v4 v1 M (fun M8 => (∀ x9 : Int32, x9 = (v4 + 1) → (b_X7_solve_29 Q k20 n v1 v2 v3 x9 M8))))))
set_option maxRecDepth 100000 in
set_option maxHeartbeats 4000000 in
theorem k_X7_solve_29 {p : Program} {l : Launch} {e : Env} {s : State} {m : MethodId} {args : Array Value} {below : List Frame} {meth : Method} {c : Code} {g : Geo} (C : CX g p s m args meth c cX7_solve 5 none RX7) {Q : Mem → Prop} {k20 : Int32 → Int32 → Int32 → Mem → Prop} (hk20 : ∀ (v1 : Int32) (v2 : Int32) (v3 : Int32) (M : Mem), k20 v1 v2 v3 M → ∀ (H : Heap) (locs : List Loc) (ls : Array Slot), lv_has ls 5 [(0, .ref (g.2.1 (17 + 0))), (1, .int v1), (2, .int v2), (3, .int v3)] → va_P g.1 clz (xw g M) H → va_S (Af 0 g) s.heap H locs → W p l e ({ frames := 3, cells := 0, slots := 0, locals := 73 } : Room) s m args below meth c H locs 0 0 (MQ below (va_Qv Q (PB g (xw g)) (Af 0 g)) args s 0 0 (Af 0 g)) (F0 m 20 ls [])) : ∀ (n : Nat) (v1 : Int32) (v2 : Int32) (v3 : Int32) (v4 : Int32) (M : Mem) (hw : b_X7_solve_29 Q k20 n v1 v2 v3 v4 M) {H : Heap} {locs : List Loc} {ls : Array Slot} (hl : lv_has ls 5 [(0, .ref (g.2.1 (17 + 0))), (1, .int v1), (2, .int v2), (3, .int v3), (4, .int v4)]) (hP : va_P g.1 clz (xw g M) H) (hS : va_S (Af 0 g) s.heap H locs), W p l e ({ frames := 3, cells := 0, slots := 0, locals := 73 } : Room) s m args below meth c H locs 0 0 (MQ below (va_Qv Q (PB g (xw g)) (Af 0 g)) args s 0 0 (Af 0 g)) (F0 m 29 ls []) := by
  intro n
  induction n with
  | zero => intro v1 v2 v3 v4 M hw H locs ls hl hP hS; exact absurd hw (by rw [b_X7_solve_29]; exact fun h => h)
  | succ n ih =>
    intro v1 v2 v3 v4 M hw H locs ls hl hP hS
    rw [b_X7_solve_29] at hw
    refine lv_iload C.1 C.2.1 dX7_solve_29 (lv_at hl 4 rfl) ?_
    refine lv_bipush (v := 16) C.1 C.2.1 dX7_solve_31 (by decide) ?_
    refine lv_icmp_ge (tgt := 51) C.1 C.2.1 dX7_solve_33 (by decide) (fun h6 => ?_) (fun h6 => ?_)
    · have hw := hw.1 h6
      exact k_X7_solve_51 (Q := Q) C hk20 v1 v2 v3  _ hw (lv_sub hl [0, 1, 2, 3] rfl) hP hS
    · have hw := hw.2 h6
      refine lv_aload_n C.1 C.2.1 dX7_solve_36 rfl (lv_at hl 0 rfl) ?_
      refine lv_iload_n C.1 C.2.1 dX7_solve_37 rfl (lv_at hl 2 rfl) ?_
      refine lv_iload_n C.1 C.2.1 dX7_solve_38 rfl (lv_at hl 3 rfl) ?_
      refine lv_iload C.1 C.2.1 dX7_solve_39 (lv_at hl 4 rfl) ?_
      refine lv_iload_n C.1 C.2.1 dX7_solve_41 rfl (lv_at hl 1 rfl) ?_
      refine goV (wf := (xw g)) (runV (w := xw g M) (As := [.int v2, .int v3, .int v4, .int v1]) (rest := []) C lkX7_47 (c_X7_tryPoint l g C.2.2.2.2.2.2.2.2.2.2 v2 v3 v4 v1  M _ hw) hP hS rfl rfl ⟨Nat.le_of_ble_eq_true rfl, Nat.le_of_ble_eq_true rfl⟩ (xx_17 Nat.zero_lt_one) rfl rfl hl.1 rfl (Nat.le_of_ble_eq_true rfl) dX7_solve_42) hS (fun M8 hw H locs hP hS => ?_)
      obtain ⟨x9, e9⟩ : ∃ y : Int32, y = (v4 + 1) := ⟨_, rfl⟩
      have hw := hw x9 e9
      refine lv_iinc (v := x9) (lv' := [(4, .int x9), (0, .ref (g.2.1 (17 + 0))), (1, .int v1), (2, .int v2), (3, .int v3)]) C.1 C.2.1 dX7_solve_45 hl (k := 4) rfl (by rw [e9]; rfl) (by decide) rfl (fun ls hl => ?_)
      refine lv_goto (tgt := 29) C.1 C.2.1 dX7_solve_48 (by decide) ?_
      exact ih v1 v2 v3 x9  _ hw (lv_sub hl [1, 2, 3, 4, 0] rfl) hP hS
def b_X7_solve_20 (Q : Mem → Prop) (k12 : Int32 → Int32 → Mem → Prop) : Nat → Int32 → Int32 → Int32 → Mem → Prop
  | 0, _, _, _, _ => False
  | n + 1, v1, v2, v3, M => ((16 ≤ v3 → (b_X7_solve_57 Q k12 v1 v2 M)) ∧ (¬ 16 ≤ v3 → (∃ n29 : Nat, b_X7_solve_29 Q (fun v1 v2 v3 M => b_X7_solve_20 Q k12 n v1 v2 v3 M) n29 v1 v2 v3 0 M)))
set_option maxRecDepth 100000 in
set_option maxHeartbeats 4000000 in
theorem k_X7_solve_20 {p : Program} {l : Launch} {e : Env} {s : State} {m : MethodId} {args : Array Value} {below : List Frame} {meth : Method} {c : Code} {g : Geo} (C : CX g p s m args meth c cX7_solve 5 none RX7) {Q : Mem → Prop} {k12 : Int32 → Int32 → Mem → Prop} (hk12 : ∀ (v1 : Int32) (v2 : Int32) (M : Mem), k12 v1 v2 M → ∀ (H : Heap) (locs : List Loc) (ls : Array Slot), lv_has ls 5 [(0, .ref (g.2.1 (17 + 0))), (1, .int v1), (2, .int v2)] → va_P g.1 clz (xw g M) H → va_S (Af 0 g) s.heap H locs → W p l e ({ frames := 3, cells := 0, slots := 0, locals := 73 } : Room) s m args below meth c H locs 0 0 (MQ below (va_Qv Q (PB g (xw g)) (Af 0 g)) args s 0 0 (Af 0 g)) (F0 m 12 ls [])) : ∀ (n : Nat) (v1 : Int32) (v2 : Int32) (v3 : Int32) (M : Mem) (hw : b_X7_solve_20 Q k12 n v1 v2 v3 M) {H : Heap} {locs : List Loc} {ls : Array Slot} (hl : lv_has ls 5 [(0, .ref (g.2.1 (17 + 0))), (1, .int v1), (2, .int v2), (3, .int v3)]) (hP : va_P g.1 clz (xw g M) H) (hS : va_S (Af 0 g) s.heap H locs), W p l e ({ frames := 3, cells := 0, slots := 0, locals := 73 } : Room) s m args below meth c H locs 0 0 (MQ below (va_Qv Q (PB g (xw g)) (Af 0 g)) args s 0 0 (Af 0 g)) (F0 m 20 ls []) := by
  intro n
  induction n with
  | zero => intro v1 v2 v3 M hw H locs ls hl hP hS; exact absurd hw (by rw [b_X7_solve_20]; exact fun h => h)
  | succ n ih =>
    intro v1 v2 v3 M hw H locs ls hl hP hS
    rw [b_X7_solve_20] at hw
    refine lv_iload_n C.1 C.2.1 dX7_solve_20 rfl (lv_at hl 3 rfl) ?_
    refine lv_bipush (v := 16) C.1 C.2.1 dX7_solve_21 (by decide) ?_
    refine lv_icmp_ge (tgt := 57) C.1 C.2.1 dX7_solve_23 (by decide) (fun h4 => ?_) (fun h4 => ?_)
    · have hw := hw.1 h4
      exact k_X7_solve_57 (Q := Q) C hk12 v1 v2  _ hw (lv_sub hl [0, 1, 2] rfl) hP hS
    · have hw := hw.2 h4
      refine lv_iconst (v := 0) C.1 C.2.1 dX7_solve_26 (by decide) ?_
      refine lv_istore (lv' := [(4, .int 0), (0, .ref (g.2.1 (17 + 0))), (1, .int v1), (2, .int v2), (3, .int v3)]) C.1 C.2.1 dX7_solve_27 hl (by decide) rfl (fun ls hl => ?_)
      obtain ⟨n9, hw⟩ := hw
      exact k_X7_solve_29 (Q := Q) C (fun v1 v2 v3  M hw H locs ls hl hP hS => ih v1 v2 v3  M hw hl hP hS) n9 v1 v2 v3 0  _ hw (lv_sub hl [1, 2, 3, 4, 0] rfl) hP hS
def b_X7_solve_12 (Q : Mem → Prop) : Nat → Int32 → Int32 → Mem → Prop
  | 0, _, _, _ => False
  | n + 1, v1, v2, M => ((16 ≤ v2 → (Q M)) ∧ (¬ 16 ≤ v2 → (∃ n20 : Nat, b_X7_solve_20 Q (fun v1 v2 M => b_X7_solve_12 Q n v1 v2 M) n20 v1 v2 0 M)))
set_option maxRecDepth 100000 in
set_option maxHeartbeats 4000000 in
theorem k_X7_solve_12 {p : Program} {l : Launch} {e : Env} {s : State} {m : MethodId} {args : Array Value} {below : List Frame} {meth : Method} {c : Code} {g : Geo} (C : CX g p s m args meth c cX7_solve 5 none RX7) {Q : Mem → Prop} : ∀ (n : Nat) (v1 : Int32) (v2 : Int32) (M : Mem) (hw : b_X7_solve_12 Q n v1 v2 M) {H : Heap} {locs : List Loc} {ls : Array Slot} (hl : lv_has ls 5 [(0, .ref (g.2.1 (17 + 0))), (1, .int v1), (2, .int v2)]) (hP : va_P g.1 clz (xw g M) H) (hS : va_S (Af 0 g) s.heap H locs), W p l e ({ frames := 3, cells := 0, slots := 0, locals := 73 } : Room) s m args below meth c H locs 0 0 (MQ below (va_Qv Q (PB g (xw g)) (Af 0 g)) args s 0 0 (Af 0 g)) (F0 m 12 ls []) := by
  intro n
  induction n with
  | zero => intro v1 v2 M hw H locs ls hl hP hS; exact absurd hw (by rw [b_X7_solve_12]; exact fun h => h)
  | succ n ih =>
    intro v1 v2 M hw H locs ls hl hP hS
    rw [b_X7_solve_12] at hw
    refine lv_iload_n C.1 C.2.1 dX7_solve_12 rfl (lv_at hl 2 rfl) ?_
    refine lv_bipush (v := 16) C.1 C.2.1 dX7_solve_13 (by decide) ?_
    refine lv_icmp_ge (tgt := 63) C.1 C.2.1 dX7_solve_15 (by decide) (fun h3 => ?_) (fun h3 => ?_)
    · have hw := hw.1 h3
      exact retV (wf := (xw g)) C hP hS hw dX7_solve_63
    · have hw := hw.2 h3
      refine lv_iconst (v := 0) C.1 C.2.1 dX7_solve_18 (by decide) ?_
      refine lv_istore_n (lv' := [(3, .int 0), (0, .ref (g.2.1 (17 + 0))), (1, .int v1), (2, .int v2)]) C.1 C.2.1 dX7_solve_19 rfl hl (by decide) rfl (fun ls hl => ?_)
      obtain ⟨n9, hw⟩ := hw
      exact k_X7_solve_20 (Q := Q) C (fun v1 v2  M hw H locs ls hl hP hS => ih v1 v2  M hw hl hP hS) n9 v1 v2 0  _ hw (lv_sub hl [1, 2, 3, 0] rfl) hP hS
def p_X7_solve (a1 : Int32) (M : Mem) (Q : Mem → Prop) : Prop := (∀ M1 : Mem, M1 = sI M 17 0 1 (-1) → (∀ M2 : Mem, M2 = sI M1 17 0 2 0 → (∃ n12 : Nat, b_X7_solve_12 Q n12 a1 0 M2)))
set_option maxRecDepth 100000 in
set_option maxHeartbeats 4000000 in
theorem c_X7_solve (l : Launch) (g : Geo) (gi : GI g) (a1 : Int32) (M : Mem) (Q : Mem → Prop) (hw : p_X7_solve a1 M Q) : Met l yX7_solve (Cond.code yX7_solve cX7_solve 5 none :: bg) ({ frames := 3, cells := 0, slots := 0, locals := 73 } : Room) (va_Pc [.ref (g.2.1 (17 + 0)), .int a1] (PW g (xw g M))) (va_Qv Q (PB g (xw g)) (Af 0 g)) 0 0 (Af 0 g) := by
  refine Met.ofW (cc := cX7_solve) (maxL := 5) (ret := none) (by decide +kernel) rfl ?_
  intro p e s m args below meth c s₁ B hml hv
  obtain ⟨rfl, hv⟩ := hv
  have C := CX.start (own := RX7) B hml rfl gi hv
  have hP := hv.1
  have hS : va_S (Af 0 g) s.heap s.heap [] := va_S.rf
  have hl := lv_entry ([.ref (g.2.1 (17 + 0)), .int a1]) (n := 5) (Nat.le_of_ble_eq_true rfl)
  rw [lg_entry_eq]
  generalize (lg_sl ([.ref (g.2.1 (17 + 0)), .int a1]) ++ List.replicate (5 - (lg_sl ([.ref (g.2.1 (17 + 0)), .int a1])).length) Slot.unset).toArray = ls at hl ⊢
  have hl : lv_has ls 5 [(0, .ref (g.2.1 (17 + 0))), (1, .int a1)] := hl
  unfold p_X7_solve at hw
  refine lv_aload_n C.1 C.2.1 dX7_solve_0 rfl (lv_at hl 0 rfl) ?_
  refine lv_iconst (v := (-1)) C.1 C.2.1 dX7_solve_1 (by decide) ?_
  refine pX7_41 C hP hS Nat.zero_lt_one dX7_solve_2 (fun M1 e1 H locs hP hS => ?_)
  have hw := hw M1 e1
  refine lv_aload_n C.1 C.2.1 dX7_solve_5 rfl (lv_at hl 0 rfl) ?_
  refine lv_iconst (v := 0) C.1 C.2.1 dX7_solve_6 (by decide) ?_
  refine pX7_44 C hP hS Nat.zero_lt_one dX7_solve_7 (fun M2 e2 H locs hP hS => ?_)
  have hw := hw M2 e2
  refine lv_iconst (v := 0) C.1 C.2.1 dX7_solve_10 (by decide) ?_
  refine lv_istore_n (lv' := [(2, .int 0), (0, .ref (g.2.1 (17 + 0))), (1, .int a1)]) C.1 C.2.1 dX7_solve_11 rfl hl (by decide) rfl (fun ls hl => ?_)
  obtain ⟨n9, hw⟩ := hw
  exact k_X7_solve_12 (Q := Q) C n9 a1 0  _ hw (lv_sub hl [1, 2, 0] rfl) hP hS
