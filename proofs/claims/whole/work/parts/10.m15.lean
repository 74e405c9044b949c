def p_X11_fix (a1 : Int32) (M : Mem) (Q : Int32 → Mem → Prop) : Prop := (∀ M1 : Mem, M1 = sI M 40 0 2 0 → (p_X11_isIn a1 0 4 M1 (fun r2 M2 => ((¬ r2 = 0 → (p_X11_ranged  M2 (fun r4 M4 => ((4 ≤ r4 → (p_X11_layFix (-1) M4 (fun M6 => (vp_in a1 5 ∧ (Q (M6.1 58 0 (a1 : Int32).toNatClampNeg) M6))))) ∧ (¬ 4 ≤ r4 → (Q (-2) M4)))))) ∧ (r2 = 0 → (Q (-1) M2))))))
set_option maxRecDepth 100000 in
set_option maxHeartbeats 4000000 in
theorem c_X11_fix (l : Launch) (g : Geo) (gi : GI g) (a1 : Int32) (M : Mem) (Q : Int32 → Mem → Prop) (hw : p_X11_fix a1 M Q) : Met l yX11_fix (Cond.code yX11_fix cX11_fix 2 (some .int) :: bg) ({ frames := 5, cells := 0, slots := 0, locals := 119 } : Room) (va_Pc [.ref (g.2.1 (138 + 0)), .int a1] (PW g (yw g M))) (va_Qi Q (PB g (yw g)) (Af 1 g)) 0 0 (Af 1 g) := by
  refine Met.ofW (cc := cX11_fix) (maxL := 2) (ret := (some .int)) (by decide +kernel) rfl ?_
  intro p e s m args below meth c s₁ B hml hv
  obtain ⟨rfl, hv⟩ := hv
  have C := CX.start (own := RX11) B hml rfl gi hv
  have hP := hv.1
  have hS : va_S (Af 1 g) s.heap s.heap [] := va_S.rf
  have hl := lv_entry ([.ref (g.2.1 (138 + 0)), .int a1]) (n := 2) (Nat.le_of_ble_eq_true rfl)
  rw [lg_entry_eq]
  generalize (lg_sl ([.ref (g.2.1 (138 + 0)), .int a1]) ++ List.replicate (2 - (lg_sl ([.ref (g.2.1 (138 + 0)), .int a1])).length) Slot.unset).toArray = ls at hl ⊢
  have hl : lv_has ls 2 [(0, .ref (g.2.1 (138 + 0))), (1, .int a1)] := hl
  unfold p_X11_fix at hw
  refine lv_aload_n C.1 C.2.1 dX11_fix_0 rfl (lv_at hl 0 rfl) ?_
  refine lv_iconst (v := 0) C.1 C.2.1 dX11_fix_1 (by decide) ?_
  refine pX11_76 C hP hS Nat.zero_lt_one dX11_fix_2 (fun M1 e1 H locs hP hS => ?_)
  have hw := hw M1 e1
  refine lv_iload_n C.1 C.2.1 dX11_fix_5 rfl (lv_at hl 1 rfl) ?_
  refine lv_iconst (v := 0) C.1 C.2.1 dX11_fix_6 (by decide) ?_
  refine lv_iconst (v := 4) C.1 C.2.1 dX11_fix_7 (by decide) ?_
  refine goI (wf := (yw g)) (runS (w := yw g M1) (As := [.int a1, .int 0, .int 4]) (rest := []) C lkX11_166 (c_X11_isIn l g C.2.2.2.2.2.2.2.2.2.2 a1 0 4  M1 _ hw) hP hS rfl rfl ⟨Nat.le_of_ble_eq_true rfl, Nat.le_of_ble_eq_true rfl⟩ hl.1 rfl (Nat.le_of_ble_eq_true rfl) dX11_fix_8) hS (fun r2 M2 hw H locs hP hS => ?_)
  obtain ⟨hw, hz2⟩ := hw
  refine lv_if_ne (tgt := 16) C.1 C.2.1 dX11_fix_11 (by decide) (fun h3 => ?_) (fun h3 => ?_)
  · have hw := hw.1 h3
    refine lv_aload_n C.1 C.2.1 dX11_fix_16 rfl (lv_at hl 0 rfl) ?_
    refine goI (wf := (yw g)) (runV (w := yw g M2) (As := []) (rest := []) C lkX11_402 (c_X11_ranged l g C.2.2.2.2.2.2.2.2.2.2   M2 _ hw) hP hS rfl rfl ⟨Nat.le_of_ble_eq_true rfl, Nat.le_of_ble_eq_true rfl⟩ (xx_40 Nat.zero_lt_one) rfl rfl hl.1 rfl (Nat.le_of_ble_eq_true rfl) dX11_fix_17) hS (fun r4 M4 hw H locs hP hS => ?_)
    refine lv_iconst (v := 4) C.1 C.2.1 dX11_fix_20 (by decide) ?_
    refine lv_icmp_ge (tgt := 27) C.1 C.2.1 dX11_fix_21 (by decide) (fun h5 => ?_) (fun h5 => ?_)
    · have hw := hw.1 h5
      refine lv_aload_n C.1 C.2.1 dX11_fix_27 rfl (lv_at hl 0 rfl) ?_
      refine lv_iconst (v := (-1)) C.1 C.2.1 dX11_fix_28 (by decide) ?_
      refine goV (wf := (yw g)) (runV (w := yw g M4) (As := [.int (-1)]) (rest := []) C lkX11_406 (c_X11_layFix l g C.2.2.2.2.2.2.2.2.2.2 (-1)  M4 _ hw) hP hS rfl rfl ⟨Nat.le_of_ble_eq_true rfl, Nat.le_of_ble_eq_true rfl⟩ (xx_40 Nat.zero_lt_one) rfl rfl hl.1 rfl (Nat.le_of_ble_eq_true rfl) dX11_fix_29) hS (fun M6 hw H locs hP hS => ?_)
      refine lv_aload_n C.1 C.2.1 dX11_fix_32 rfl (lv_at hl 0 rfl) ?_
      refine gX11_67 C hP Nat.zero_lt_one dX11_fix_33 ?_
      refine lv_iload_n C.1 C.2.1 dX11_fix_36 rfl (lv_at hl 1 rfl) ?_
      obtain ⟨h7, hw⟩ := hw
      refine al_58 C hP Nat.zero_lt_one h7 dX11_fix_37 ?_
      exact retI (wf := (yw g)) C hP hS hw dX11_fix_38
    · have hw := hw.2 h5
      refine lv_bipush (v := (-2)) C.1 C.2.1 dX11_fix_24 (by decide) ?_
      exact retI (wf := (yw g)) C hP hS hw dX11_fix_26
  · have hw := hw.2 h3
    refine lv_iconst (v := (-1)) C.1 C.2.1 dX11_fix_14 (by decide) ?_
    exact retI (wf := (yw g)) C hP hS hw dX11_fix_15
def p_X11_fixWithout (a1 : Int32) (a2 : Int32) (M : Mem) (Q : Int32 → Mem → Prop) : Prop := (∀ M1 : Mem, M1 = sI M 40 0 2 0 → (p_X11_isBird a1 M1 (fun r2 M2 => ((r2 = 0 → (Q (-1) M2)) ∧ (¬ r2 = 0 → (p_X11_isIn a2 0 4 M2 (fun r4 M4 => ((¬ r4 = 0 → (p_X11_isRanged a1 M4 (fun r6 M6 => ((r6 = 0 → (Q (-2) M6)) ∧ (¬ r6 = 0 → (p_X11_ranged  M6 (fun r8 M8 => ((5 ≤ r8 → (p_X11_layFix a1 M8 (fun M10 => (vp_in a2 5 ∧ (Q (M10.1 58 0 (a2 : Int32).toNatClampNeg) M10))))) ∧ (¬ 5 ≤ r8 → (Q (-2) M8)))))))))) ∧ (r4 = 0 → (Q (-1) M4))))))))))
set_option maxRecDepth 100000 in
set_option maxHeartbeats 4000000 in
theorem c_X11_fixWithout (l : Launch) (g : Geo) (gi : GI g) (a1 : Int32) (a2 : Int32) (M : Mem) (Q : Int32 → Mem → Prop) (hw : p_X11_fixWithout a1 a2 M Q) : Met l yX11_fixWithout (Cond.code yX11_fixWithout cX11_fixWithout 3 (some .int) :: bg) ({ frames := 5, cells := 0, slots := 0, locals := 119 } : Room) (va_Pc [.ref (g.2.1 (138 + 0)), .int a1, .int a2] (PW g (yw g M))) (va_Qi Q (PB g (yw g)) (Af 1 g)) 0 0 (Af 1 g) := by
  refine Met.ofW (cc := cX11_fixWithout) (maxL := 3) (ret := (some .int)) (by decide +kernel) rfl ?_
  intro p e s m args below meth c s₁ B hml hv
  obtain ⟨rfl, hv⟩ := hv
  have C := CX.start (own := RX11) B hml rfl gi hv
  have hP := hv.1
  have hS : va_S (Af 1 g) s.heap s.heap [] := va_S.rf
  have hl := lv_entry ([.ref (g.2.1 (138 + 0)), .int a1, .int a2]) (n := 3) (Nat.le_of_ble_eq_true rfl)
  rw [lg_entry_eq]
  generalize (lg_sl ([.ref (g.2.1 (138 + 0)), .int a1, .int a2]) ++ List.replicate (3 - (lg_sl ([.ref (g.2.1 (138 + 0)), .int a1, .int a2])).length) Slot.unset).toArray = ls at hl ⊢
  have hl : lv_has ls 3 [(0, .ref (g.2.1 (138 + 0))), (1, .int a1), (2, .int a2)] := hl
  unfold p_X11_fixWithout at hw
  refine lv_aload_n C.1 C.2.1 dX11_fixWithout_0 rfl (lv_at hl 0 rfl) ?_
  refine lv_iconst (v := 0) C.1 C.2.1 dX11_fixWithout_1 (by decide) ?_
  refine pX11_76 C hP hS Nat.zero_lt_one dX11_fixWithout_2 (fun M1 e1 H locs hP hS => ?_)
  have hw := hw M1 e1
  refine lv_aload_n C.1 C.2.1 dX11_fixWithout_5 rfl (lv_at hl 0 rfl) ?_
  refine lv_iload_n C.1 C.2.1 dX11_fixWithout_6 rfl (lv_at hl 1 rfl) ?_
  refine goI (wf := (yw g)) (runV (w := yw g M1) (As := [.int a1]) (rest := []) C lkX11_216 (c_X11_isBird l g C.2.2.2.2.2.2.2.2.2.2 a1  M1 _ hw) hP hS rfl rfl ⟨Nat.le_of_ble_eq_true rfl, Nat.le_of_ble_eq_true rfl⟩ (xx_40 Nat.zero_lt_one) rfl rfl hl.1 rfl (Nat.le_of_ble_eq_true rfl) dX11_fixWithout_7) hS (fun r2 M2 hw H locs hP hS => ?_)
  obtain ⟨hw, hz2⟩ := hw
  refine lv_if_eq (tgt := 22) C.1 C.2.1 dX11_fixWithout_10 (by decide) (fun h3 => ?_) (fun h3 => ?_)
  · have hw := hw.1 h3
    refine lv_iconst (v := (-1)) C.1 C.2.1 dX11_fixWithout_22 (by decide) ?_
    exact retI (wf := (yw g)) C hP hS hw dX11_fixWithout_23
  · have hw := hw.2 h3
    refine lv_iload_n C.1 C.2.1 dX11_fixWithout_13 rfl (lv_at hl 2 rfl) ?_
    refine lv_iconst (v := 0) C.1 C.2.1 dX11_fixWithout_14 (by decide) ?_
    refine lv_iconst (v := 4) C.1 C.2.1 dX11_fixWithout_15 (by decide) ?_
    refine goI (wf := (yw g)) (runS (w := yw g M2) (As := [.int a2, .int 0, .int 4]) (rest := []) C lkX11_166 (c_X11_isIn l g C.2.2.2.2.2.2.2.2.2.2 a2 0 4  M2 _ hw) hP hS rfl rfl ⟨Nat.le_of_ble_eq_true rfl, Nat.le_of_ble_eq_true rfl⟩ hl.1 rfl (Nat.le_of_ble_eq_true rfl) dX11_fixWithout_16) hS (fun r4 M4 hw H locs hP hS => ?_)
    obtain ⟨hw, hz4⟩ := hw
    refine lv_if_ne (tgt := 24) C.1 C.2.1 dX11_fixWithout_19 (by decide) (fun h5 => ?_) (fun h5 => ?_)
    · have hw := hw.1 h5
      refine lv_aload_n C.1 C.2.1 dX11_fixWithout_24 rfl (lv_at hl 0 rfl) ?_
      refine lv_iload_n C.1 C.2.1 dX11_fixWithout_25 rfl (lv_at hl 1 rfl) ?_
      refine goI (wf := (yw g)) (runV (w := yw g M4) (As := [.int a1]) (rest := []) C lkX11_393 (c_X11_isRanged l g C.2.2.2.2.2.2.2.2.2.2 a1  M4 _ hw) hP hS rfl rfl ⟨Nat.le_of_ble_eq_true rfl, Nat.le_of_ble_eq_true rfl⟩ (xx_40 Nat.zero_lt_one) rfl rfl hl.1 rfl (Nat.le_of_ble_eq_true rfl) dX11_fixWithout_26) hS (fun r6 M6 hw H locs hP hS => ?_)
      obtain ⟨hw, hz6⟩ := hw
      refine lv_if_eq (tgt := 40) C.1 C.2.1 dX11_fixWithout_29 (by decide) (fun h7 => ?_) (fun h7 => ?_)
      · have hw := hw.1 h7
        refine lv_bipush (v := (-2)) C.1 C.2.1 dX11_fixWithout_40 (by decide) ?_
        exact retI (wf := (yw g)) C hP hS hw dX11_fixWithout_42
      · have hw := hw.2 h7
        refine lv_aload_n C.1 C.2.1 dX11_fixWithout_32 rfl (lv_at hl 0 rfl) ?_
        refine goI (wf := (yw g)) (runV (w := yw g M6) (As := []) (rest := []) C lkX11_402 (c_X11_ranged l g C.2.2.2.2.2.2.2.2.2.2   M6 _ hw) hP hS rfl rfl ⟨Nat.le_of_ble_eq_true rfl, Nat.le_of_ble_eq_true rfl⟩ (xx_40 Nat.zero_lt_one) rfl rfl hl.1 rfl (Nat.le_of_ble_eq_true rfl) dX11_fixWithout_33) hS (fun r8 M8 hw H locs hP hS => ?_)
        refine lv_iconst (v := 5) C.1 C.2.1 dX11_fixWithout_36 (by decide) ?_
        refine lv_icmp_ge (tgt := 43) C.1 C.2.1 dX11_fixWithout_37 (by decide) (fun h9 => ?_) (fun h9 => ?_)
        · have hw := hw.1 h9
          refine lv_aload_n C.1 C.2.1 dX11_fixWithout_43 rfl (lv_at hl 0 rfl) ?_
          refine lv_iload_n C.1 C.2.1 dX11_fixWithout_44 rfl (lv_at hl 1 rfl) ?_
          refine goV (wf := (yw g)) (runV (w := yw g M8) (As := [.int a1]) (rest := []) C lkX11_406 (c_X11_layFix l g C.2.2.2.2.2.2.2.2.2.2 a1  M8 _ hw) hP hS rfl rfl ⟨Nat.le_of_ble_eq_true rfl, Nat.le_of_ble_eq_true rfl⟩ (xx_40 Nat.zero_lt_one) rfl rfl hl.1 rfl (Nat.le_of_ble_eq_true rfl) dX11_fixWithout_45) hS (fun M10 hw H locs hP hS => ?_)
          refine lv_aload_n C.1 C.2.1 dX11_fixWithout_48 rfl (lv_at hl 0 rfl) ?_
          refine gX11_67 C hP Nat.zero_lt_one dX11_fixWithout_49 ?_
          refine lv_iload_n C.1 C.2.1 dX11_fixWithout_52 rfl (lv_at hl 2 rfl) ?_
          obtain ⟨h11, hw⟩ := hw
          refine al_58 C hP Nat.zero_lt_one h11 dX11_fixWithout_53 ?_
          exact retI (wf := (yw g)) C hP hS hw dX11_fixWithout_54
        · have hw := hw.2 h9
          refine lv_bipush (v := (-2)) C.1 C.2.1 dX11_fixWithout_40 (by decide) ?_
          exact retI (wf := (yw g)) C hP hS hw dX11_fixWithout_42
    · have hw := hw.2 h5
      refine lv_iconst (v := (-1)) C.1 C.2.1 dX11_fixWithout_22 (by decide) ?_
      exact retI (wf := (yw g)) C hP hS hw dX11_fixWithout_23
def b_X11_suspect_63 (Q : Int32 → Mem → Prop) (k72 : Int32 → Int32 → Int32 → Mem → Prop) (v3 : Int32) (M : Mem) : Prop := (vp_in 4 5 ∧ (∀ x10 : Int32, x10 = (M.1 58 0 (4 : Int32).toNatClampNeg) → (k72 v3 x10 v3 M)))
set_option maxRecDepth 100000 in
set_option maxHeartbeats 4000000 in
theorem k_X11_suspect_63 {p : Program} {l : Launch} {e : Env} {s : State} {m : MethodId} {args : Array Value} {below : List Frame} {meth : Method} {c : Code} {g : Geo} (C : CX g p s m args meth c cX11_suspect 4 (some .int) RX11) {Q : Int32 → Mem → Prop} {k72 : Int32 → Int32 → Int32 → Mem → Prop} (hk72 : ∀ (v1 : Int32) (v2 : Int32) (v3 : Int32) (M : Mem), k72 v1 v2 v3 M → ∀ (H : Heap) (locs : List Loc) (ls : Array Slot), lv_has ls 4 [(0, .ref (g.2.1 (138 + 0))), (1, .int v1), (2, .int v2), (3, .int v3)] → va_P g.1 clz (yw g M) H → va_S (Af 1 g) s.heap H locs → W p l e ({ frames := 5, cells := 0, slots := 0, locals := 119 } : Room) s m args below meth c H locs 0 0 (MQ below (va_Qi Q (PB g (yw g)) (Af 1 g)) args s 0 0 (Af 1 g)) (F0 m 72 ls [])) (v3 : Int32) (M : Mem) (hw : b_X11_suspect_63 Q k72 v3 M) {H : Heap} {locs : List Loc} {ls : Array Slot} (hl : lv_has ls 4 [(0, .ref (g.2.1 (138 + 0))), (3, .int v3)]) (hP : va_P g.1 clz (yw g M) H) (hS : va_S (Af 1 g) s.heap H locs) : W p l e ({ frames := 5, cells := 0, slots := 0, locals := 119 } : Room) s m args below meth c H locs 0 0 (MQ below (va_Qi Q (PB g (yw g)) (Af 1 g)) args s 0 0 (Af 1 g)) (F0 m 63 ls []) := by
  unfold b_X11_suspect_63 at hw
  refine lv_iload_n C.1 C.2.1 dX11_suspect_63 rfl (lv_at hl 1 rfl) ?_
  refine lv_istore_n (lv' := [(1, .int v3), (0, .ref (g.2.1 (138 + 0))), (3, .int v3)]) C.1 C.2.1 dX11_suspect_64 rfl hl (by decide) rfl (fun ls hl => ?_)
  refine lv_aload_n C.1 C.2.1 dX11_suspect_65 rfl (lv_at hl 1 rfl) ?_
  refine gX11_67 C hP Nat.zero_lt_one dX11_suspect_66 ?_
  refine lv_iconst (v := 4) C.1 C.2.1 dX11_suspect_69 (by decide) ?_
  obtain ⟨h9, hw⟩ := hw
  refine al_58 C hP Nat.zero_lt_one h9 dX11_suspect_70 ?_
  refine lv_topi (fun x10 e10 => ?_)
  have hw := hw x10 e10
  refine lv_istore_n (lv' := [(2, .int x10), (1, .int v3), (0, .ref (g.2.1 (138 + 0))), (3, .int v3)]) C.1 C.2.1 dX11_suspect_71 rfl hl (by decide) rfl (fun ls hl => ?_)
  exact hk72 v3 x10 v3  _ hw _ _ _ (lv_sub hl [2, 1, 0, 3] rfl) hP hS
def b_X11_suspect_72 (Q : Int32 → Mem → Prop) (k22 : Int32 → Int32 → Int32 → Mem → Prop) (v1 : Int32) (v2 : Int32) (v3 : Int32) (M : Mem) : Prop := (∀ x11 : Int32, x11 = (v3 + 1) → (k22 v1 v2 x11 M))
set_option maxRecDepth 100000 in
set_option maxHeartbeats 4000000 in
theorem k_X11_suspect_72 {p : Program} {l : Launch} {e : Env} {s : State} {m : MethodId} {args : Array Value} {below : List Frame} {meth : Method} {c : Code} {g : Geo} (C : CX g p s m args meth c cX11_suspect 4 (some .int) RX11) {Q : Int32 → Mem → Prop} {k22 : Int32 → Int32 → Int32 → Mem → Prop} (hk22 : ∀ (v1 : Int32) (v2 : Int32) (v3 : Int32) (M : Mem), k22 v1 v2 v3 M → ∀ (H : Heap) (locs : List Loc) (ls : Array Slot), lv_has ls 4 [(0, .ref (g.2.1 (138 + 0))), (1, .int v1), (2, .int v2), (3, .int v3)] → va_P g.1 clz (yw g M) H → va_S (Af 1 g) s.heap H locs → W p l e ({ frames := 5, cells := 0, slots := 0, locals := 119 } : Room) s m args below meth c H locs 0 0 (MQ below (va_Qi Q (PB g (yw g)) (Af 1 g)) args s 0 0 (Af 1 g)) (F0 m 22 ls [])) (v1 : Int32) (v2 : Int32) (v3 : Int32) (M : Mem) (hw : b_X11_suspect_72 Q k22 v1 v2 v3 M) {H : Heap} {locs : List Loc} {ls : Array Slot} (hl : lv_has ls 4 [(0, .ref (g.2.1 (138 + 0))), (1, .int v1), (2, .int v2), (3, .int v3)]) (hP : va_P g.1 clz (yw g M) H) (hS : va_S (Af 1 g) s.heap H locs) : W p l e ({ frames := 5, cells := 0, slots := 0, locals := 119 } : Room) s m args below meth c H locs 0 0 (MQ below (va_Qi Q (PB g (yw g)) (Af 1 g)) args s 0 0 (Af 1 g)) (F0 m 72 ls []) := by
  unfold b_X11_suspect_72 at hw
  obtain ⟨x11, e11⟩ : ∃ y : Int32, y = (v3 + 1) := ⟨_, rfl⟩
  have hw := hw x11 e11
  refine lv_iinc (v := x11) (lv' := [(3, .int x11), (0, .ref (g.2.1 (138 + 0))), (1, .int v1), (2, .int v2)]) C.1 C.2.1 dX11_suspect_72 hl (k := 3) rfl (by rw [e11]; rfl) (by decide) rfl (fun ls hl => ?_)
  refine lv_goto (tgt := 22) C.1 C.2.1 dX11_suspect_75 (by decide) ?_
  exact hk22 v1 v2 x11  _ hw _ _ _ (lv_sub hl [1, 2, 3, 0] rfl) hP hS
def b_X11_suspect_22 (Q : Int32 → Mem → Prop) : Nat → Int32 → Int32 → Int32 → Mem → Prop
  | 0, _, _, _, _ => False
  | n + 1, v1, v2, v3, M => (((M.1 40 0 11) ≤ v3 → (Q v1 M)) ∧ (¬ (M.1 40 0 11) ≤ v3 → (p_X11_isRanged v3 M (fun r5 M5 => ((¬ r5 = 0 → (p_X11_layFix v3 M5 (fun M7 => ((v1 < 0 → (b_X11_suspect_63 Q (fun v1 v2 v3 M => b_X11_suspect_72 Q (fun v1 v2 v3 M => b_X11_suspect_22 Q n v1 v2 v3 M) v1 v2 v3 M) v3 M7)) ∧ (¬ v1 < 0 → (vp_in 4 5 ∧ (((M7.1 58 0 (4 : Int32).toNatClampNeg) < v2 → (b_X11_suspect_63 Q (fun v1 v2 v3 M => b_X11_suspect_72 Q (fun v1 v2 v3 M => b_X11_suspect_22 Q n v1 v2 v3 M) v1 v2 v3 M) v3 M7)) ∧ (¬ (M7.1 58 0 (4 : Int32).toNatClampNeg) < v2 → (b_X11_suspect_72 Q (fun v1 v2 v3 M => b_X11_suspect_22 Q n v1 v2 v3 M) v1 v2 v3 M7))))))))) ∧ (r5 = 0 → (b_X11_suspect_72 Q (fun v1 v2 v3 M => b_X11_suspect_22 Q n v1 v2 v3 M) v1 v2 v3 M5)))))))
set_option maxRecDepth 100000 in
set_option maxHeartbeats 4000000 in
theorem k_X11_suspect_22 {p : Program} {l : Launch} {e : Env} {s : State} {m : MethodId} {args : Array Value} {below : List Frame} {meth : Method} {c : Code} {g : Geo} (C : CX g p s m args meth c cX11_suspect 4 (some .int) RX11) {Q : Int32 → Mem → Prop} : ∀ (n : Nat) (v1 : Int32) (v2 : Int32) (v3 : Int32) (M : Mem) (hw : b_X11_suspect_22 Q n v1 v2 v3 M) {H : Heap} {locs : List Loc} {ls : Array Slot} (hl : lv_has ls 4 [(0, .ref (g.2.1 (138 + 0))), (1, .int v1), (2, .int v2), (3, .int v3)]) (hP : va_P g.1 clz (yw g M) H) (hS : va_S (Af 1 g) s.heap H locs), W p l e ({ frames := 5, cells := 0, slots := 0, locals := 119 } : Room) s m args below meth c H locs 0 0 (MQ below (va_Qi Q (PB g (yw g)) (Af 1 g)) args s 0 0 (Af 1 g)) (F0 m 22 ls []) := by
  intro n
  induction n with
  | zero => intro v1 v2 v3 M hw H locs ls hl hP hS; exact absurd hw (by rw [b_X11_suspect_22]; exact fun h => h)
  | succ n ih =>
    intro v1 v2 v3 M hw H locs ls hl hP hS
    rw [b_X11_suspect_22] at hw
    refine lv_iload_n C.1 C.2.1 dX11_suspect_22 rfl (lv_at hl 3 rfl) ?_
    refine lv_aload_n C.1 C.2.1 dX11_suspect_23 rfl (lv_at hl 0 rfl) ?_
    refine gX11_121 C hP Nat.zero_lt_one dX11_suspect_24 ?_
    refine lv_icmp_ge (tgt := 78) C.1 C.2.1 dX11_suspect_27 (by decide) (fun h4 => ?_) (fun h4 => ?_)
    · have hw := hw.1 h4
      refine lv_iload_n C.1 C.2.1 dX11_suspect_78 rfl (lv_at hl 1 rfl) ?_
      exact retI (wf := (yw g)) C hP hS hw dX11_suspect_79
    · have hw := hw.2 h4
      refine lv_aload_n C.1 C.2.1 dX11_suspect_30 rfl (lv_at hl 0 rfl) ?_
      refine lv_iload_n C.1 C.2.1 dX11_suspect_31 rfl (lv_at hl 3 rfl) ?_
      refine goI (wf := (yw g)) (runV (w := yw g M) (As := [.int v3]) (rest := []) C lkX11_393 (c_X11_isRanged l g C.2.2.2.2.2.2.2.2.2.2 v3  M _ hw) hP hS rfl rfl ⟨Nat.le_of_ble_eq_true rfl, Nat.le_of_ble_eq_true rfl⟩ (xx_40 Nat.zero_lt_one) rfl rfl hl.1 rfl (Nat.le_of_ble_eq_true rfl) dX11_suspect_32) hS (fun r5 M5 hw H locs hP hS => ?_)
      obtain ⟨hw, hz5⟩ := hw
      refine lv_if_ne (tgt := 41) C.1 C.2.1 dX11_suspect_35 (by decide) (fun h6 => ?_) (fun h6 => ?_)
      · have hw := hw.1 h6
        refine lv_aload_n C.1 C.2.1 dX11_suspect_41 rfl (lv_at hl 0 rfl) ?_
        refine lv_iload_n C.1 C.2.1 dX11_suspect_42 rfl (lv_at hl 3 rfl) ?_
        refine goV (wf := (yw g)) (runV (w := yw g M5) (As := [.int v3]) (rest := []) C lkX11_406 (c_X11_layFix l g C.2.2.2.2.2.2.2.2.2.2 v3  M5 _ hw) hP hS rfl rfl ⟨Nat.le_of_ble_eq_true rfl, Nat.le_of_ble_eq_true rfl⟩ (xx_40 Nat.zero_lt_one) rfl rfl hl.1 rfl (Nat.le_of_ble_eq_true rfl) dX11_suspect_43) hS (fun M7 hw H locs hP hS => ?_)
        refine lv_iload_n C.1 C.2.1 dX11_suspect_46 rfl (lv_at hl 1 rfl) ?_
        refine lv_if_lt (tgt := 63) C.1 C.2.1 dX11_suspect_47 (by decide) (fun h8 => ?_) (fun h8 => ?_)
        · have hw := hw.1 h8
          exact k_X11_suspect_63 (Q := Q) C (fun v1 v2 v3  M hw H locs ls hl hP hS => k_X11_suspect_72 (Q := Q) C (fun v1 v2 v3  M hw H locs ls hl hP hS => ih v1 v2 v3  M hw hl hP hS) v1 v2 v3  M hw hl hP hS) v3  _ hw (lv_sub hl [0, 3] rfl) hP hS
        · have hw := hw.2 h8
          refine lv_aload_n C.1 C.2.1 dX11_suspect_50 rfl (lv_at hl 0 rfl) ?_
          refine gX11_67 C hP Nat.zero_lt_one dX11_suspect_51 ?_
          refine lv_iconst (v := 4) C.1 C.2.1 dX11_suspect_54 (by decide) ?_
          obtain ⟨h12, hw⟩ := hw
          refine al_58 C hP Nat.zero_lt_one h12 dX11_suspect_55 ?_
          refine lv_iload_n C.1 C.2.1 dX11_suspect_56 rfl (lv_at hl 2 rfl) ?_
          refine lv_icmp_lt (tgt := 63) C.1 C.2.1 dX11_suspect_57 (by decide) (fun h13 => ?_) (fun h13 => ?_)
          · have hw := hw.1 h13
            exact k_X11_suspect_63 (Q := Q) C (fun v1 v2 v3  M hw H locs ls hl hP hS => k_X11_suspect_72 (Q := Q) C (fun v1 v2 v3  M hw H locs ls hl hP hS => ih v1 v2 v3  M hw hl hP hS) v1 v2 v3  M hw hl hP hS) v3  _ hw (lv_sub hl [0, 3] rfl) hP hS
          · have hw := hw.2 h13
            refine lv_goto (tgt := 72) C.1 C.2.1 dX11_suspect_60 (by decide) ?_
            exact k_X11_suspect_72 (Q := Q) C (fun v1 v2 v3  M hw H locs ls hl hP hS => ih v1 v2 v3  M hw hl hP hS) v1 v2 v3  _ hw (lv_sub hl [0, 1, 2, 3] rfl) hP hS
      · have hw := hw.2 h6
        refine lv_goto (tgt := 72) C.1 C.2.1 dX11_suspect_38 (by decide) ?_
        exact k_X11_suspect_72 (Q := Q) C (fun v1 v2 v3  M hw H locs ls hl hP hS => ih v1 v2 v3  M hw hl hP hS) v1 v2 v3  _ hw (lv_sub hl [0, 1, 2, 3] rfl) hP hS
def p_X11_suspect (M : Mem) (Q : Int32 → Mem → Prop) : Prop := (∀ M1 : Mem, M1 = sI M 40 0 2 0 → (p_X11_ranged  M1 (fun r2 M2 => ((5 ≤ r2 → (∃ n22 : Nat, b_X11_suspect_22 Q n22 (-1) 0 0 M2)) ∧ (¬ 5 ≤ r2 → (Q (-2) M2))))))
set_option maxRecDepth 100000 in
set_option maxHeartbeats 4000000 in
theorem c_X11_suspect (l : Launch) (g : Geo) (gi : GI g) (M : Mem) (Q : Int32 → Mem → Prop) (hw : p_X11_suspect  M Q) : Met l yX11_suspect (Cond.code yX11_suspect cX11_suspect 4 (some .int) :: bg) ({ frames := 5, cells := 0, slots := 0, locals := 119 } : Room) (va_Pc [.ref (g.2.1 (138 + 0))] (PW g (yw g M))) (va_Qi Q (PB g (yw g)) (Af 1 g)) 0 0 (Af 1 g) := by
  refine Met.ofW (cc := cX11_suspect) (maxL := 4) (ret := (some .int)) (by decide +kernel) rfl ?_
  intro p e s m args below meth c s₁ B hml hv
  obtain ⟨rfl, hv⟩ := hv
  have C := CX.start (own := RX11) B hml rfl gi hv
  have hP := hv.1
  have hS : va_S (Af 1 g) s.heap s.heap [] := va_S.rf
  have hl := lv_entry ([.ref (g.2.1 (138 + 0))]) (n := 4) (Nat.le_of_ble_eq_true rfl)
  rw [lg_entry_eq]
  generalize (lg_sl ([.ref (g.2.1 (138 + 0))]) ++ List.replicate (4 - (lg_sl ([.ref (g.2.1 (138 + 0))])).length) Slot.unset).toArray = ls at hl ⊢
  have hl : lv_has ls 4 [(0, .ref (g.2.1 (138 + 0)))] := hl
  unfold p_X11_suspect at hw
  refine lv_aload_n C.1 C.2.1 dX11_suspect_0 rfl (lv_at hl 0 rfl) ?_
  refine lv_iconst (v := 0) C.1 C.2.1 dX11_suspect_1 (by decide) ?_
  refine pX11_76 C hP hS Nat.zero_lt_one dX11_suspect_2 (fun M1 e1 H locs hP hS => ?_)
  have hw := hw M1 e1
  refine lv_aload_n C.1 C.2.1 dX11_suspect_5 rfl (lv_at hl 0 rfl) ?_
  refine goI (wf := (yw g)) (runV (w := yw g M1) (As := []) (rest := []) C lkX11_402 (c_X11_ranged l g C.2.2.2.2.2.2.2.2.2.2   M1 _ hw) hP hS rfl rfl ⟨Nat.le_of_ble_eq_true rfl, Nat.le_of_ble_eq_true rfl⟩ (xx_40 Nat.zero_lt_one) rfl rfl hl.1 rfl (Nat.le_of_ble_eq_true rfl) dX11_suspect_6) hS (fun r2 M2 hw H locs hP hS => ?_)
  refine lv_iconst (v := 5) C.1 C.2.1 dX11_suspect_9 (by decide) ?_
  refine lv_icmp_ge (tgt := 16) C.1 C.2.1 dX11_suspect_10 (by decide) (fun h3 => ?_) (fun h3 => ?_)
  · have hw := hw.1 h3
    refine lv_iconst (v := (-1)) C.1 C.2.1 dX11_suspect_16 (by decide) ?_
    refine lv_istore_n (lv' := [(1, .int (-1)), (0, .ref (g.2.1 (138 + 0)))]) C.1 C.2.1 dX11_suspect_17 rfl hl (by decide) rfl (fun ls hl => ?_)
    refine lv_iconst (v := 0) C.1 C.2.1 dX11_suspect_18 (by decide) ?_
    refine lv_istore_n (lv' := [(2, .int 0), (1, .int (-1)), (0, .ref (g.2.1 (138 + 0)))]) C.1 C.2.1 dX11_suspect_19 rfl hl (by decide) rfl (fun ls hl => ?_)
    refine lv_iconst (v := 0) C.1 C.2.1 dX11_suspect_20 (by decide) ?_
    refine lv_istore_n (lv' := [(3, .int 0), (2, .int 0), (1, .int (-1)), (0, .ref (g.2.1 (138 + 0)))]) C.1 C.2.1 dX11_suspect_21 rfl hl (by decide) rfl (fun ls hl => ?_)
    obtain ⟨n9, hw⟩ := hw
    exact k_X11_suspect_22 (Q := Q) C n9 (-1) 0 0  _ hw (lv_sub hl [3, 2, 1, 0] rfl) hP hS
  · have hw := hw.2 h3
    refine lv_bipush (v := (-2)) C.1 C.2.1 dX11_suspect_13 (by decide) ?_
    exact retI (wf := (yw g)) C hP hS hw dX11_suspect_15
def b_X11_spread_71 (Q : Int32 → Mem → Prop) (k33 : Int32 → Int32 → Int32 → Mem → Prop) (v1 : Int32) (v3 : Int32) (s0 : Int32) (s1 : Int32) (M : Mem) : Prop := (∀ x9 : Int32, x9 = (s0 + s1) → (∀ x10 : Int32, x10 = (v3 + 1) → (k33 v1 x9 x10 M)))
set_option maxRecDepth 100000 in
set_option maxHeartbeats 4000000 in
theorem k_X11_spread_71 {p : Program} {l : Launch} {e : Env} {s : State} {m : MethodId} {args : Array Value} {below : List Frame} {meth : Method} {c : Code} {g : Geo} (C : CX g p s m args meth c cX11_spread 4 (some .int) RX11) {Q : Int32 → Mem → Prop} {k33 : Int32 → Int32 → Int32 → Mem → Prop} (hk33 : ∀ (v1 : Int32) (v2 : Int32) (v3 : Int32) (M : Mem), k33 v1 v2 v3 M → ∀ (H : Heap) (locs : List Loc) (ls : Array Slot), lv_has ls 4 [(0, .ref (g.2.1 (138 + 0))), (1, .int v1), (2, .int v2), (3, .int v3)] → va_P g.1 clz (yw g M) H → va_S (Af 1 g) s.heap H locs → W p l e ({ frames := 4, cells := 0, slots := 0, locals := 96 } : Room) s m args below meth c H locs 0 0 (MQ below (va_Qi Q (PB g (yw g)) (Af 1 g)) args s 0 0 (Af 1 g)) (F0 m 33 ls [])) (v1 : Int32) (v3 : Int32) (s0 : Int32) (s1 : Int32) (M : Mem) (hw : b_X11_spread_71 Q k33 v1 v3 s0 s1 M) {H : Heap} {locs : List Loc} {ls : Array Slot} (hl : lv_has ls 4 [(0, .ref (g.2.1 (138 + 0))), (1, .int v1), (3, .int v3)]) (hP : va_P g.1 clz (yw g M) H) (hS : va_S (Af 1 g) s.heap H locs) : W p l e ({ frames := 4, cells := 0, slots := 0, locals := 96 } : Room) s m args below meth c H locs 0 0 (MQ below (va_Qi Q (PB g (yw g)) (Af 1 g)) args s 0 0 (Af 1 g)) (F0 m 71 ls [.int s1, .int s0]) := by
  unfold b_X11_spread_71 at hw
  refine lv_iadd C.1 C.2.1 dX11_spread_71 ?_
  refine lv_topi (fun x9 e9 => ?_)
  have hw := hw x9 e9
  refine lv_istore_n (lv' := [(2, .int x9), (0, .ref (g.2.1 (138 + 0))), (1, .int v1), (3, .int v3)]) C.1 C.2.1 dX11_spread_72 rfl hl (by decide) rfl (fun ls hl => ?_)
  obtain ⟨x10, e10⟩ : ∃ y : Int32, y = (v3 + 1) := ⟨_, rfl⟩
  have hw := hw x10 e10
  refine lv_iinc (v := x10) (lv' := [(3, .int x10), (2, .int x9), (0, .ref (g.2.1 (138 + 0))), (1, .int v1)]) C.1 C.2.1 dX11_spread_73 hl (k := 3) rfl (by rw [e10]; rfl) (by decide) rfl (fun ls hl => ?_)
  refine lv_goto (tgt := 33) C.1 C.2.1 dX11_spread_76 (by decide) ?_
  exact hk33 v1 x9 x10  _ hw _ _ _ (lv_sub hl [2, 3, 1, 0] rfl) hP hS
def b_X11_spread_33 (Q : Int32 → Mem → Prop) : Nat → Int32 → Int32 → Int32 → Mem → Prop
  | 0, _, _, _, _ => False
  | n + 1, v1, v2, v3, M => ((4096 ≤ v3 → (Q v2 M)) ∧ (¬ 4096 ≤ v3 → (p_X11_restAt ((v3 / 256)) (((v3 / 16) - (v3 / 16) / 16 * 16)) ((v3 - v3 / 16 * 16)) (-1) M (fun r7 M7 => ((v1 < r7 → (b_X11_spread_71 Q (fun v1 v2 v3 M => b_X11_spread_33 Q n v1 v2 v3 M) v1 v3 v2 0 M7)) ∧ (¬ v1 < r7 → (b_X11_spread_71 Q (fun v1 v2 v3 M => b_X11_spread_33 Q n v1 v2 v3 M) v1 v3 v2 1 M7)))))))
set_option maxRecDepth 100000 in
set_option maxHeartbeats 4000000 in
theorem k_X11_spread_33 {p : Program} {l : Launch} {e : Env} {s : State} {m : MethodId} {args : Array Value} {below : List Frame} {meth : Method} {c : Code} {g : Geo} (C : CX g p s m args meth c cX11_spread 4 (some .int) RX11) {Q : Int32 → Mem → Prop} : ∀ (n : Nat) (v1 : Int32) (v2 : Int32) (v3 : Int32) (M : Mem) (hw : b_X11_spread_33 Q n v1 v2 v3 M) {H : Heap} {locs : List Loc} {ls : Array Slot} (hl : lv_has ls 4 [(0, .ref (g.2.1 (138 + 0))), (1, .int v1), (2, .int v2), (3, .int v3)]) (hP : va_P g.1 clz (yw g M) H) (hS : va_S (Af 1 g) s.heap H locs), W p l e ({ frames := 4, cells := 0, slots := 0, locals := 96 } : Room) s m args below meth c H locs 0 0 (MQ below (va_Qi Q (PB g (yw g)) (Af 1 g)) args s 0 0 (Af 1 g)) (F0 m 33 ls []) := by
  intro n
  induction n with
  | zero => intro v1 v2 v3 M hw H locs ls hl hP hS; exact absurd hw (by rw [b_X11_spread_33]; exact fun h => h)
  | succ n ih =>
    intro v1 v2 v3 M hw H locs ls hl hP hS
    rw [b_X11_spread_33] at hw
    refine lv_iload_n C.1 C.2.1 dX11_spread_33 rfl (lv_at hl 3 rfl) ?_
    refine lv_sipush (v := 4096) C.1 C.2.1 dX11_spread_34 (by decide) ?_
    refine lv_icmp_ge (tgt := 79) C.1 C.2.1 dX11_spread_37 (by decide) (fun h6 => ?_) (fun h6 => ?_)
    · have hw := hw.1 h6
      refine lv_iload_n C.1 C.2.1 dX11_spread_79 rfl (lv_at hl 2 rfl) ?_
      exact retI (wf := (yw g)) C hP hS hw dX11_spread_80
    · have hw := hw.2 h6
      refine lv_iload_n C.1 C.2.1 dX11_spread_40 rfl (lv_at hl 2 rfl) ?_
      refine lv_aload_n C.1 C.2.1 dX11_spread_41 rfl (lv_at hl 0 rfl) ?_
      refine lv_iload_n C.1 C.2.1 dX11_spread_42 rfl (lv_at hl 3 rfl) ?_
      refine lv_sipush (v := 256) C.1 C.2.1 dX11_spread_43 (by decide) ?_
      refine lv_idiv C.1 C.2.1 dX11_spread_46 (by decide) ?_
      refine lv_iload_n C.1 C.2.1 dX11_spread_47 rfl (lv_at hl 3 rfl) ?_
      refine lv_bipush (v := 16) C.1 C.2.1 dX11_spread_48 (by decide) ?_
      refine lv_idiv C.1 C.2.1 dX11_spread_50 (by decide) ?_
      refine lv_bipush (v := 16) C.1 C.2.1 dX11_spread_51 (by decide) ?_
      refine lv_irem C.1 C.2.1 dX11_spread_53 (by decide) ?_
      refine lv_iload_n C.1 C.2.1 dX11_spread_54 rfl (lv_at hl 3 rfl) ?_
      refine lv_bipush (v := 16) C.1 C.2.1 dX11_spread_55 (by decide) ?_
      refine lv_irem C.1 C.2.1 dX11_spread_57 (by decide) ?_
      refine lv_iconst (v := (-1)) C.1 C.2.1 dX11_spread_58 (by decide) ?_
      refine goI (wf := (yw g)) (runV (w := yw g M) (As := [.int (v3 / 256), .int ((v3 / 16) - (v3 / 16) / 16 * 16), .int (v3 - v3 / 16 * 16), .int (-1)]) (rest := [.int v2]) C lkX11_399 (c_X11_restAt l g C.2.2.2.2.2.2.2.2.2.2 ((v3 / 256)) (((v3 / 16) - (v3 / 16) / 16 * 16)) ((v3 - v3 / 16 * 16)) (-1)  M _ hw) hP hS rfl rfl ⟨Nat.le_of_ble_eq_true rfl, Nat.le_of_ble_eq_true rfl⟩ (xx_40 Nat.zero_lt_one) rfl rfl hl.1 rfl (Nat.le_of_ble_eq_true rfl) dX11_spread_59) hS (fun r7 M7 hw H locs hP hS => ?_)
      refine lv_iload_n C.1 C.2.1 dX11_spread_62 rfl (lv_at hl 1 rfl) ?_
      refine lv_icmp_gt (tgt := 70) C.1 C.2.1 dX11_spread_63 (by decide) (fun h8 => ?_) (fun h8 => ?_)
      · have hw := hw.1 h8
        refine lv_iconst (v := 0) C.1 C.2.1 dX11_spread_70 (by decide) ?_
        exact k_X11_spread_71 (Q := Q) C (fun v1 v2 v3  M hw H locs ls hl hP hS => ih v1 v2 v3  M hw hl hP hS) v1 v3 v2 0  _ hw (lv_sub hl [0, 1, 3] rfl) hP hS
      · have hw := hw.2 h8
        refine lv_iconst (v := 1) C.1 C.2.1 dX11_spread_66 (by decide) ?_
        refine lv_goto (tgt := 71) C.1 C.2.1 dX11_spread_67 (by decide) ?_
        exact k_X11_spread_71 (Q := Q) C (fun v1 v2 v3  M hw H locs ls hl hP hS => ih v1 v2 v3  M hw hl hP hS) v1 v3 v2 1  _ hw (lv_sub hl [0, 1, 3] rfl) hP hS
def p_X11_spread (a1 : Int32) (M : Mem) (Q : Int32 → Mem → Prop) : Prop := (∀ M1 : Mem, M1 = sI M 40 0 2 0 → (p_X11_isIn a1 0 9999 M1 (fun r2 M2 => ((¬ r2 = 0 → (p_X11_ranged  M2 (fun r4 M4 => ((4 ≤ r4 → (∃ n33 : Nat, b_X11_spread_33 Q n33 a1 0 0 M4)) ∧ (¬ 4 ≤ r4 → (Q (-2) M4)))))) ∧ (r2 = 0 → (Q (-1) M2))))))
set_option maxRecDepth 100000 in
set_option maxHeartbeats 4000000 in
theorem c_X11_spread (l : Launch) (g : Geo) (gi : GI g) (a1 : Int32) (M : Mem) (Q : Int32 → Mem → Prop) (hw : p_X11_spread a1 M Q) : Met l yX11_spread (Cond.code yX11_spread cX11_spread 4 (some .int) :: bg) ({ frames := 4, cells := 0, slots := 0, locals := 96 } : Room) (va_Pc [.ref (g.2.1 (138 + 0)), .int a1] (PW g (yw g M))) (va_Qi Q (PB g (yw g)) (Af 1 g)) 0 0 (Af 1 g) := by
  refine Met.ofW (cc := cX11_spread) (maxL := 4) (ret := (some .int)) (by decide +kernel) rfl ?_
  intro p e s m args below meth c s₁ B hml hv
  obtain ⟨rfl, hv⟩ := hv
  have C := CX.start (own := RX11) B hml rfl gi hv
  have hP := hv.1
  have hS : va_S (Af 1 g) s.heap s.heap [] := va_S.rf
  have hl := lv_entry ([.ref (g.2.1 (138 + 0)), .int a1]) (n := 4) (Nat.le_of_ble_eq_true rfl)
  rw [lg_entry_eq]
  generalize (lg_sl ([.ref (g.2.1 (138 + 0)), .int a1]) ++ List.replicate (4 - (lg_sl ([.ref (g.2.1 (138 + 0)), .int a1])).length) Slot.unset).toArray = ls at hl ⊢
  have hl : lv_has ls 4 [(0, .ref (g.2.1 (138 + 0))), (1, .int a1)] := hl
  unfold p_X11_spread at hw
  refine lv_aload_n C.1 C.2.1 dX11_spread_0 rfl (lv_at hl 0 rfl) ?_
  refine lv_iconst (v := 0) C.1 C.2.1 dX11_spread_1 (by decide) ?_
  refine pX11_76 C hP hS Nat.zero_lt_one dX11_spread_2 (fun M1 e1 H locs hP hS => ?_)
  have hw := hw M1 e1
  refine lv_iload_n C.1 C.2.1 dX11_spread_5 rfl (lv_at hl 1 rfl) ?_
  refine lv_iconst (v := 0) C.1 C.2.1 dX11_spread_6 (by decide) ?_
  refine lv_sipush (v := 9999) C.1 C.2.1 dX11_spread_7 (by decide) ?_
  refine goI (wf := (yw g)) (runS (w := yw g M1) (As := [.int a1, .int 0, .int 9999]) (rest := []) C lkX11_166 (c_X11_isIn l g C.2.2.2.2.2.2.2.2.2.2 a1 0 9999  M1 _ hw) hP hS rfl rfl ⟨Nat.le_of_ble_eq_true rfl, Nat.le_of_ble_eq_true rfl⟩ hl.1 rfl (Nat.le_of_ble_eq_true rfl) dX11_spread_10) hS (fun r2 M2 hw H locs hP hS => ?_)
  obtain ⟨hw, hz2⟩ := hw
  refine lv_if_ne (tgt := 18) C.1 C.2.1 dX11_spread_13 (by decide) (fun h3 => ?_) (fun h3 => ?_)
  · have hw := hw.1 h3
    refine lv_aload_n C.1 C.2.1 dX11_spread_18 rfl (lv_at hl 0 rfl) ?_
    refine goI (wf := (yw g)) (runV (w := yw g M2) (As := []) (rest := []) C lkX11_402 (c_X11_ranged l g C.2.2.2.2.2.2.2.2.2.2   M2 _ hw) hP hS rfl rfl ⟨Nat.le_of_ble_eq_true rfl, Nat.le_of_ble_eq_true rfl⟩ (xx_40 Nat.zero_lt_one) rfl rfl hl.1 rfl (Nat.le_of_ble_eq_true rfl) dX11_spread_19) hS (fun r4 M4 hw H locs hP hS => ?_)
    refine lv_iconst (v := 4) C.1 C.2.1 dX11_spread_22 (by decide) ?_
    refine lv_icmp_ge (tgt := 29) C.1 C.2.1 dX11_spread_23 (by decide) (fun h5 => ?_) (fun h5 => ?_)
    · have hw := hw.1 h5
      refine lv_iconst (v := 0) C.1 C.2.1 dX11_spread_29 (by decide) ?_
      refine lv_istore_n (lv' := [(2, .int 0), (0, .ref (g.2.1 (138 + 0))), (1, .int a1)]) C.1 C.2.1 dX11_spread_30 rfl hl (by decide) rfl (fun ls hl => ?_)
      refine lv_iconst (v := 0) C.1 C.2.1 dX11_spread_31 (by decide) ?_
      refine lv_istore_n (lv' := [(3, .int 0), (2, .int 0), (0, .ref (g.2.1 (138 + 0))), (1, .int a1)]) C.1 C.2.1 dX11_spread_32 rfl hl (by decide) rfl (fun ls hl => ?_)
      obtain ⟨n9, hw⟩ := hw
      exact k_X11_spread_33 (Q := Q) C n9 a1 0 0  _ hw (lv_sub hl [2, 3, 1, 0] rfl) hP hS
    · have hw := hw.2 h5
      refine lv_bipush (v := (-2)) C.1 C.2.1 dX11_spread_26 (by decide) ?_
      exact retI (wf := (yw g)) C hP hS hw dX11_spread_28
  · have hw := hw.2 h3
    refine lv_iconst (v := (-1)) C.1 C.2.1 dX11_spread_16 (by decide) ?_
    exact retI (wf := (yw g)) C hP hS hw dX11_spread_17
def p_X11_distance (a1 : Int32) (a2 : Int32) (M : Mem) (Q : Int32 → Mem → Prop) : Prop := (∀ M1 : Mem, M1 = sI M 40 0 2 0 → (p_X11_isBird a1 M1 (fun r2 M2 => ((r2 = 0 → (Q (-1) M2)) ∧ (¬ r2 = 0 → (p_X11_isBird a2 M2 (fun r4 M4 => ((¬ r4 = 0 → (p_X11_birdOf a1 10 M4 (fun r6 M6 => ((r6 = 0 → (Q (-2) M6)) ∧ (¬ r6 = 0 → (p_X11_birdOf a2 10 M6 (fun r8 M8 => ((¬ r8 = 0 → (p_X11_birdOf a2 11 M8 (fun r10 M10 => (p_X11_birdOf a2 12 M10 (fun r11 M11 => (p_X11_birdOf a2 13 M11 (fun r12 M12 => (p_X11_farFrom a1 r10 r11 r12 M12 (fun r13 M13 => (Q r13 M13)))))))))) ∧ (r8 = 0 → (Q (-2) M8)))))))))) ∧ (r4 = 0 → (Q (-1) M4))))))))))
set_option maxRecDepth 100000 in
set_option maxHeartbeats 4000000 in
theorem c_X11_distance (l : Launch) (g : Geo) (gi : GI g) (a1 : Int32) (a2 : Int32) (M : Mem) (Q : Int32 → Mem → Prop) (hw : p_X11_distance a1 a2 M Q) : Met l yX11_distance (Cond.code yX11_distance cX11_distance 3 (some .int) :: bg) ({ frames := 3, cells := 0, slots := 0, locals := 67 } : Room) (va_Pc [.ref (g.2.1 (138 + 0)), .int a1, .int a2] (PW g (yw g M))) (va_Qi Q (PB g (yw g)) (Af 1 g)) 0 0 (Af 1 g) := by
  refine Met.ofW (cc := cX11_distance) (maxL := 3) (ret := (some .int)) (by decide +kernel) rfl ?_
  intro p e s m args below meth c s₁ B hml hv
  obtain ⟨rfl, hv⟩ := hv
  have C := CX.start (own := RX11) B hml rfl gi hv
  have hP := hv.1
  have hS : va_S (Af 1 g) s.heap s.heap [] := va_S.rf
  have hl := lv_entry ([.ref (g.2.1 (138 + 0)), .int a1, .int a2]) (n := 3) (Nat.le_of_ble_eq_true rfl)
  rw [lg_entry_eq]
  generalize (lg_sl ([.ref (g.2.1 (138 + 0)), .int a1, .int a2]) ++ List.replicate (3 - (lg_sl ([.ref (g.2.1 (138 + 0)), .int a1, .int a2])).length) Slot.unset).toArray = ls at hl ⊢
  have hl : lv_has ls 3 [(0, .ref (g.2.1 (138 + 0))), (1, .int a1), (2, .int a2)] := hl
  unfold p_X11_distance at hw
  refine lv_aload_n C.1 C.2.1 dX11_distance_0 rfl (lv_at hl 0 rfl) ?_
  refine lv_iconst (v := 0) C.1 C.2.1 dX11_distance_1 (by decide) ?_
  refine pX11_76 C hP hS Nat.zero_lt_one dX11_distance_2 (fun M1 e1 H locs hP hS => ?_)
  have hw := hw M1 e1
  refine lv_aload_n C.1 C.2.1 dX11_distance_5 rfl (lv_at hl 0 rfl) ?_
  refine lv_iload_n C.1 C.2.1 dX11_distance_6 rfl (lv_at hl 1 rfl) ?_
  refine goI (wf := (yw g)) (runV (w := yw g M1) (As := [.int a1]) (rest := []) C lkX11_216 (c_X11_isBird l g C.2.2.2.2.2.2.2.2.2.2 a1  M1 _ hw) hP hS rfl rfl ⟨Nat.le_of_ble_eq_true rfl, Nat.le_of_ble_eq_true rfl⟩ (xx_40 Nat.zero_lt_one) rfl rfl hl.1 rfl (Nat.le_of_ble_eq_true rfl) dX11_distance_7) hS (fun r2 M2 hw H locs hP hS => ?_)
  obtain ⟨hw, hz2⟩ := hw
  refine lv_if_eq (tgt := 21) C.1 C.2.1 dX11_distance_10 (by decide) (fun h3 => ?_) (fun h3 => ?_)
  · have hw := hw.1 h3
    refine lv_iconst (v := (-1)) C.1 C.2.1 dX11_distance_21 (by decide) ?_
    exact retI (wf := (yw g)) C hP hS hw dX11_distance_22
  · have hw := hw.2 h3
    refine lv_aload_n C.1 C.2.1 dX11_distance_13 rfl (lv_at hl 0 rfl) ?_
    refine lv_iload_n C.1 C.2.1 dX11_distance_14 rfl (lv_at hl 2 rfl) ?_
    refine goI (wf := (yw g)) (runV (w := yw g M2) (As := [.int a2]) (rest := []) C lkX11_216 (c_X11_isBird l g C.2.2.2.2.2.2.2.2.2.2 a2  M2 _ hw) hP hS rfl rfl ⟨Nat.le_of_ble_eq_true rfl, Nat.le_of_ble_eq_true rfl⟩ (xx_40 Nat.zero_lt_one) rfl rfl hl.1 rfl (Nat.le_of_ble_eq_true rfl) dX11_distance_15) hS (fun r4 M4 hw H locs hP hS => ?_)
    obtain ⟨hw, hz4⟩ := hw
    refine lv_if_ne (tgt := 23) C.1 C.2.1 dX11_distance_18 (by decide) (fun h5 => ?_) (fun h5 => ?_)
    · have hw := hw.1 h5
      refine lv_aload_n C.1 C.2.1 dX11_distance_23 rfl (lv_at hl 0 rfl) ?_
      refine lv_iload_n C.1 C.2.1 dX11_distance_24 rfl (lv_at hl 1 rfl) ?_
      refine lv_bipush (v := 10) C.1 C.2.1 dX11_distance_25 (by decide) ?_
      refine goI (wf := (yw g)) (runV (w := yw g M4) (As := [.int a1, .int 10]) (rest := []) C lkX11_160 (c_X11_birdOf l g C.2.2.2.2.2.2.2.2.2.2 a1 10  M4 _ hw) hP hS rfl rfl ⟨Nat.le_of_ble_eq_true rfl, Nat.le_of_ble_eq_true rfl⟩ (xx_40 Nat.zero_lt_one) rfl rfl hl.1 rfl (Nat.le_of_ble_eq_true rfl) dX11_distance_27) hS (fun r6 M6 hw H locs hP hS => ?_)
      refine lv_if_eq (tgt := 43) C.1 C.2.1 dX11_distance_30 (by decide) (fun h7 => ?_) (fun h7 => ?_)
      · have hw := hw.1 h7
        refine lv_bipush (v := (-2)) C.1 C.2.1 dX11_distance_43 (by decide) ?_
        exact retI (wf := (yw g)) C hP hS hw dX11_distance_45
      · have hw := hw.2 h7
        refine lv_aload_n C.1 C.2.1 dX11_distance_33 rfl (lv_at hl 0 rfl) ?_
        refine lv_iload_n C.1 C.2.1 dX11_distance_34 rfl (lv_at hl 2 rfl) ?_
        refine lv_bipush (v := 10) C.1 C.2.1 dX11_distance_35 (by decide) ?_
        refine goI (wf := (yw g)) (runV (w := yw g M6) (As := [.int a2, .int 10]) (rest := []) C lkX11_160 (c_X11_birdOf l g C.2.2.2.2.2.2.2.2.2.2 a2 10  M6 _ hw) hP hS rfl rfl ⟨Nat.le_of_ble_eq_true rfl, Nat.le_of_ble_eq_true rfl⟩ (xx_40 Nat.zero_lt_one) rfl rfl hl.1 rfl (Nat.le_of_ble_eq_true rfl) dX11_distance_37) hS (fun r8 M8 hw H locs hP hS => ?_)
        refine lv_if_ne (tgt := 46) C.1 C.2.1 dX11_distance_40 (by decide) (fun h9 => ?_) (fun h9 => ?_)
        · have hw := hw.1 h9
          refine lv_aload_n C.1 C.2.1 dX11_distance_46 rfl (lv_at hl 0 rfl) ?_
          refine lv_iload_n C.1 C.2.1 dX11_distance_47 rfl (lv_at hl 1 rfl) ?_
          refine lv_aload_n C.1 C.2.1 dX11_distance_48 rfl (lv_at hl 0 rfl) ?_
          refine lv_iload_n C.1 C.2.1 dX11_distance_49 rfl (lv_at hl 2 rfl) ?_
          refine lv_bipush (v := 11) C.1 C.2.1 dX11_distance_50 (by decide) ?_
          refine goI (wf := (yw g)) (runV (w := yw g M8) (As := [.int a2, .int 11]) (rest := [.int a1, .ref (g.2.1 (138 + 0))]) C lkX11_160 (c_X11_birdOf l g C.2.2.2.2.2.2.2.2.2.2 a2 11  M8 _ hw) hP hS rfl rfl ⟨Nat.le_of_ble_eq_true rfl, Nat.le_of_ble_eq_true rfl⟩ (xx_40 Nat.zero_lt_one) rfl rfl hl.1 rfl (Nat.le_of_ble_eq_true rfl) dX11_distance_52) hS (fun r10 M10 hw H locs hP hS => ?_)
          refine lv_aload_n C.1 C.2.1 dX11_distance_55 rfl (lv_at hl 0 rfl) ?_
          refine lv_iload_n C.1 C.2.1 dX11_distance_56 rfl (lv_at hl 2 rfl) ?_
          refine lv_bipush (v := 12) C.1 C.2.1 dX11_distance_57 (by decide) ?_
          refine goI (wf := (yw g)) (runV (w := yw g M10) (As := [.int a2, .int 12]) (rest := [.int r10, .int a1, .ref (g.2.1 (138 + 0))]) C lkX11_160 (c_X11_birdOf l g C.2.2.2.2.2.2.2.2.2.2 a2 12  M10 _ hw) hP hS rfl rfl ⟨Nat.le_of_ble_eq_true rfl, Nat.le_of_ble_eq_true rfl⟩ (xx_40 Nat.zero_lt_one) rfl rfl hl.1 rfl (Nat.le_of_ble_eq_true rfl) dX11_distance_59) hS (fun r11 M11 hw H locs hP hS => ?_)
          refine lv_aload_n C.1 C.2.1 dX11_distance_62 rfl (lv_at hl 0 rfl) ?_
          refine lv_iload_n C.1 C.2.1 dX11_distance_63 rfl (lv_at hl 2 rfl) ?_
          refine lv_bipush (v := 13) C.1 C.2.1 dX11_distance_64 (by decide) ?_
          refine goI (wf := (yw g)) (runV (w := yw g M11) (As := [.int a2, .int 13]) (rest := [.int r11, .int r10, .int a1, .ref (g.2.1 (138 + 0))]) C lkX11_160 (c_X11_birdOf l g C.2.2.2.2.2.2.2.2.2.2 a2 13  M11 _ hw) hP hS rfl rfl ⟨Nat.le_of_ble_eq_true rfl, Nat.le_of_ble_eq_true rfl⟩ (xx_40 Nat.zero_lt_one) rfl rfl hl.1 rfl (Nat.le_of_ble_eq_true rfl) dX11_distance_66) hS (fun r12 M12 hw H locs hP hS => ?_)
          refine goI (wf := (yw g)) (runV (w := yw g M12) (As := [.int a1, .int r10, .int r11, .int r12]) (rest := []) C lkX11_387 (c_X11_farFrom l g C.2.2.2.2.2.2.2.2.2.2 a1 r10 r11 r12  M12 _ hw) hP hS rfl rfl ⟨Nat.le_of_ble_eq_true rfl, Nat.le_of_ble_eq_true rfl⟩ (xx_40 Nat.zero_lt_one) rfl rfl hl.1 rfl (Nat.le_of_ble_eq_true rfl) dX11_distance_69) hS (fun r13 M13 hw H locs hP hS => ?_)
          exact retI (wf := (yw g)) C hP hS hw dX11_distance_72
        · have hw := hw.2 h9
          refine lv_bipush (v := (-2)) C.1 C.2.1 dX11_distance_43 (by decide) ?_
          exact retI (wf := (yw g)) C hP hS hw dX11_distance_45
    · have hw := hw.2 h5
      refine lv_iconst (v := (-1)) C.1 C.2.1 dX11_distance_21 (by decide) ?_
      exact retI (wf := (yw g)) C hP hS hw dX11_distance_22
def b_X11_lostMany_31 (Q : Int32 → Mem → Prop) (k4 : Int32 → Int32 → Mem → Prop) (v2 : Int32) (s0 : Int32) (s1 : Int32) (M : Mem) : Prop := (∀ x5 : Int32, x5 = (s0 + s1) → (∀ x6 : Int32, x6 = (v2 + 1) → (k4 x5 x6 M)))
set_option maxRecDepth 100000 in
set_option maxHeartbeats 4000000 in
theorem k_X11_lostMany_31 {p : Program} {l : Launch} {e : Env} {s : State} {m : MethodId} {args : Array Value} {below : List Frame} {meth : Method} {c : Code} {g : Geo} (C : CX g p s m args meth c cX11_lostMany 3 (some .int) RX11) {Q : Int32 → Mem → Prop} {k4 : Int32 → Int32 → Mem → Prop} (hk4 : ∀ (v1 : Int32) (v2 : Int32) (M : Mem), k4 v1 v2 M → ∀ (H : Heap) (locs : List Loc) (ls : Array Slot), lv_has ls 3 [(0, .ref (g.2.1 (138 + 0))), (1, .int v1), (2, .int v2)] → va_P g.1 clz (yw g M) H → va_S (Af 1 g) s.heap H locs → W p l e ({ frames := 2, cells := 0, slots := 0, locals := 43 } : Room) s m args below meth c H locs 0 0 (MQ below (va_Qi Q (PB g (yw g)) (Af 1 g)) args s 0 0 (Af 1 g)) (F0 m 4 ls [])) (v2 : Int32) (s0 : Int32) (s1 : Int32) (M : Mem) (hw : b_X11_lostMany_31 Q k4 v2 s0 s1 M) {H : Heap} {locs : List Loc} {ls : Array Slot} (hl : lv_has ls 3 [(0, .ref (g.2.1 (138 + 0))), (2, .int v2)]) (hP : va_P g.1 clz (yw g M) H) (hS : va_S (Af 1 g) s.heap H locs) : W p l e ({ frames := 2, cells := 0, slots := 0, locals := 43 } : Room) s m args below meth c H locs 0 0 (MQ below (va_Qi Q (PB g (yw g)) (Af 1 g)) args s 0 0 (Af 1 g)) (F0 m 31 ls [.int s1, .int s0]) := by
  unfold b_X11_lostMany_31 at hw
  refine lv_iadd C.1 C.2.1 dX11_lostMany_31 ?_
  refine lv_topi (fun x5 e5 => ?_)
  have hw := hw x5 e5
  refine lv_istore_n (lv' := [(1, .int x5), (0, .ref (g.2.1 (138 + 0))), (2, .int v2)]) C.1 C.2.1 dX11_lostMany_32 rfl hl (by decide) rfl (fun ls hl => ?_)
  obtain ⟨x6, e6⟩ : ∃ y : Int32, y = (v2 + 1) := ⟨_, rfl⟩
  have hw := hw x6 e6
  refine lv_iinc (v := x6) (lv' := [(2, .int x6), (1, .int x5), (0, .ref (g.2.1 (138 + 0)))]) C.1 C.2.1 dX11_lostMany_33 hl (k := 2) rfl (by rw [e6]; rfl) (by decide) rfl (fun ls hl => ?_)
  refine lv_goto (tgt := 4) C.1 C.2.1 dX11_lostMany_36 (by decide) ?_
  exact hk4 x5 x6  _ hw _ _ _ (lv_sub hl [2, 1, 0] rfl) hP hS
def b_X11_lostMany_4 (Q : Int32 → Mem → Prop) : Nat → Int32 → Int32 → Mem → Prop
  | 0, _, _, _ => False
  | n + 1, v1, v2, M => (p_X11_of 292 M (fun r1 M1 => ((r1 ≤ v2 → (Q v1 M1)) ∧ (¬ r1 ≤ v2 → (p_X11_at v2 7 M1 (fun r3 M3 => ((r3 ≤ 0 → (b_X11_lostMany_31 Q (fun v1 v2 M => b_X11_lostMany_4 Q n v1 v2 M) v2 v1 0 M3)) ∧ (¬ r3 ≤ 0 → (b_X11_lostMany_31 Q (fun v1 v2 M => b_X11_lostMany_4 Q n v1 v2 M) v2 v1 1 M3)))))))))
set_option maxRecDepth 100000 in
set_option maxHeartbeats 4000000 in
theorem k_X11_lostMany_4 {p : Program} {l : Launch} {e : Env} {s : State} {m : MethodId} {args : Array Value} {below : List Frame} {meth : Method} {c : Code} {g : Geo} (C : CX g p s m args meth c cX11_lostMany 3 (some .int) RX11) {Q : Int32 → Mem → Prop} : ∀ (n : Nat) (v1 : Int32) (v2 : Int32) (M : Mem) (hw : b_X11_lostMany_4 Q n v1 v2 M) {H : Heap} {locs : List Loc} {ls : Array Slot} (hl : lv_has ls 3 [(0, .ref (g.2.1 (138 + 0))), (1, .int v1), (2, .int v2)]) (hP : va_P g.1 clz (yw g M) H) (hS : va_S (Af 1 g) s.heap H locs), W p l e ({ frames := 2, cells := 0, slots := 0, locals := 43 } : Room) s m args below meth c H locs 0 0 (MQ below (va_Qi Q (PB g (yw g)) (Af 1 g)) args s 0 0 (Af 1 g)) (F0 m 4 ls []) := by
  intro n
  induction n with
  | zero => intro v1 v2 M hw H locs ls hl hP hS; exact absurd hw (by rw [b_X11_lostMany_4]; exact fun h => h)
  | succ n ih =>
    intro v1 v2 M hw H locs ls hl hP hS
    rw [b_X11_lostMany_4] at hw
    refine lv_iload_n C.1 C.2.1 dX11_lostMany_4 rfl (lv_at hl 2 rfl) ?_
    refine lv_aload_n C.1 C.2.1 dX11_lostMany_5 rfl (lv_at hl 0 rfl) ?_
    refine lv_sipush (v := 292) C.1 C.2.1 dX11_lostMany_6 (by decide) ?_
    refine goI (wf := (yw g)) (runV (w := yw g M) (As := [.int 292]) (rest := [.int v2]) C lkX11_340 (c_X11_of l g C.2.2.2.2.2.2.2.2.2.2 292  M _ hw) hP hS rfl rfl ⟨Nat.le_of_ble_eq_true rfl, Nat.le_of_ble_eq_true rfl⟩ (xx_40 Nat.zero_lt_one) rfl rfl hl.1 rfl (Nat.le_of_ble_eq_true rfl) dX11_lostMany_9) hS (fun r1 M1 hw H locs hP hS => ?_)
    refine lv_icmp_ge (tgt := 39) C.1 C.2.1 dX11_lostMany_12 (by decide) (fun h2 => ?_) (fun h2 => ?_)
    · have hw := hw.1 h2
      refine lv_iload_n C.1 C.2.1 dX11_lostMany_39 rfl (lv_at hl 1 rfl) ?_
      exact retI (wf := (yw g)) C hP hS hw dX11_lostMany_40
    · have hw := hw.2 h2
      refine lv_iload_n C.1 C.2.1 dX11_lostMany_15 rfl (lv_at hl 1 rfl) ?_
      refine lv_aload_n C.1 C.2.1 dX11_lostMany_16 rfl (lv_at hl 0 rfl) ?_
      refine lv_iload_n C.1 C.2.1 dX11_lostMany_17 rfl (lv_at hl 2 rfl) ?_
      refine lv_bipush (v := 7) C.1 C.2.1 dX11_lostMany_18 (by decide) ?_
      refine goI (wf := (yw g)) (runV (w := yw g M1) (As := [.int v2, .int 7]) (rest := [.int v1]) C lkX11_352 (c_X11_at l g C.2.2.2.2.2.2.2.2.2.2 v2 7  M1 _ hw) hP hS rfl rfl ⟨Nat.le_of_ble_eq_true rfl, Nat.le_of_ble_eq_true rfl⟩ (xx_40 Nat.zero_lt_one) rfl rfl hl.1 rfl (Nat.le_of_ble_eq_true rfl) dX11_lostMany_20) hS (fun r3 M3 hw H locs hP hS => ?_)
      refine lv_if_le (tgt := 30) C.1 C.2.1 dX11_lostMany_23 (by decide) (fun h4 => ?_) (fun h4 => ?_)
      · have hw := hw.1 h4
        refine lv_iconst (v := 0) C.1 C.2.1 dX11_lostMany_30 (by decide) ?_
        exact k_X11_lostMany_31 (Q := Q) C (fun v1 v2  M hw H locs ls hl hP hS => ih v1 v2  M hw hl hP hS) v2 v1 0  _ hw (lv_sub hl [0, 2] rfl) hP hS
      · have hw := hw.2 h4
        refine lv_iconst (v := 1) C.1 C.2.1 dX11_lostMany_26 (by decide) ?_
        refine lv_goto (tgt := 31) C.1 C.2.1 dX11_lostMany_27 (by decide) ?_
        exact k_X11_lostMany_31 (Q := Q) C (fun v1 v2  M hw H locs ls hl hP hS => ih v1 v2  M hw hl hP hS) v2 v1 1  _ hw (lv_sub hl [0, 2] rfl) hP hS
def p_X11_lostMany (M : Mem) (Q : Int32 → Mem → Prop) : Prop := (∃ n4 : Nat, b_X11_lostMany_4 Q n4 0 0 M)
set_option maxRecDepth 100000 in
set_option maxHeartbeats 4000000 in
theorem c_X11_lostMany (l : Launch) (g : Geo) (gi : GI g) (M : Mem) (Q : Int32 → Mem → Prop) (hw : p_X11_lostMany  M Q) : Met l yX11_lostMany (Cond.code yX11_lostMany cX11_lostMany 3 (some .int) :: bg) ({ frames := 2, cells := 0, slots := 0, locals := 43 } : Room) (va_Pc [.ref (g.2.1 (138 + 0))] (PW g (yw g M))) (va_Qi Q (PB g (yw g)) (Af 1 g)) 0 0 (Af 1 g) := by
  refine Met.ofW (cc := cX11_lostMany) (maxL := 3) (ret := (some .int)) (by decide +kernel) rfl ?_
  intro p e s m args below meth c s₁ B hml hv
  obtain ⟨rfl, hv⟩ := hv
  have C := CX.start (own := RX11) B hml rfl gi hv
  have hP := hv.1
  have hS : va_S (Af 1 g) s.heap s.heap [] := va_S.rf
  have hl := lv_entry ([.ref (g.2.1 (138 + 0))]) (n := 3) (Nat.le_of_ble_eq_true rfl)
  rw [lg_entry_eq]
  generalize (lg_sl ([.ref (g.2.1 (138 + 0))]) ++ List.replicate (3 - (lg_sl ([.ref (g.2.1 (138 + 0))])).length) Slot.unset).toArray = ls at hl ⊢
  have hl : lv_has ls 3 [(0, .ref (g.2.1 (138 + 0)))] := hl
  unfold p_X11_lostMany at hw
  refine lv_iconst (v := 0) C.1 C.2.1 dX11_lostMany_0 (by decide) ?_
  refine lv_istore_n (lv' := [(1, .int 0), (0, .ref (g.2.1 (138 + 0)))]) C.1 C.2.1 dX11_lostMany_1 rfl hl (by decide) rfl (fun ls hl => ?_)
  refine lv_iconst (v := 0) C.1 C.2.1 dX11_lostMany_2 (by decide) ?_
  refine lv_istore_n (lv' := [(2, .int 0), (1, .int 0), (0, .ref (g.2.1 (138 + 0)))]) C.1 C.2.1 dX11_lostMany_3 rfl hl (by decide) rfl (fun ls hl => ?_)
  obtain ⟨n9, hw⟩ := hw
  exact k_X11_lostMany_4 (Q := Q) C n9 0 0  _ hw (lv_sub hl [2, 1, 0] rfl) hP hS
def b_X11_tried_98 (Q : Int32 → Mem → Prop) (k59 : Int32 → Int32 → Int32 → Mem → Prop) (v2 : Int32) (v4 : Int32) (s0 : Int32) (s1 : Int32) (M : Mem) : Prop := (∀ x17 : Int32, x17 = (s0 + s1) → (∀ x18 : Int32, x18 = (v4 + 1) → (k59 v2 x17 x18 M)))
set_option maxRecDepth 100000 in
set_option maxHeartbeats 4000000 in
theorem k_X11_tried_98 {p : Program} {l : Launch} {e : Env} {s : State} {m : MethodId} {args : Array Value} {below : List Frame} {meth : Method} {c : Code} {g : Geo} (C : CX g p s m args meth c cX11_tried 5 (some .int) RX11) {Q : Int32 → Mem → Prop} {k59 : Int32 → Int32 → Int32 → Mem → Prop} (hk59 : ∀ (v2 : Int32) (v3 : Int32) (v4 : Int32) (M : Mem), k59 v2 v3 v4 M → ∀ (H : Heap) (locs : List Loc) (ls : Array Slot), lv_has ls 5 [(0, .ref (g.2.1 (138 + 0))), (2, .int v2), (3, .int v3), (4, .int v4)] → va_P g.1 clz (yw g M) H → va_S (Af 1 g) s.heap H locs → W p l e ({ frames := 7, cells := 0, slots := 0, locals := 176 } : Room) s m args below meth c H locs 0 0 (MQ below (va_Qi Q (PB g (yw g)) (Af 1 g)) args s 0 0 (Af 1 g)) (F0 m 59 ls [])) (v2 : Int32) (v4 : Int32) (s0 : Int32) (s1 : Int32) (M : Mem) (hw : b_X11_tried_98 Q k59 v2 v4 s0 s1 M) {H : Heap} {locs : List Loc} {ls : Array Slot} (hl : lv_has ls 5 [(0, .ref (g.2.1 (138 + 0))), (2, .int v2), (4, .int v4)]) (hP : va_P g.1 clz (yw g M) H) (hS : va_S (Af 1 g) s.heap H locs) : W p l e ({ frames := 7, cells := 0, slots := 0, locals := 176 } : Room) s m args below meth c H locs 0 0 (MQ below (va_Qi Q (PB g (yw g)) (Af 1 g)) args s 0 0 (Af 1 g)) (F0 m 98 ls [.int s1, .int s0]) := by
  unfold b_X11_tried_98 at hw
  refine lv_iadd C.1 C.2.1 dX11_tried_98 ?_
  refine lv_topi (fun x17 e17 => ?_)
  have hw := hw x17 e17
  refine lv_istore_n (lv' := [(3, .int x17), (0, .ref (g.2.1 (138 + 0))), (2, .int v2), (4, .int v4)]) C.1 C.2.1 dX11_tried_99 rfl hl (by decide) rfl (fun ls hl => ?_)
  obtain ⟨x18, e18⟩ : ∃ y : Int32, y = (v4 + 1) := ⟨_, rfl⟩
  have hw := hw x18 e18
  refine lv_iinc (v := x18) (lv' := [(4, .int x18), (3, .int x17), (0, .ref (g.2.1 (138 + 0))), (2, .int v2)]) C.1 C.2.1 dX11_tried_100 hl (k := 3) rfl (by rw [e18]; rfl) (by decide) rfl (fun ls hl => ?_)
  refine lv_goto (tgt := 59) C.1 C.2.1 dX11_tried_103 (by decide) ?_
  exact hk59 v2 x17 x18  _ hw _ _ _ (lv_sub hl [2, 3, 1, 0] rfl) hP hS
def b_X11_tried_59 (Q : Int32 → Mem → Prop) : Nat → Int32 → Int32 → Int32 → Mem → Prop
  | 0, _, _, _, _ => False
  | n + 1, v2, v3, v4, M => (p_X11_of 292 M (fun r10 M10 => ((r10 ≤ v4 → (∀ M12 : Mem, M12 = sI M10 40 0 35 0 → (Q v3 M12))) ∧ (¬ r10 ≤ v4 → ((v2 ≤ 0 → (∀ M14 : Mem, M14 = sI M10 40 0 35 0 → (Q v3 M14))) ∧ (¬ v2 ≤ 0 → (p_X11_layFrames v4 M10 (fun M15 => ((¬ v2 = 1 → (b_X11_tried_98 Q (fun v2 v3 v4 M => b_X11_tried_59 Q n v2 v3 v4 M) v2 v4 v3 ((M15.1 40 0 42)) M15)) ∧ (v2 = 1 → (b_X11_tried_98 Q (fun v2 v3 v4 M => b_X11_tried_59 Q n v2 v3 v4 M) v2 v4 v3 ((M15.1 40 0 41)) M15)))))))))))
set_option maxRecDepth 100000 in
set_option maxHeartbeats 4000000 in
theorem k_X11_tried_59 {p : Program} {l : Launch} {e : Env} {s : State} {m : MethodId} {args : Array Value} {below : List Frame} {meth : Method} {c : Code} {g : Geo} (C : CX g p s m args meth c cX11_tried 5 (some .int) RX11) {Q : Int32 → Mem → Prop} : ∀ (n : Nat) (v2 : Int32) (v3 : Int32) (v4 : Int32) (M : Mem) (hw : b_X11_tried_59 Q n v2 v3 v4 M) {H : Heap} {locs : List Loc} {ls : Array Slot} (hl : lv_has ls 5 [(0, .ref (g.2.1 (138 + 0))), (2, .int v2), (3, .int v3), (4, .int v4)]) (hP : va_P g.1 clz (yw g M) H) (hS : va_S (Af 1 g) s.heap H locs), W p l e ({ frames := 7, cells := 0, slots := 0, locals := 176 } : Room) s m args below meth c H locs 0 0 (MQ below (va_Qi Q (PB g (yw g)) (Af 1 g)) args s 0 0 (Af 1 g)) (F0 m 59 ls []) := by
  intro n
  induction n with
  | zero => intro v2 v3 v4 M hw H locs ls hl hP hS; exact absurd hw (by rw [b_X11_tried_59]; exact fun h => h)
  | succ n ih =>
    intro v2 v3 v4 M hw H locs ls hl hP hS
    rw [b_X11_tried_59] at hw
    refine lv_iload C.1 C.2.1 dX11_tried_59 (lv_at hl 3 rfl) ?_
    refine lv_aload_n C.1 C.2.1 dX11_tried_61 rfl (lv_at hl 0 rfl) ?_
    refine lv_sipush (v := 292) C.1 C.2.1 dX11_tried_62 (by decide) ?_
    refine goI (wf := (yw g)) (runV (w := yw g M) (As := [.int 292]) (rest := [.int v4]) C lkX11_340 (c_X11_of l g C.2.2.2.2.2.2.2.2.2.2 292  M _ hw) hP hS rfl rfl ⟨Nat.le_of_ble_eq_true rfl, Nat.le_of_ble_eq_true rfl⟩ (xx_40 Nat.zero_lt_one) rfl rfl hl.1 rfl (Nat.le_of_ble_eq_true rfl) dX11_tried_65) hS (fun r10 M10 hw H locs hP hS => ?_)
    refine lv_icmp_ge (tgt := 106) C.1 C.2.1 dX11_tried_68 (by decide) (fun h11 => ?_) (fun h11 => ?_)
    · have hw := hw.1 h11
      refine lv_aload_n C.1 C.2.1 dX11_tried_106 rfl (lv_at hl 0 rfl) ?_
      refine lv_iconst (v := 0) C.1 C.2.1 dX11_tried_107 (by decide) ?_
      refine pX11_143 C hP hS Nat.zero_lt_one dX11_tried_108 (fun M12 e12 H locs hP hS => ?_)
      have hw := hw M12 e12
      refine lv_iload_n C.1 C.2.1 dX11_tried_111 rfl (lv_at hl 2 rfl) ?_
      exact retI (wf := (yw g)) C hP hS hw dX11_tried_112
    · have hw := hw.2 h11
      refine lv_iload_n C.1 C.2.1 dX11_tried_71 rfl (lv_at hl 1 rfl) ?_
      refine lv_if_le (tgt := 106) C.1 C.2.1 dX11_tried_72 (by decide) (fun h13 => ?_) (fun h13 => ?_)
      · have hw := hw.1 h13
        refine lv_aload_n C.1 C.2.1 dX11_tried_106 rfl (lv_at hl 0 rfl) ?_
        refine lv_iconst (v := 0) C.1 C.2.1 dX11_tried_107 (by decide) ?_
        refine pX11_143 C hP hS Nat.zero_lt_one dX11_tried_108 (fun M14 e14 H locs hP hS => ?_)
        have hw := hw M14 e14
        refine lv_iload_n C.1 C.2.1 dX11_tried_111 rfl (lv_at hl 2 rfl) ?_
        exact retI (wf := (yw g)) C hP hS hw dX11_tried_112
      · have hw := hw.2 h13
        refine lv_aload_n C.1 C.2.1 dX11_tried_75 rfl (lv_at hl 0 rfl) ?_
        refine lv_iload C.1 C.2.1 dX11_tried_76 (lv_at hl 3 rfl) ?_
        refine goV (wf := (yw g)) (runV (w := yw g M10) (As := [.int v4]) (rest := []) C lkX11_378 (c_X11_layFrames l g C.2.2.2.2.2.2.2.2.2.2 v4  M10 _ hw) hP hS rfl rfl ⟨Nat.le_of_ble_eq_true rfl, Nat.le_of_ble_eq_true rfl⟩ (xx_40 Nat.zero_lt_one) rfl rfl hl.1 rfl (Nat.le_of_ble_eq_true rfl) dX11_tried_78) hS (fun M15 hw H locs hP hS => ?_)
        refine lv_iload_n C.1 C.2.1 dX11_tried_81 rfl (lv_at hl 2 rfl) ?_
        refine lv_iload_n C.1 C.2.1 dX11_tried_82 rfl (lv_at hl 1 rfl) ?_
        refine lv_iconst (v := 1) C.1 C.2.1 dX11_tried_83 (by decide) ?_
        refine lv_icmp_ne (tgt := 94) C.1 C.2.1 dX11_tried_84 (by decide) (fun h16 => ?_) (fun h16 => ?_)
        · have hw := hw.1 h16
          refine lv_aload_n C.1 C.2.1 dX11_tried_94 rfl (lv_at hl 0 rfl) ?_
          refine gX11_371 C hP Nat.zero_lt_one dX11_tried_95 ?_
          exact k_X11_tried_98 (Q := Q) C (fun v2 v3 v4  M hw H locs ls hl hP hS => ih v2 v3 v4  M hw hl hP hS) v2 v4 v3 ((M15.1 40 0 42))  _ hw (lv_sub hl [0, 1, 3] rfl) hP hS
        · have hw := hw.2 h16
          refine lv_aload_n C.1 C.2.1 dX11_tried_87 rfl (lv_at hl 0 rfl) ?_
          refine gX11_368 C hP Nat.zero_lt_one dX11_tried_88 ?_
          refine lv_goto (tgt := 98) C.1 C.2.1 dX11_tried_91 (by decide) ?_
          exact k_X11_tried_98 (Q := Q) C (fun v2 v3 v4  M hw H locs ls hl hP hS => ih v2 v3 v4  M hw hl hP hS) v2 v4 v3 ((M15.1 40 0 41))  _ hw (lv_sub hl [0, 1, 3] rfl) hP hS
def b_X11_tried_55 (Q : Int32 → Mem → Prop) (v2 : Int32) (s0 : Int32) (M : Mem) : Prop := (∃ n59 : Nat, b_X11_tried_59 Q n59 v2 s0 0 M)
set_option maxRecDepth 100000 in
set_option maxHeartbeats 4000000 in
theorem k_X11_tried_55 {p : Program} {l : Launch} {e : Env} {s : State} {m : MethodId} {args : Array Value} {below : List Frame} {meth : Method} {c : Code} {g : Geo} (C : CX g p s m args meth c cX11_tried 5 (some .int) RX11) {Q : Int32 → Mem → Prop} (v2 : Int32) (s0 : Int32) (M : Mem) (hw : b_X11_tried_55 Q v2 s0 M) {H : Heap} {locs : List Loc} {ls : Array Slot} (hl : lv_has ls 5 [(0, .ref (g.2.1 (138 + 0))), (2, .int v2)]) (hP : va_P g.1 clz (yw g M) H) (hS : va_S (Af 1 g) s.heap H locs) : W p l e ({ frames := 7, cells := 0, slots := 0, locals := 176 } : Room) s m args below meth c H locs 0 0 (MQ below (va_Qi Q (PB g (yw g)) (Af 1 g)) args s 0 0 (Af 1 g)) (F0 m 55 ls [.int s0]) := by
  unfold b_X11_tried_55 at hw
  refine lv_istore_n (lv' := [(3, .int s0), (0, .ref (g.2.1 (138 + 0))), (2, .int v2)]) C.1 C.2.1 dX11_tried_55 rfl hl (by decide) rfl (fun ls hl => ?_)
  refine lv_iconst (v := 0) C.1 C.2.1 dX11_tried_56 (by decide) ?_
  refine lv_istore (lv' := [(4, .int 0), (3, .int s0), (0, .ref (g.2.1 (138 + 0))), (2, .int v2)]) C.1 C.2.1 dX11_tried_57 hl (by decide) rfl (fun ls hl => ?_)
  obtain ⟨n9, hw⟩ := hw
  exact k_X11_tried_59 (Q := Q) C n9 v2 s0 0  _ hw (lv_sub hl [2, 3, 1, 0] rfl) hP hS
def p_X11_tried (a1 : Int32) (a2 : Int32) (M : Mem) (Q : Int32 → Mem → Prop) : Prop := (∀ M1 : Mem, M1 = sI M 40 0 2 0 → (p_X11_isIn a1 1 40 M1 (fun r2 M2 => ((r2 = 0 → (Q (-1) M2)) ∧ (¬ r2 = 0 → (p_X11_isIn a2 0 2 M2 (fun r4 M4 => ((¬ r4 = 0 → (p_X11_copyBank 0 1 M4 (fun M6 => (∀ M7 : Mem, M7 = sI M6 40 0 35 1 → (p_X11_followed a1 M7 (fun r8 M8 => ((¬ a2 = 0 → (b_X11_tried_55 Q a2 0 M8)) ∧ (a2 = 0 → (p_X11_lostMany  M8 (fun r19 M19 => (b_X11_tried_55 Q a2 r19 M19))))))))))) ∧ (r4 = 0 → (Q (-1) M4))))))))))
set_option maxRecDepth 100000 in
set_option maxHeartbeats 4000000 in
theorem c_X11_tried (l : Launch) (g : Geo) (gi : GI g) (a1 : Int32) (a2 : Int32) (M : Mem) (Q : Int32 → Mem → Prop) (hw : p_X11_tried a1 a2 M Q) : Met l yX11_tried (Cond.code yX11_tried cX11_tried 5 (some .int) :: bg) ({ frames := 7, cells := 0, slots := 0, locals := 176 } : Room) (va_Pc [.ref (g.2.1 (138 + 0)), .int a1, .int a2] (PW g (yw g M))) (va_Qi Q (PB g (yw g)) (Af 1 g)) 0 0 (Af 1 g) := by
  refine Met.ofW (cc := cX11_tried) (maxL := 5) (ret := (some .int)) (by decide +kernel) rfl ?_
  intro p e s m args below meth c s₁ B hml hv
  obtain ⟨rfl, hv⟩ := hv
  have C := CX.start (own := RX11) B hml rfl gi hv
  have hP := hv.1
  have hS : va_S (Af 1 g) s.heap s.heap [] := va_S.rf
  have hl := lv_entry ([.ref (g.2.1 (138 + 0)), .int a1, .int a2]) (n := 5) (Nat.le_of_ble_eq_true rfl)
  rw [lg_entry_eq]
  generalize (lg_sl ([.ref (g.2.1 (138 + 0)), .int a1, .int a2]) ++ List.replicate (5 - (lg_sl ([.ref (g.2.1 (138 + 0)), .int a1, .int a2])).length) Slot.unset).toArray = ls at hl ⊢
  have hl : lv_has ls 5 [(0, .ref (g.2.1 (138 + 0))), (1, .int a1), (2, .int a2)] := hl
  unfold p_X11_tried at hw
  refine lv_aload_n C.1 C.2.1 dX11_tried_0 rfl (lv_at hl 0 rfl) ?_
  refine lv_iconst (v := 0) C.1 C.2.1 dX11_tried_1 (by decide) ?_
  refine pX11_76 C hP hS Nat.zero_lt_one dX11_tried_2 (fun M1 e1 H locs hP hS => ?_)
  have hw := hw M1 e1
  refine lv_iload_n C.1 C.2.1 dX11_tried_5 rfl (lv_at hl 1 rfl) ?_
  refine lv_iconst (v := 1) C.1 C.2.1 dX11_tried_6 (by decide) ?_
  refine lv_bipush (v := 40) C.1 C.2.1 dX11_tried_7 (by decide) ?_
  refine goI (wf := (yw g)) (runS (w := yw g M1) (As := [.int a1, .int 1, .int 40]) (rest := []) C lkX11_166 (c_X11_isIn l g C.2.2.2.2.2.2.2.2.2.2 a1 1 40  M1 _ hw) hP hS rfl rfl ⟨Nat.le_of_ble_eq_true rfl, Nat.le_of_ble_eq_true rfl⟩ hl.1 rfl (Nat.le_of_ble_eq_true rfl) dX11_tried_9) hS (fun r2 M2 hw H locs hP hS => ?_)
  obtain ⟨hw, hz2⟩ := hw
  refine lv_if_eq (tgt := 24) C.1 C.2.1 dX11_tried_12 (by decide) (fun h3 => ?_) (fun h3 => ?_)
  · have hw := hw.1 h3
    refine lv_iconst (v := (-1)) C.1 C.2.1 dX11_tried_24 (by decide) ?_
    exact retI (wf := (yw g)) C hP hS hw dX11_tried_25
  · have hw := hw.2 h3
    refine lv_iload_n C.1 C.2.1 dX11_tried_15 rfl (lv_at hl 2 rfl) ?_
    refine lv_iconst (v := 0) C.1 C.2.1 dX11_tried_16 (by decide) ?_
    refine lv_iconst (v := 2) C.1 C.2.1 dX11_tried_17 (by decide) ?_
    refine goI (wf := (yw g)) (runS (w := yw g M2) (As := [.int a2, .int 0, .int 2]) (rest := []) C lkX11_166 (c_X11_isIn l g C.2.2.2.2.2.2.2.2.2.2 a2 0 2  M2 _ hw) hP hS rfl rfl ⟨Nat.le_of_ble_eq_true rfl, Nat.le_of_ble_eq_true rfl⟩ hl.1 rfl (Nat.le_of_ble_eq_true rfl) dX11_tried_18) hS (fun r4 M4 hw H locs hP hS => ?_)
    obtain ⟨hw, hz4⟩ := hw
    refine lv_if_ne (tgt := 26) C.1 C.2.1 dX11_tried_21 (by decide) (fun h5 => ?_) (fun h5 => ?_)
    · have hw := hw.1 h5
      refine lv_aload_n C.1 C.2.1 dX11_tried_26 rfl (lv_at hl 0 rfl) ?_
      refine lv_iconst (v := 0) C.1 C.2.1 dX11_tried_27 (by decide) ?_
      refine lv_iconst (v := 1) C.1 C.2.1 dX11_tried_28 (by decide) ?_
      refine goV (wf := (yw g)) (runV (w := yw g M4) (As := [.int 0, .int 1]) (rest := []) C lkX11_343 (c_X11_copyBank l g C.2.2.2.2.2.2.2.2.2.2 0 1  M4 _ hw) hP hS rfl rfl ⟨Nat.le_of_ble_eq_true rfl, Nat.le_of_ble_eq_true rfl⟩ (xx_40 Nat.zero_lt_one) rfl rfl hl.1 rfl (Nat.le_of_ble_eq_true rfl) dX11_tried_29) hS (fun M6 hw H locs hP hS => ?_)
      refine lv_aload_n C.1 C.2.1 dX11_tried_32 rfl (lv_at hl 0 rfl) ?_
      refine lv_iconst (v := 1) C.1 C.2.1 dX11_tried_33 (by decide) ?_
      refine pX11_143 C hP hS Nat.zero_lt_one dX11_tried_34 (fun M7 e7 H locs hP hS => ?_)
      have hw := hw M7 e7
      refine lv_aload_n C.1 C.2.1 dX11_tried_37 rfl (lv_at hl 0 rfl) ?_
      refine lv_iload_n C.1 C.2.1 dX11_tried_38 rfl (lv_at hl 1 rfl) ?_
      refine goI (wf := (yw g)) (runV (w := yw g M7) (As := [.int a1]) (rest := []) C lkX11_362 (c_X11_followed l g C.2.2.2.2.2.2.2.2.2.2 a1  M7 _ hw) hP hS rfl rfl ⟨Nat.le_of_ble_eq_true rfl, Nat.le_of_ble_eq_true rfl⟩ (xx_40 Nat.zero_lt_one) rfl rfl hl.1 rfl (Nat.le_of_ble_eq_true rfl) dX11_tried_39) hS (fun r8 M8 hw H locs hP hS => ?_)
      refine lv_pop C.1 C.2.1 dX11_tried_42 rfl ?_
      refine lv_iload_n C.1 C.2.1 dX11_tried_43 rfl (lv_at hl 2 rfl) ?_
      refine lv_if_ne (tgt := 54) C.1 C.2.1 dX11_tried_44 (by decide) (fun h9 => ?_) (fun h9 => ?_)
      · have hw := hw.1 h9
        refine lv_iconst (v := 0) C.1 C.2.1 dX11_tried_54 (by decide) ?_
        exact k_X11_tried_55 (Q := Q) C a2 0  _ hw (lv_sub hl [0, 2] rfl) hP hS
      · have hw := hw.2 h9
        refine lv_aload_n C.1 C.2.1 dX11_tried_47 rfl (lv_at hl 0 rfl) ?_
        refine goI (wf := (yw g)) (runV (w := yw g M8) (As := []) (rest := []) C lkX11_409 (c_X11_lostMany l g C.2.2.2.2.2.2.2.2.2.2   M8 _ hw) hP hS rfl rfl ⟨Nat.le_of_ble_eq_true rfl, Nat.le_of_ble_eq_true rfl⟩ (xx_40 Nat.zero_lt_one) rfl rfl hl.1 rfl (Nat.le_of_ble_eq_true rfl) dX11_tried_48) hS (fun r19 M19 hw H locs hP hS => ?_)
        refine lv_goto (tgt := 55) C.1 C.2.1 dX11_tried_51 (by decide) ?_
        exact k_X11_tried_55 (Q := Q) C a2 r19  _ hw (lv_sub hl [0, 2] rfl) hP hS
    · have hw := hw.2 h5
      refine lv_iconst (v := (-1)) C.1 C.2.1 dX11_tried_24 (by decide) ?_
      exact retI (wf := (yw g)) C hP hS hw dX11_tried_25
def b_X11_birdsWith_27 (Q : Int32 → Mem → Prop) (k4 : Int32 → Int32 → Int32 → Mem → Prop) (v1 : Int32) (v3 : Int32) (s0 : Int32) (s1 : Int32) (M : Mem) : Prop := (∀ x4 : Int32, x4 = (s0 + s1) → (∀ x5 : Int32, x5 = (v3 + 1) → (k4 v1 x4 x5 M)))
set_option maxRecDepth 100000 in
set_option maxHeartbeats 4000000 in
theorem k_X11_birdsWith_27 {p : Program} {l : Launch} {e : Env} {s : State} {m : MethodId} {args : Array Value} {below : List Frame} {meth : Method} {c : Code} {g : Geo} (C : CX g p s m args meth c cX11_birdsWith 4 (some .int) RX11) {Q : Int32 → Mem → Prop} {k4 : Int32 → Int32 → Int32 → Mem → Prop} (hk4 : ∀ (v1 : Int32) (v2 : Int32) (v3 : Int32) (M : Mem), k4 v1 v2 v3 M → ∀ (H : Heap) (locs : List Loc) (ls : Array Slot), lv_has ls 4 [(0, .ref (g.2.1 (138 + 0))), (1, .int v1), (2, .int v2), (3, .int v3)] → va_P g.1 clz (yw g M) H → va_S (Af 1 g) s.heap H locs → W p l e ({ frames := 1, cells := 0, slots := 0, locals := 22 } : Room) s m args below meth c H locs 0 0 (MQ below (va_Qi Q (PB g (yw g)) (Af 1 g)) args s 0 0 (Af 1 g)) (F0 m 4 ls [])) (v1 : Int32) (v3 : Int32) (s0 : Int32) (s1 : Int32) (M : Mem) (hw : b_X11_birdsWith_27 Q k4 v1 v3 s0 s1 M) {H : Heap} {locs : List Loc} {ls : Array Slot} (hl : lv_has ls 4 [(0, .ref (g.2.1 (138 + 0))), (1, .int v1), (3, .int v3)]) (hP : va_P g.1 clz (yw g M) H) (hS : va_S (Af 1 g) s.heap H locs) : W p l e ({ frames := 1, cells := 0, slots := 0, locals := 22 } : Room) s m args below meth c H locs 0 0 (MQ below (va_Qi Q (PB g (yw g)) (Af 1 g)) args s 0 0 (Af 1 g)) (F0 m 27 ls [.int s1, .int s0]) := by
  unfold b_X11_birdsWith_27 at hw
  refine lv_iadd C.1 C.2.1 dX11_birdsWith_27 ?_
  refine lv_topi (fun x4 e4 => ?_)
  have hw := hw x4 e4
  refine lv_istore_n (lv' := [(2, .int x4), (0, .ref (g.2.1 (138 + 0))), (1, .int v1), (3, .int v3)]) C.1 C.2.1 dX11_birdsWith_28 rfl hl (by decide) rfl (fun ls hl => ?_)
  obtain ⟨x5, e5⟩ : ∃ y : Int32, y = (v3 + 1) := ⟨_, rfl⟩
  have hw := hw x5 e5
  refine lv_iinc (v := x5) (lv' := [(3, .int x5), (2, .int x4), (0, .ref (g.2.1 (138 + 0))), (1, .int v1)]) C.1 C.2.1 dX11_birdsWith_29 hl (k := 3) rfl (by rw [e5]; rfl) (by decide) rfl (fun ls hl => ?_)
  refine lv_goto (tgt := 4) C.1 C.2.1 dX11_birdsWith_32 (by decide) ?_
  exact hk4 v1 x4 x5  _ hw _ _ _ (lv_sub hl [2, 3, 1, 0] rfl) hP hS
def b_X11_birdsWith_4 (Q : Int32 → Mem → Prop) : Nat → Int32 → Int32 → Int32 → Mem → Prop
  | 0, _, _, _, _ => False
  | n + 1, v1, v2, v3, M => (((M.1 40 0 11) ≤ v3 → (Q v2 M)) ∧ (¬ (M.1 40 0 11) ≤ v3 → (p_X11_birdOf v3 v1 M (fun r2 M2 => ((r2 ≤ 0 → (b_X11_birdsWith_27 Q (fun v1 v2 v3 M => b_X11_birdsWith_4 Q n v1 v2 v3 M) v1 v3 v2 0 M2)) ∧ (¬ r2 ≤ 0 → (b_X11_birdsWith_27 Q (fun v1 v2 v3 M => b_X11_birdsWith_4 Q n v1 v2 v3 M) v1 v3 v2 1 M2)))))))
set_option maxRecDepth 100000 in
set_option maxHeartbeats 4000000 in
theorem k_X11_birdsWith_4 {p : Program} {l : Launch} {e : Env} {s : State} {m : MethodId} {args : Array Value} {below : List Frame} {meth : Method} {c : Code} {g : Geo} (C : CX g p s m args meth c cX11_birdsWith 4 (some .int) RX11) {Q : Int32 → Mem → Prop} : ∀ (n : Nat) (v1 : Int32) (v2 : Int32) (v3 : Int32) (M : Mem) (hw : b_X11_birdsWith_4 Q n v1 v2 v3 M) {H : Heap} {locs : List Loc} {ls : Array Slot} (hl : lv_has ls 4 [(0, .ref (g.2.1 (138 + 0))), (1, .int v1), (2, .int v2), (3, .int v3)]) (hP : va_P g.1 clz (yw g M) H) (hS : va_S (Af 1 g) s.heap H locs), W p l e ({ frames := 1, cells := 0, slots := 0, locals := 22 } : Room) s m args below meth c H locs 0 0 (MQ below (va_Qi Q (PB g (yw g)) (Af 1 g)) args s 0 0 (Af 1 g)) (F0 m 4 ls []) := by
  intro n
  induction n with
  | zero => intro v1 v2 v3 M hw H locs ls hl hP hS; exact absurd hw (by rw [b_X11_birdsWith_4]; exact fun h => h)
  | succ n ih =>
    intro v1 v2 v3 M hw H locs ls hl hP hS
    rw [b_X11_birdsWith_4] at hw
    refine lv_iload_n C.1 C.2.1 dX11_birdsWith_4 rfl (lv_at hl 3 rfl) ?_
    refine lv_aload_n C.1 C.2.1 dX11_birdsWith_5 rfl (lv_at hl 0 rfl) ?_
    refine gX11_121 C hP Nat.zero_lt_one dX11_birdsWith_6 ?_
    refine lv_icmp_ge (tgt := 35) C.1 C.2.1 dX11_birdsWith_9 (by decide) (fun h1 => ?_) (fun h1 => ?_)
    · have hw := hw.1 h1
      refine lv_iload_n C.1 C.2.1 dX11_birdsWith_35 rfl (lv_at hl 2 rfl) ?_
      exact retI (wf := (yw g)) C hP hS hw dX11_birdsWith_36
    · have hw := hw.2 h1
      refine lv_iload_n C.1 C.2.1 dX11_birdsWith_12 rfl (lv_at hl 2 rfl) ?_
      refine lv_aload_n C.1 C.2.1 dX11_birdsWith_13 rfl (lv_at hl 0 rfl) ?_
      refine lv_iload_n C.1 C.2.1 dX11_birdsWith_14 rfl (lv_at hl 3 rfl) ?_
      refine lv_iload_n C.1 C.2.1 dX11_birdsWith_15 rfl (lv_at hl 1 rfl) ?_
      refine goI (wf := (yw g)) (runV (w := yw g M) (As := [.int v3, .int v1]) (rest := [.int v2]) C lkX11_160 (c_X11_birdOf l g C.2.2.2.2.2.2.2.2.2.2 v3 v1  M _ hw) hP hS rfl rfl ⟨Nat.le_of_ble_eq_true rfl, Nat.le_of_ble_eq_true rfl⟩ (xx_40 Nat.zero_lt_one) rfl rfl hl.1 rfl (Nat.le_of_ble_eq_true rfl) dX11_birdsWith_16) hS (fun r2 M2 hw H locs hP hS => ?_)
      refine lv_if_le (tgt := 26) C.1 C.2.1 dX11_birdsWith_19 (by decide) (fun h3 => ?_) (fun h3 => ?_)
      · have hw := hw.1 h3
        refine lv_iconst (v := 0) C.1 C.2.1 dX11_birdsWith_26 (by decide) ?_
        exact k_X11_birdsWith_27 (Q := Q) C (fun v1 v2 v3  M hw H locs ls hl hP hS => ih v1 v2 v3  M hw hl hP hS) v1 v3 v2 0  _ hw (lv_sub hl [0, 1, 3] rfl) hP hS
      · have hw := hw.2 h3
        refine lv_iconst (v := 1) C.1 C.2.1 dX11_birdsWith_22 (by decide) ?_
        refine lv_goto (tgt := 27) C.1 C.2.1 dX11_birdsWith_23 (by decide) ?_
        exact k_X11_birdsWith_27 (Q := Q) C (fun v1 v2 v3  M hw H locs ls hl hP hS => ih v1 v2 v3  M hw hl hP hS) v1 v3 v2 1  _ hw (lv_sub hl [0, 1, 3] rfl) hP hS
def p_X11_birdsWith (a1 : Int32) (M : Mem) (Q : Int32 → Mem → Prop) : Prop := (∃ n4 : Nat, b_X11_birdsWith_4 Q n4 a1 0 0 M)
set_option maxRecDepth 100000 in
set_option maxHeartbeats 4000000 in
theorem c_X11_birdsWith (l : Launch) (g : Geo) (gi : GI g) (a1 : Int32) (M : Mem) (Q : Int32 → Mem → Prop) (hw : p_X11_birdsWith a1 M Q) : Met l yX11_birdsWith (Cond.code yX11_birdsWith cX11_birdsWith 4 (some .int) :: bg) ({ frames := 1, cells := 0, slots := 0, locals := 22 } : Room) (va_Pc [.ref (g.2.1 (138 + 0)), .int a1] (PW g (yw g M))) (va_Qi Q (PB g (yw g)) (Af 1 g)) 0 0 (Af 1 g) := by
  refine Met.ofW (cc := cX11_birdsWith) (maxL := 4) (ret := (some .int)) (by decide +kernel) rfl ?_
  intro p e s m args below meth c s₁ B hml hv
  obtain ⟨rfl, hv⟩ := hv
  have C := CX.start (own := RX11) B hml rfl gi hv
  have hP := hv.1
  have hS : va_S (Af 1 g) s.heap s.heap [] := va_S.rf
  have hl := lv_entry ([.ref (g.2.1 (138 + 0)), .int a1]) (n := 4) (Nat.le_of_ble_eq_true rfl)
  rw [lg_entry_eq]
  generalize (lg_sl ([.ref (g.2.1 (138 + 0)), .int a1]) ++ List.replicate (4 - (lg_sl ([.ref (g.2.1 (138 + 0)), .int a1])).length) Slot.unset).toArray = ls at hl ⊢
  have hl : lv_has ls 4 [(0, .ref (g.2.1 (138 + 0))), (1, .int a1)] := hl
  unfold p_X11_birdsWith at hw
  refine lv_iconst (v := 0) C.1 C.2.1 dX11_birdsWith_0 (by decide) ?_
  refine lv_istore_n (lv' := [(2, .int 0), (0, .ref (g.2.1 (138 + 0))), (1, .int a1)]) C.1 C.2.1 dX11_birdsWith_1 rfl hl (by decide) rfl (fun ls hl => ?_)
  refine lv_iconst (v := 0) C.1 C.2.1 dX11_birdsWith_2 (by decide) ?_
  refine lv_istore_n (lv' := [(3, .int 0), (2, .int 0), (0, .ref (g.2.1 (138 + 0))), (1, .int a1)]) C.1 C.2.1 dX11_birdsWith_3 rfl hl (by decide) rfl (fun ls hl => ?_)
  obtain ⟨n9, hw⟩ := hw
  exact k_X11_birdsWith_4 (Q := Q) C n9 a1 0 0  _ hw (lv_sub hl [2, 3, 1, 0] rfl) hP hS
def b_X11_count_140 (Q : Int32 → Mem → Prop) (k114 : Int32 → Int32 → Mem → Prop) (v3 : Int32) (s0 : Int32) (s1 : Int32) (M : Mem) : Prop := (∀ x10 : Int32, x10 = (s0 + s1) → (∀ x11 : Int32, x11 = (v3 + 1) → (k114 x10 x11 M)))
set_option maxRecDepth 100000 in
set_option maxHeartbeats 4000000 in
theorem k_X11_count_140 {p : Program} {l : Launch} {e : Env} {s : State} {m : MethodId} {args : Array Value} {below : List Frame} {meth : Method} {c : Code} {g : Geo} (C : CX g p s m args meth c cX11_count 4 (some .int) RX11) {Q : Int32 → Mem → Prop} {k114 : Int32 → Int32 → Mem → Prop} (hk114 : ∀ (v2 : Int32) (v3 : Int32) (M : Mem), k114 v2 v3 M → ∀ (H : Heap) (locs : List Loc) (ls : Array Slot), lv_has ls 4 [(0, .ref (g.2.1 (138 + 0))), (2, .int v2), (3, .int v3)] → va_P g.1 clz (yw g M) H → va_S (Af 1 g) s.heap H locs → W p l e ({ frames := 3, cells := 0, slots := 0, locals := 65 } : Room) s m args below meth c H locs 0 0 (MQ below (va_Qi Q (PB g (yw g)) (Af 1 g)) args s 0 0 (Af 1 g)) (F0 m 114 ls [])) (v3 : Int32) (s0 : Int32) (s1 : Int32) (M : Mem) (hw : b_X11_count_140 Q k114 v3 s0 s1 M) {H : Heap} {locs : List Loc} {ls : Array Slot} (hl : lv_has ls 4 [(0, .ref (g.2.1 (138 + 0))), (3, .int v3)]) (hP : va_P g.1 clz (yw g M) H) (hS : va_S (Af 1 g) s.heap H locs) : W p l e ({ frames := 3, cells := 0, slots := 0, locals := 65 } : Room) s m args below meth c H locs 0 0 (MQ below (va_Qi Q (PB g (yw g)) (Af 1 g)) args s 0 0 (Af 1 g)) (F0 m 140 ls [.int s1, .int s0]) := by
  unfold b_X11_count_140 at hw
  refine lv_iadd C.1 C.2.1 dX11_count_140 ?_
  refine lv_topi (fun x10 e10 => ?_)
  have hw := hw x10 e10
  refine lv_istore_n (lv' := [(2, .int x10), (0, .ref (g.2.1 (138 + 0))), (3, .int v3)]) C.1 C.2.1 dX11_count_141 rfl hl (by decide) rfl (fun ls hl => ?_)
  obtain ⟨x11, e11⟩ : ∃ y : Int32, y = (v3 + 1) := ⟨_, rfl⟩
  have hw := hw x11 e11
  refine lv_iinc (v := x11) (lv' := [(3, .int x11), (2, .int x10), (0, .ref (g.2.1 (138 + 0)))]) C.1 C.2.1 dX11_count_142 hl (k := 2) rfl (by rw [e11]; rfl) (by decide) rfl (fun ls hl => ?_)
  refine lv_goto (tgt := 114) C.1 C.2.1 dX11_count_145 (by decide) ?_
  exact hk114 x10 x11  _ hw _ _ _ (lv_sub hl [2, 1, 0] rfl) hP hS
def b_X11_count_114 (Q : Int32 → Mem → Prop) : Nat → Int32 → Int32 → Mem → Prop
  | 0, _, _, _ => False
  | n + 1, v2, v3, M => (((M.1 40 0 11) ≤ v3 → (Q v2 M)) ∧ (¬ (M.1 40 0 11) ≤ v3 → (p_X11_of (((293 : Int32) + v3)) M (fun r8 M8 => ((r8 < 0 → (b_X11_count_140 Q (fun v2 v3 M => b_X11_count_114 Q n v2 v3 M) v3 v2 0 M8)) ∧ (¬ r8 < 0 → (b_X11_count_140 Q (fun v2 v3 M => b_X11_count_114 Q n v2 v3 M) v3 v2 1 M8)))))))
set_option maxRecDepth 100000 in
set_option maxHeartbeats 4000000 in
theorem k_X11_count_114 {p : Program} {l : Launch} {e : Env} {s : State} {m : MethodId} {args : Array Value} {below : List Frame} {meth : Method} {c : Code} {g : Geo} (C : CX g p s m args meth c cX11_count 4 (some .int) RX11) {Q : Int32 → Mem → Prop} : ∀ (n : Nat) (v2 : Int32) (v3 : Int32) (M : Mem) (hw : b_X11_count_114 Q n v2 v3 M) {H : Heap} {locs : List Loc} {ls : Array Slot} (hl : lv_has ls 4 [(0, .ref (g.2.1 (138 + 0))), (2, .int v2), (3, .int v3)]) (hP : va_P g.1 clz (yw g M) H) (hS : va_S (Af 1 g) s.heap H locs), W p l e ({ frames := 3, cells := 0, slots := 0, locals := 65 } : Room) s m args below meth c H locs 0 0 (MQ below (va_Qi Q (PB g (yw g)) (Af 1 g)) args s 0 0 (Af 1 g)) (F0 m 114 ls []) := by
  intro n
  induction n with
  | zero => intro v2 v3 M hw H locs ls hl hP hS; exact absurd hw (by rw [b_X11_count_114]; exact fun h => h)
  | succ n ih =>
    intro v2 v3 M hw H locs ls hl hP hS
    rw [b_X11_count_114] at hw
    refine lv_iload_n C.1 C.2.1 dX11_count_114 rfl (lv_at hl 2 rfl) ?_
    refine lv_aload_n C.1 C.2.1 dX11_count_115 rfl (lv_at hl 0 rfl) ?_
    refine gX11_121 C hP Nat.zero_lt_one dX11_count_116 ?_
    refine lv_icmp_ge (tgt := 148) C.1 C.2.1 dX11_count_119 (by decide) (fun h7 => ?_) (fun h7 => ?_)
    · have hw := hw.1 h7
      refine lv_iload_n C.1 C.2.1 dX11_count_148 rfl (lv_at hl 1 rfl) ?_
      exact retI (wf := (yw g)) C hP hS hw dX11_count_149
    · have hw := hw.2 h7
      refine lv_iload_n C.1 C.2.1 dX11_count_122 rfl (lv_at hl 1 rfl) ?_
      refine lv_aload_n C.1 C.2.1 dX11_count_123 rfl (lv_at hl 0 rfl) ?_
      refine lv_sipush (v := 293) C.1 C.2.1 dX11_count_124 (by decide) ?_
      refine lv_iload_n C.1 C.2.1 dX11_count_127 rfl (lv_at hl 2 rfl) ?_
      refine lv_iadd C.1 C.2.1 dX11_count_128 ?_
      refine goI (wf := (yw g)) (runV (w := yw g M) (As := [.int ((293 : Int32) + v3)]) (rest := [.int v2]) C lkX11_340 (c_X11_of l g C.2.2.2.2.2.2.2.2.2.2 (((293 : Int32) + v3))  M _ hw) hP hS rfl rfl ⟨Nat.le_of_ble_eq_true rfl, Nat.le_of_ble_eq_true rfl⟩ (xx_40 Nat.zero_lt_one) rfl rfl hl.1 rfl (Nat.le_of_ble_eq_true rfl) dX11_count_129) hS (fun r8 M8 hw H locs hP hS => ?_)
      refine lv_if_lt (tgt := 139) C.1 C.2.1 dX11_count_132 (by decide) (fun h9 => ?_) (fun h9 => ?_)
      · have hw := hw.1 h9
        refine lv_iconst (v := 0) C.1 C.2.1 dX11_count_139 (by decide) ?_
        exact k_X11_count_140 (Q := Q) C (fun v2 v3  M hw H locs ls hl hP hS => ih v2 v3  M hw hl hP hS) v3 v2 0  _ hw (lv_sub hl [0, 2] rfl) hP hS
      · have hw := hw.2 h9
        refine lv_iconst (v := 1) C.1 C.2.1 dX11_count_135 (by decide) ?_
        refine lv_goto (tgt := 140) C.1 C.2.1 dX11_count_136 (by decide) ?_
        exact k_X11_count_140 (Q := Q) C (fun v2 v3  M hw H locs ls hl hP hS => ih v2 v3  M hw hl hP hS) v3 v2 1  _ hw (lv_sub hl [0, 2] rfl) hP hS
def p_X11_count (a1 : Int32) (M : Mem) (Q : Int32 → Mem → Prop) : Prop := (∀ M1 : Mem, M1 = sI M 40 0 2 0 → ((a1 = 0 → (Q (M1.1 40 0 11) M1)) ∧ (a1 = 1 → (p_X11_birdsWith 2 M1 (fun r3 M3 => (Q r3 M3)))) ∧ (a1 = 2 → (p_X11_of 292 M1 (fun r4 M4 => (Q r4 M4)))) ∧ (a1 = 3 → (p_X11_lostMany  M1 (fun r5 M5 => (Q r5 M5)))) ∧ (a1 = 4 → (Q (M1.1 40 0 14) M1)) ∧ (a1 = 5 → (p_X11_birdsWith 10 M1 (fun r6 M6 => (Q r6 M6)))) ∧ (a1 = 6 → (∃ n114 : Nat, b_X11_count_114 Q n114 0 0 M1)) ∧ (a1 = 7 → (vp_in 9 34 ∧ (Q (M1.1 45 0 (9 : Int32).toNatClampNeg) M1))) ∧ (a1 = 8 → (vp_in 11 34 ∧ (Q (M1.1 45 0 (11 : Int32).toNatClampNeg) M1))) ∧ (a1 = 9 → (vp_in 7 34 ∧ (Q (M1.1 45 0 (7 : Int32).toNatClampNeg) M1))) ∧ (a1 = 10 → (vp_in 8 34 ∧ (Q (M1.1 45 0 (8 : Int32).toNatClampNeg) M1))) ∧ (a1 = 11 → (Q (M1.1 40 0 1) M1)) ∧ (a1 = 12 → (Q (M1.1 40 0 36) M1)) ∧ (¬ a1 = 0 → ¬ a1 = 1 → ¬ a1 = 2 → ¬ a1 = 3 → ¬ a1 = 4 → ¬ a1 = 5 → ¬ a1 = 6 → ¬ a1 = 7 → ¬ a1 = 8 → ¬ a1 = 9 → ¬ a1 = 10 → ¬ a1 = 11 → ¬ a1 = 12 → (Q (-1) M1))))
set_option maxRecDepth 100000 in
set_option maxHeartbeats 4000000 in
theorem c_X11_count (l : Launch) (g : Geo) (gi : GI g) (a1 : Int32) (M : Mem) (Q : Int32 → Mem → Prop) (hw : p_X11_count a1 M Q) : Met l yX11_count (Cond.code yX11_count cX11_count 4 (some .int) :: bg) ({ frames := 3, cells := 0, slots := 0, locals := 65 } : Room) (va_Pc [.ref (g.2.1 (138 + 0)), .int a1] (PW g (yw g M))) (va_Qi Q (PB g (yw g)) (Af 1 g)) 0 0 (Af 1 g) := by
  refine Met.ofW (cc := cX11_count) (maxL := 4) (ret := (some .int)) (by decide +kernel) rfl ?_
  intro p e s m args below meth c s₁ B hml hv
  obtain ⟨rfl, hv⟩ := hv
  have C := CX.start (own := RX11) B hml rfl gi hv
  have hP := hv.1
  have hS : va_S (Af 1 g) s.heap s.heap [] := va_S.rf
  have hl := lv_entry ([.ref (g.2.1 (138 + 0)), .int a1]) (n := 4) (Nat.le_of_ble_eq_true rfl)
  rw [lg_entry_eq]
  generalize (lg_sl ([.ref (g.2.1 (138 + 0)), .int a1]) ++ List.replicate (4 - (lg_sl ([.ref (g.2.1 (138 + 0)), .int a1])).length) Slot.unset).toArray = ls at hl ⊢
  have hl : lv_has ls 4 [(0, .ref (g.2.1 (138 + 0))), (1, .int a1)] := hl
  unfold p_X11_count at hw
  refine lv_aload_n C.1 C.2.1 dX11_count_0 rfl (lv_at hl 0 rfl) ?_
  refine lv_iconst (v := 0) C.1 C.2.1 dX11_count_1 (by decide) ?_
  refine pX11_76 C hP hS Nat.zero_lt_one dX11_count_2 (fun M1 e1 H locs hP hS => ?_)
  have hw := hw M1 e1
  refine lv_iconst (v := 0) C.1 C.2.1 dX11_count_5 (by decide) ?_
  refine lv_istore_n (lv' := [(2, .int 0), (0, .ref (g.2.1 (138 + 0))), (1, .int a1)]) C.1 C.2.1 dX11_count_6 rfl hl (by decide) rfl (fun ls hl => ?_)
  refine lv_iload_n C.1 C.2.1 dX11_count_7 rfl (lv_at hl 2 rfl) ?_
  by_cases q2_0 : a1 = 0
  · have hw := hw.1 q2_0
    refine lv_tableIn (tgt := 76) (off := 68) C.1 C.2.1 dX11_count_8 (by rw [q2_0]; decide) (by rw [q2_0]; decide) (by rw [q2_0]; decide +kernel) (by decide) ?_
    refine lv_aload_n C.1 C.2.1 dX11_count_76 rfl (lv_at hl 1 rfl) ?_
    refine gX11_121 C hP Nat.zero_lt_one dX11_count_77 ?_
    exact retI (wf := (yw g)) C hP hS hw dX11_count_80
  by_cases q2_1 : a1 = 1
  · have hw := hw.2.1 q2_1
    refine lv_tableIn (tgt := 81) (off := 73) C.1 C.2.1 dX11_count_8 (by rw [q2_1]; decide) (by rw [q2_1]; decide) (by rw [q2_1]; decide +kernel) (by decide) ?_
    refine lv_aload_n C.1 C.2.1 dX11_count_81 rfl (lv_at hl 1 rfl) ?_
    refine lv_iconst (v := 2) C.1 C.2.1 dX11_count_82 (by decide) ?_
    refine goI (wf := (yw g)) (runV (w := yw g M1) (As := [.int 2]) (rest := []) C lkX11_412 (c_X11_birdsWith l g C.2.2.2.2.2.2.2.2.2.2 2  M1 _ hw) hP hS rfl rfl ⟨Nat.le_of_ble_eq_true rfl, Nat.le_of_ble_eq_true rfl⟩ (xx_40 Nat.zero_lt_one) rfl rfl hl.1 rfl (Nat.le_of_ble_eq_true rfl) dX11_count_83) hS (fun r3 M3 hw H locs hP hS => ?_)
    exact retI (wf := (yw g)) C hP hS hw dX11_count_86
  by_cases q2_2 : a1 = 2
  · have hw := hw.2.2.1 q2_2
    refine lv_tableIn (tgt := 87) (off := 79) C.1 C.2.1 dX11_count_8 (by rw [q2_2]; decide) (by rw [q2_2]; decide) (by rw [q2_2]; decide +kernel) (by decide) ?_
    refine lv_aload_n C.1 C.2.1 dX11_count_87 rfl (lv_at hl 1 rfl) ?_
    refine lv_sipush (v := 292) C.1 C.2.1 dX11_count_88 (by decide) ?_
    refine goI (wf := (yw g)) (runV (w := yw g M1) (As := [.int 292]) (rest := []) C lkX11_340 (c_X11_of l g C.2.2.2.2.2.2.2.2.2.2 292  M1 _ hw) hP hS rfl rfl ⟨Nat.le_of_ble_eq_true rfl, Nat.le_of_ble_eq_true rfl⟩ (xx_40 Nat.zero_lt_one) rfl rfl hl.1 rfl (Nat.le_of_ble_eq_true rfl) dX11_count_91) hS (fun r4 M4 hw H locs hP hS => ?_)
    exact retI (wf := (yw g)) C hP hS hw dX11_count_94
  by_cases q2_3 : a1 = 3
  · have hw := hw.2.2.2.1 q2_3
    refine lv_tableIn (tgt := 95) (off := 87) C.1 C.2.1 dX11_count_8 (by rw [q2_3]; decide) (by rw [q2_3]; decide) (by rw [q2_3]; decide +kernel) (by decide) ?_
    refine lv_aload_n C.1 C.2.1 dX11_count_95 rfl (lv_at hl 1 rfl) ?_
    refine goI (wf := (yw g)) (runV (w := yw g M1) (As := []) (rest := []) C lkX11_409 (c_X11_lostMany l g C.2.2.2.2.2.2.2.2.2.2   M1 _ hw) hP hS rfl rfl ⟨Nat.le_of_ble_eq_true rfl, Nat.le_of_ble_eq_true rfl⟩ (xx_40 Nat.zero_lt_one) rfl rfl hl.1 rfl (Nat.le_of_ble_eq_true rfl) dX11_count_96) hS (fun r5 M5 hw H locs hP hS => ?_)
    exact retI (wf := (yw g)) C hP hS hw dX11_count_99
  by_cases q2_4 : a1 = 4
  · have hw := hw.2.2.2.2.1 q2_4
    refine lv_tableIn (tgt := 100) (off := 92) C.1 C.2.1 dX11_count_8 (by rw [q2_4]; decide) (by rw [q2_4]; decide) (by rw [q2_4]; decide +kernel) (by decide) ?_
    refine lv_aload_n C.1 C.2.1 dX11_count_100 rfl (lv_at hl 1 rfl) ?_
    refine gX11_124 C hP Nat.zero_lt_one dX11_count_101 ?_
    exact retI (wf := (yw g)) C hP hS hw dX11_count_104
  by_cases q2_5 : a1 = 5
  · have hw := hw.2.2.2.2.2.1 q2_5
    refine lv_tableIn (tgt := 105) (off := 97) C.1 C.2.1 dX11_count_8 (by rw [q2_5]; decide) (by rw [q2_5]; decide) (by rw [q2_5]; decide +kernel) (by decide) ?_
    refine lv_aload_n C.1 C.2.1 dX11_count_105 rfl (lv_at hl 1 rfl) ?_
    refine lv_bipush (v := 10) C.1 C.2.1 dX11_count_106 (by decide) ?_
    refine goI (wf := (yw g)) (runV (w := yw g M1) (As := [.int 10]) (rest := []) C lkX11_412 (c_X11_birdsWith l g C.2.2.2.2.2.2.2.2.2.2 10  M1 _ hw) hP hS rfl rfl ⟨Nat.le_of_ble_eq_true rfl, Nat.le_of_ble_eq_true rfl⟩ (xx_40 Nat.zero_lt_one) rfl rfl hl.1 rfl (Nat.le_of_ble_eq_true rfl) dX11_count_108) hS (fun r6 M6 hw H locs hP hS => ?_)
    exact retI (wf := (yw g)) C hP hS hw dX11_count_111
  by_cases q2_6 : a1 = 6
  · have hw := hw.2.2.2.2.2.2.1 q2_6
    refine lv_tableIn (tgt := 112) (off := 104) C.1 C.2.1 dX11_count_8 (by rw [q2_6]; decide) (by rw [q2_6]; decide) (by rw [q2_6]; decide +kernel) (by decide) ?_
    refine lv_iconst (v := 0) C.1 C.2.1 dX11_count_112 (by decide) ?_
    refine lv_istore_n (lv' := [(3, .int 0), (2, .int 0), (0, .ref (g.2.1 (138 + 0))), (1, .int a1)]) C.1 C.2.1 dX11_count_113 rfl hl (by decide) rfl (fun ls hl => ?_)
    obtain ⟨n9, hw⟩ := hw
    exact k_X11_count_114 (Q := Q) C n9 0 0  _ hw (lv_sub hl [2, 1, 0] rfl) hP hS
  by_cases q2_7 : a1 = 7
  · have hw := hw.2.2.2.2.2.2.2.1 q2_7
    refine lv_tableIn (tgt := 150) (off := 142) C.1 C.2.1 dX11_count_8 (by rw [q2_7]; decide) (by rw [q2_7]; decide) (by rw [q2_7]; decide +kernel) (by decide) ?_
    refine lv_aload_n C.1 C.2.1 dX11_count_150 rfl (lv_at hl 1 rfl) ?_
    refine gX11_26 C hP Nat.zero_lt_one dX11_count_151 ?_
    refine lv_bipush (v := 9) C.1 C.2.1 dX11_count_154 (by decide) ?_
    obtain ⟨h12, hw⟩ := hw
    refine al_45 C hP Nat.zero_lt_one h12 dX11_count_156 ?_
    exact retI (wf := (yw g)) C hP hS hw dX11_count_157
  by_cases q2_8 : a1 = 8
  · have hw := hw.2.2.2.2.2.2.2.2.1 q2_8
    refine lv_tableIn (tgt := 158) (off := 150) C.1 C.2.1 dX11_count_8 (by rw [q2_8]; decide) (by rw [q2_8]; decide) (by rw [q2_8]; decide +kernel) (by decide) ?_
    refine lv_aload_n C.1 C.2.1 dX11_count_158 rfl (lv_at hl 1 rfl) ?_
    refine gX11_26 C hP Nat.zero_lt_one dX11_count_159 ?_
    refine lv_bipush (v := 11) C.1 C.2.1 dX11_count_162 (by decide) ?_
    obtain ⟨h13, hw⟩ := hw
    refine al_45 C hP Nat.zero_lt_one h13 dX11_count_164 ?_
    exact retI (wf := (yw g)) C hP hS hw dX11_count_165
  by_cases q2_9 : a1 = 9
  · have hw := hw.2.2.2.2.2.2.2.2.2.1 q2_9
    refine lv_tableIn (tgt := 166) (off := 158) C.1 C.2.1 dX11_count_8 (by rw [q2_9]; decide) (by rw [q2_9]; decide) (by rw [q2_9]; decide +kernel) (by decide) ?_
    refine lv_aload_n C.1 C.2.1 dX11_count_166 rfl (lv_at hl 1 rfl) ?_
    refine gX11_26 C hP Nat.zero_lt_one dX11_count_167 ?_
    refine lv_bipush (v := 7) C.1 C.2.1 dX11_count_170 (by decide) ?_
    obtain ⟨h14, hw⟩ := hw
    refine al_45 C hP Nat.zero_lt_one h14 dX11_count_172 ?_
    exact retI (wf := (yw g)) C hP hS hw dX11_count_173
  by_cases q2_10 : a1 = 10
  · have hw := hw.2.2.2.2.2.2.2.2.2.2.1 q2_10
    refine lv_tableIn (tgt := 174) (off := 166) C.1 C.2.1 dX11_count_8 (by rw [q2_10]; decide) (by rw [q2_10]; decide) (by rw [q2_10]; decide +kernel) (by decide) ?_
    refine lv_aload_n C.1 C.2.1 dX11_count_174 rfl (lv_at hl 1 rfl) ?_
    refine gX11_26 C hP Nat.zero_lt_one dX11_count_175 ?_
    refine lv_bipush (v := 8) C.1 C.2.1 dX11_count_178 (by decide) ?_
    obtain ⟨h15, hw⟩ := hw
    refine al_45 C hP Nat.zero_lt_one h15 dX11_count_180 ?_
    exact retI (wf := (yw g)) C hP hS hw dX11_count_181
  by_cases q2_11 : a1 = 11
  · have hw := hw.2.2.2.2.2.2.2.2.2.2.2.1 q2_11
    refine lv_tableIn (tgt := 182) (off := 174) C.1 C.2.1 dX11_count_8 (by rw [q2_11]; decide) (by rw [q2_11]; decide) (by rw [q2_11]; decide +kernel) (by decide) ?_
    refine lv_aload_n C.1 C.2.1 dX11_count_182 rfl (lv_at hl 1 rfl) ?_
    refine gX11_79 C hP Nat.zero_lt_one dX11_count_183 ?_
    exact retI (wf := (yw g)) C hP hS hw dX11_count_186
  by_cases q2_12 : a1 = 12
  · have hw := hw.2.2.2.2.2.2.2.2.2.2.2.2.1 q2_12
    refine lv_tableIn (tgt := 187) (off := 179) C.1 C.2.1 dX11_count_8 (by rw [q2_12]; decide) (by rw [q2_12]; decide) (by rw [q2_12]; decide +kernel) (by decide) ?_
    refine lv_aload_n C.1 C.2.1 dX11_count_187 rfl (lv_at hl 1 rfl) ?_
    refine gX11_146 C hP Nat.zero_lt_one dX11_count_188 ?_
    exact retI (wf := (yw g)) C hP hS hw dX11_count_191
  have hw := hw.2.2.2.2.2.2.2.2.2.2.2.2.2 q2_0 q2_1 q2_2 q2_3 q2_4 q2_5 q2_6 q2_7 q2_8 q2_9 q2_10 q2_11 q2_12
  have n2_0 : a1.toInt ≠ 0 := tsw q2_0
  have n2_1 : a1.toInt ≠ 1 := tsw q2_1
  have n2_2 : a1.toInt ≠ 2 := tsw q2_2
  have n2_3 : a1.toInt ≠ 3 := tsw q2_3
  have n2_4 : a1.toInt ≠ 4 := tsw q2_4
  have n2_5 : a1.toInt ≠ 5 := tsw q2_5
  have n2_6 : a1.toInt ≠ 6 := tsw q2_6
  have n2_7 : a1.toInt ≠ 7 := tsw q2_7
  have n2_8 : a1.toInt ≠ 8 := tsw q2_8
  have n2_9 : a1.toInt ≠ 9 := tsw q2_9
  have n2_10 : a1.toInt ≠ 10 := tsw q2_10
  have n2_11 : a1.toInt ≠ 11 := tsw q2_11
  have n2_12 : a1.toInt ≠ 12 := tsw q2_12
  refine lv_tableOut (tgt := 192) C.1 C.2.1 dX11_count_8 (by omega) (by decide) ?_
  refine lv_iconst (v := (-1)) C.1 C.2.1 dX11_count_192 (by decide) ?_
  exact retI (wf := (yw g)) C hP hS hw dX11_count_193
