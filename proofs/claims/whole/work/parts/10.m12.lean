def p_X11_asTold (M : Mem) (Q : Mem → Prop) : Prop := (vp_in 9 34 ∧ (∀ M2 : Mem, M2 = sI M 40 0 22 (M.1 45 0 (9 : Int32).toNatClampNeg) → (vp_in 10 34 ∧ (∀ M4 : Mem, M4 = sI M2 40 0 23 (M2.1 45 0 (10 : Int32).toNatClampNeg) → (∀ M5 : Mem, M5 = sI M4 40 0 24 (-1) → (Q M5))))))
set_option maxRecDepth 100000 in
set_option maxHeartbeats 4000000 in
theorem c_X11_asTold (l : Launch) (g : Geo) (gi : GI g) (M : Mem) (Q : Mem → Prop) (hw : p_X11_asTold  M Q) : Met l yX11_asTold (Cond.code yX11_asTold cX11_asTold 1 none :: bg) ({ frames := 0, cells := 0, slots := 0, locals := 0 } : Room) (va_Pc [.ref (g.2.1 (138 + 0))] (PW g (yw g M))) (va_Qv Q (PB g (yw g)) (Af 1 g)) 0 0 (Af 1 g) := by
  refine Met.ofW (cc := cX11_asTold) (maxL := 1) (ret := none) (by decide +kernel) rfl ?_
  intro p e s m args below meth c s₁ B hml hv
  obtain ⟨rfl, hv⟩ := hv
  have C := CX.start (own := RX11) B hml rfl gi hv
  have hP := hv.1
  have hS : va_S (Af 1 g) s.heap s.heap [] := va_S.rf
  have hl := lv_entry ([.ref (g.2.1 (138 + 0))]) (n := 1) (Nat.le_of_ble_eq_true rfl)
  rw [lg_entry_eq]
  generalize (lg_sl ([.ref (g.2.1 (138 + 0))]) ++ List.replicate (1 - (lg_sl ([.ref (g.2.1 (138 + 0))])).length) Slot.unset).toArray = ls at hl ⊢
  have hl : lv_has ls 1 [(0, .ref (g.2.1 (138 + 0)))] := hl
  unfold p_X11_asTold at hw
  refine lv_aload_n C.1 C.2.1 dX11_asTold_0 rfl (lv_at hl 0 rfl) ?_
  refine lv_aload_n C.1 C.2.1 dX11_asTold_1 rfl (lv_at hl 0 rfl) ?_
  refine gX11_26 C hP Nat.zero_lt_one dX11_asTold_2 ?_
  refine lv_bipush (v := 9) C.1 C.2.1 dX11_asTold_5 (by decide) ?_
  obtain ⟨h1, hw⟩ := hw
  refine al_45 C hP Nat.zero_lt_one h1 dX11_asTold_7 ?_
  refine pX11_134 C hP hS Nat.zero_lt_one dX11_asTold_8 (fun M2 e2 H locs hP hS => ?_)
  have hw := hw M2 e2
  refine lv_aload_n C.1 C.2.1 dX11_asTold_11 rfl (lv_at hl 0 rfl) ?_
  refine lv_aload_n C.1 C.2.1 dX11_asTold_12 rfl (lv_at hl 0 rfl) ?_
  refine gX11_26 C hP Nat.zero_lt_one dX11_asTold_13 ?_
  refine lv_bipush (v := 10) C.1 C.2.1 dX11_asTold_16 (by decide) ?_
  obtain ⟨h3, hw⟩ := hw
  refine al_45 C hP Nat.zero_lt_one h3 dX11_asTold_18 ?_
  refine pX11_137 C hP hS Nat.zero_lt_one dX11_asTold_19 (fun M4 e4 H locs hP hS => ?_)
  have hw := hw M4 e4
  refine lv_aload_n C.1 C.2.1 dX11_asTold_22 rfl (lv_at hl 0 rfl) ?_
  refine lv_iconst (v := (-1)) C.1 C.2.1 dX11_asTold_23 (by decide) ?_
  refine pX11_140 C hP hS Nat.zero_lt_one dX11_asTold_24 (fun M5 e5 H locs hP hS => ?_)
  have hw := hw M5 e5
  exact retV (wf := (yw g)) C hP hS hw dX11_asTold_27
def b_X11_clear_56 (Q : Int32 → Mem → Prop) (v1 : Int32) (v2 : Int32) (s1 : Int32) (M : Mem) : Prop := (∀ M9 : Mem, M9 = sI M 40 0 24 s1 → (p_X11_hunts v1 v2 1 M9 (fun M10 => (p_X11_asTold  M10 (fun M11 => (p_X11_isAcquired  M11 (fun r12 M12 => ((r12 = 0 → (Q 0 M12)) ∧ (¬ r12 = 0 → (Q 1 M12))))))))))
set_option maxRecDepth 100000 in
set_option maxHeartbeats 4000000 in
theorem k_X11_clear_56 {p : Program} {l : Launch} {e : Env} {s : State} {m : MethodId} {args : Array Value} {below : List Frame} {meth : Method} {c : Code} {g : Geo} (C : CX g p s m args meth c cX11_clear 4 (some .int) RX11) {Q : Int32 → Mem → Prop} (v1 : Int32) (v2 : Int32) (s1 : Int32) (M : Mem) (hw : b_X11_clear_56 Q v1 v2 s1 M) {H : Heap} {locs : List Loc} {ls : Array Slot} (hl : lv_has ls 4 [(0, .ref (g.2.1 (138 + 0))), (1, .int v1), (2, .int v2)]) (hP : va_P g.1 clz (yw g M) H) (hS : va_S (Af 1 g) s.heap H locs) : W p l e ({ frames := 7, cells := 0, slots := 0, locals := 171 } : Room) s m args below meth c H locs 0 0 (MQ below (va_Qi Q (PB g (yw g)) (Af 1 g)) args s 0 0 (Af 1 g)) (F0 m 56 ls [.int s1, .ref (g.2.1 (138 + 0))]) := by
  unfold b_X11_clear_56 at hw
  refine pX11_140 C hP hS Nat.zero_lt_one dX11_clear_56 (fun M9 e9 H locs hP hS => ?_)
  have hw := hw M9 e9
  refine lv_aload_n C.1 C.2.1 dX11_clear_59 rfl (lv_at hl 0 rfl) ?_
  refine lv_iload_n C.1 C.2.1 dX11_clear_60 rfl (lv_at hl 1 rfl) ?_
  refine lv_iload_n C.1 C.2.1 dX11_clear_61 rfl (lv_at hl 2 rfl) ?_
  refine lv_iconst (v := 1) C.1 C.2.1 dX11_clear_62 (by decide) ?_
  refine goV (wf := (yw g)) (runV (w := yw g M9) (As := [.int v1, .int v2, .int 1]) (rest := []) C lkX11_326 (c_X11_hunts l g C.2.2.2.2.2.2.2.2.2.2 v1 v2 1  M9 _ hw) hP hS rfl rfl ⟨Nat.le_of_ble_eq_true rfl, Nat.le_of_ble_eq_true rfl⟩ (xx_40 Nat.zero_lt_one) rfl rfl hl.1 rfl (Nat.le_of_ble_eq_true rfl) dX11_clear_63) hS (fun M10 hw H locs hP hS => ?_)
  refine lv_aload_n C.1 C.2.1 dX11_clear_66 rfl (lv_at hl 0 rfl) ?_
  refine goV (wf := (yw g)) (runV (w := yw g M10) (As := []) (rest := []) C lkX11_335 (c_X11_asTold l g C.2.2.2.2.2.2.2.2.2.2   M10 _ hw) hP hS rfl rfl ⟨Nat.le_of_ble_eq_true rfl, Nat.le_of_ble_eq_true rfl⟩ (xx_40 Nat.zero_lt_one) rfl rfl hl.1 rfl (Nat.le_of_ble_eq_true rfl) dX11_clear_67) hS (fun M11 hw H locs hP hS => ?_)
  refine lv_aload_n C.1 C.2.1 dX11_clear_70 rfl (lv_at hl 0 rfl) ?_
  refine goI (wf := (yw g)) (runV (w := yw g M11) (As := []) (rest := []) C lkX11_329 (c_X11_isAcquired l g C.2.2.2.2.2.2.2.2.2.2   M11 _ hw) hP hS rfl rfl ⟨Nat.le_of_ble_eq_true rfl, Nat.le_of_ble_eq_true rfl⟩ (xx_40 Nat.zero_lt_one) rfl rfl hl.1 rfl (Nat.le_of_ble_eq_true rfl) dX11_clear_71) hS (fun r12 M12 hw H locs hP hS => ?_)
  obtain ⟨hw, hz12⟩ := hw
  refine lv_if_eq (tgt := 81) C.1 C.2.1 dX11_clear_74 (by decide) (fun h13 => ?_) (fun h13 => ?_)
  · have hw := hw.1 h13
    refine lv_iconst (v := 0) C.1 C.2.1 dX11_clear_81 (by decide) ?_
    exact retI (wf := (yw g)) C hP hS hw dX11_clear_82
  · have hw := hw.2 h13
    refine lv_iconst (v := 1) C.1 C.2.1 dX11_clear_77 (by decide) ?_
    refine lv_goto (tgt := 82) C.1 C.2.1 dX11_clear_78 (by decide) ?_
    exact retI (wf := (yw g)) C hP hS hw dX11_clear_82
def b_X11_clear_43 (Q : Int32 → Mem → Prop) (v1 : Int32) (v2 : Int32) (v3 : Int32) (s1 : Int32) (M : Mem) : Prop := (∀ M7 : Mem, M7 = sI M 40 0 22 s1 → ((¬ v3 = 0 → (b_X11_clear_56 Q v1 v2 v1 M7)) ∧ (v3 = 0 → (b_X11_clear_56 Q v1 v2 (-1) M7))))
set_option maxRecDepth 100000 in
set_option maxHeartbeats 4000000 in
theorem k_X11_clear_43 {p : Program} {l : Launch} {e : Env} {s : State} {m : MethodId} {args : Array Value} {below : List Frame} {meth : Method} {c : Code} {g : Geo} (C : CX g p s m args meth c cX11_clear 4 (some .int) RX11) {Q : Int32 → Mem → Prop} (v1 : Int32) (v2 : Int32) (v3 : Int32) (s1 : Int32) (M : Mem) (hw : b_X11_clear_43 Q v1 v2 v3 s1 M) {H : Heap} {locs : List Loc} {ls : Array Slot} (hl : lv_has ls 4 [(0, .ref (g.2.1 (138 + 0))), (1, .int v1), (2, .int v2), (3, .int v3)]) (hP : va_P g.1 clz (yw g M) H) (hS : va_S (Af 1 g) s.heap H locs) : W p l e ({ frames := 7, cells := 0, slots := 0, locals := 171 } : Room) s m args below meth c H locs 0 0 (MQ below (va_Qi Q (PB g (yw g)) (Af 1 g)) args s 0 0 (Af 1 g)) (F0 m 43 ls [.int s1, .ref (g.2.1 (138 + 0))]) := by
  unfold b_X11_clear_43 at hw
  refine pX11_134 C hP hS Nat.zero_lt_one dX11_clear_43 (fun M7 e7 H locs hP hS => ?_)
  have hw := hw M7 e7
  refine lv_aload_n C.1 C.2.1 dX11_clear_46 rfl (lv_at hl 0 rfl) ?_
  refine lv_iload_n C.1 C.2.1 dX11_clear_47 rfl (lv_at hl 3 rfl) ?_
  refine lv_if_ne (tgt := 55) C.1 C.2.1 dX11_clear_48 (by decide) (fun h8 => ?_) (fun h8 => ?_)
  · have hw := hw.1 h8
    refine lv_iload_n C.1 C.2.1 dX11_clear_55 rfl (lv_at hl 1 rfl) ?_
    exact k_X11_clear_56 (Q := Q) C v1 v2 v1  _ hw (lv_sub hl [0, 1, 2] rfl) hP hS
  · have hw := hw.2 h8
    refine lv_iconst (v := (-1)) C.1 C.2.1 dX11_clear_51 (by decide) ?_
    refine lv_goto (tgt := 56) C.1 C.2.1 dX11_clear_52 (by decide) ?_
    exact k_X11_clear_56 (Q := Q) C v1 v2 (-1)  _ hw (lv_sub hl [0, 1, 2] rfl) hP hS
def p_X11_clear (a1 : Int32) (a2 : Int32) (a3 : Int32) (M : Mem) (Q : Int32 → Mem → Prop) : Prop := (∀ M1 : Mem, M1 = sI M 40 0 2 0 → (p_X11_isRange a1 a2 1 M1 (fun r2 M2 => ((r2 = 0 → (Q (-1) M2)) ∧ (¬ r2 = 0 → (p_X11_isIn a3 0 2 M2 (fun r4 M4 => ((¬ r4 = 0 → ((¬ a3 = 1 → (b_X11_clear_43 Q a1 a2 a3 0 M4)) ∧ (a3 = 1 → (vp_in 9 34 ∧ (b_X11_clear_43 Q a1 a2 a3 ((M4.1 45 0 (9 : Int32).toNatClampNeg)) M4))))) ∧ (r4 = 0 → (Q (-1) M4))))))))))
set_option maxRecDepth 100000 in
set_option maxHeartbeats 4000000 in
theorem c_X11_clear (l : Launch) (g : Geo) (gi : GI g) (a1 : Int32) (a2 : Int32) (a3 : Int32) (M : Mem) (Q : Int32 → Mem → Prop) (hw : p_X11_clear a1 a2 a3 M Q) : Met l yX11_clear (Cond.code yX11_clear cX11_clear 4 (some .int) :: bg) ({ frames := 7, cells := 0, slots := 0, locals := 171 } : Room) (va_Pc [.ref (g.2.1 (138 + 0)), .int a1, .int a2, .int a3] (PW g (yw g M))) (va_Qi Q (PB g (yw g)) (Af 1 g)) 0 0 (Af 1 g) := by
  refine Met.ofW (cc := cX11_clear) (maxL := 4) (ret := (some .int)) (by decide +kernel) rfl ?_
  intro p e s m args below meth c s₁ B hml hv
  obtain ⟨rfl, hv⟩ := hv
  have C := CX.start (own := RX11) B hml rfl gi hv
  have hP := hv.1
  have hS : va_S (Af 1 g) s.heap s.heap [] := va_S.rf
  have hl := lv_entry ([.ref (g.2.1 (138 + 0)), .int a1, .int a2, .int a3]) (n := 4) (Nat.le_of_ble_eq_true rfl)
  rw [lg_entry_eq]
  generalize (lg_sl ([.ref (g.2.1 (138 + 0)), .int a1, .int a2, .int a3]) ++ List.replicate (4 - (lg_sl ([.ref (g.2.1 (138 + 0)), .int a1, .int a2, .int a3])).length) Slot.unset).toArray = ls at hl ⊢
  have hl : lv_has ls 4 [(0, .ref (g.2.1 (138 + 0))), (1, .int a1), (2, .int a2), (3, .int a3)] := hl
  unfold p_X11_clear at hw
  refine lv_aload_n C.1 C.2.1 dX11_clear_0 rfl (lv_at hl 0 rfl) ?_
  refine lv_iconst (v := 0) C.1 C.2.1 dX11_clear_1 (by decide) ?_
  refine pX11_76 C hP hS Nat.zero_lt_one dX11_clear_2 (fun M1 e1 H locs hP hS => ?_)
  have hw := hw M1 e1
  refine lv_aload_n C.1 C.2.1 dX11_clear_5 rfl (lv_at hl 0 rfl) ?_
  refine lv_iload_n C.1 C.2.1 dX11_clear_6 rfl (lv_at hl 1 rfl) ?_
  refine lv_iload_n C.1 C.2.1 dX11_clear_7 rfl (lv_at hl 2 rfl) ?_
  refine lv_iconst (v := 1) C.1 C.2.1 dX11_clear_8 (by decide) ?_
  refine goI (wf := (yw g)) (runV (w := yw g M1) (As := [.int a1, .int a2, .int 1]) (rest := []) C lkX11_323 (c_X11_isRange l g C.2.2.2.2.2.2.2.2.2.2 a1 a2 1  M1 _ hw) hP hS rfl rfl ⟨Nat.le_of_ble_eq_true rfl, Nat.le_of_ble_eq_true rfl⟩ (xx_40 Nat.zero_lt_one) rfl rfl hl.1 rfl (Nat.le_of_ble_eq_true rfl) dX11_clear_9) hS (fun r2 M2 hw H locs hP hS => ?_)
  obtain ⟨hw, hz2⟩ := hw
  refine lv_if_eq (tgt := 24) C.1 C.2.1 dX11_clear_12 (by decide) (fun h3 => ?_) (fun h3 => ?_)
  · have hw := hw.1 h3
    refine lv_iconst (v := (-1)) C.1 C.2.1 dX11_clear_24 (by decide) ?_
    exact retI (wf := (yw g)) C hP hS hw dX11_clear_25
  · have hw := hw.2 h3
    refine lv_iload_n C.1 C.2.1 dX11_clear_15 rfl (lv_at hl 3 rfl) ?_
    refine lv_iconst (v := 0) C.1 C.2.1 dX11_clear_16 (by decide) ?_
    refine lv_iconst (v := 2) C.1 C.2.1 dX11_clear_17 (by decide) ?_
    refine goI (wf := (yw g)) (runS (w := yw g M2) (As := [.int a3, .int 0, .int 2]) (rest := []) C lkX11_166 (c_X11_isIn l g C.2.2.2.2.2.2.2.2.2.2 a3 0 2  M2 _ hw) hP hS rfl rfl ⟨Nat.le_of_ble_eq_true rfl, Nat.le_of_ble_eq_true rfl⟩ hl.1 rfl (Nat.le_of_ble_eq_true rfl) dX11_clear_18) hS (fun r4 M4 hw H locs hP hS => ?_)
    obtain ⟨hw, hz4⟩ := hw
    refine lv_if_ne (tgt := 26) C.1 C.2.1 dX11_clear_21 (by decide) (fun h5 => ?_) (fun h5 => ?_)
    · have hw := hw.1 h5
      refine lv_aload_n C.1 C.2.1 dX11_clear_26 rfl (lv_at hl 0 rfl) ?_
      refine lv_iload_n C.1 C.2.1 dX11_clear_27 rfl (lv_at hl 3 rfl) ?_
      refine lv_iconst (v := 1) C.1 C.2.1 dX11_clear_28 (by decide) ?_
      refine lv_icmp_ne (tgt := 42) C.1 C.2.1 dX11_clear_29 (by decide) (fun h6 => ?_) (fun h6 => ?_)
      · have hw := hw.1 h6
        refine lv_iconst (v := 0) C.1 C.2.1 dX11_clear_42 (by decide) ?_
        exact k_X11_clear_43 (Q := Q) C a1 a2 a3 0  _ hw (lv_sub hl [0, 1, 2, 3] rfl) hP hS
      · have hw := hw.2 h6
        refine lv_aload_n C.1 C.2.1 dX11_clear_32 rfl (lv_at hl 0 rfl) ?_
        refine gX11_26 C hP Nat.zero_lt_one dX11_clear_33 ?_
        refine lv_bipush (v := 9) C.1 C.2.1 dX11_clear_36 (by decide) ?_
        obtain ⟨h14, hw⟩ := hw
        refine al_45 C hP Nat.zero_lt_one h14 dX11_clear_38 ?_
        refine lv_goto (tgt := 43) C.1 C.2.1 dX11_clear_39 (by decide) ?_
        exact k_X11_clear_43 (Q := Q) C a1 a2 a3 ((M4.1 45 0 (9 : Int32).toNatClampNeg))  _ hw (lv_sub hl [0, 1, 2, 3] rfl) hP hS
    · have hw := hw.2 h5
      refine lv_iconst (v := (-1)) C.1 C.2.1 dX11_clear_24 (by decide) ?_
      exact retI (wf := (yw g)) C hP hS hw dX11_clear_25
def b_X11_limit_68 (Q : Int32 → Mem → Prop) (v3 : Int32) (M : Mem) : Prop := (p_X11_asTold  M (fun M5 => (Q v3 M5)))
set_option maxRecDepth 100000 in
set_option maxHeartbeats 4000000 in
theorem k_X11_limit_68 {p : Program} {l : Launch} {e : Env} {s : State} {m : MethodId} {args : Array Value} {below : List Frame} {meth : Method} {c : Code} {g : Geo} (C : CX g p s m args meth c cX11_limit 5 (some .int) RX11) {Q : Int32 → Mem → Prop} (v3 : Int32) (M : Mem) (hw : b_X11_limit_68 Q v3 M) {H : Heap} {locs : List Loc} {ls : Array Slot} (hl : lv_has ls 5 [(0, .ref (g.2.1 (138 + 0))), (3, .int v3)]) (hP : va_P g.1 clz (yw g M) H) (hS : va_S (Af 1 g) s.heap H locs) : W p l e ({ frames := 7, cells := 0, slots := 0, locals := 171 } : Room) s m args below meth c H locs 0 0 (MQ below (va_Qi Q (PB g (yw g)) (Af 1 g)) args s 0 0 (Af 1 g)) (F0 m 68 ls []) := by
  unfold b_X11_limit_68 at hw
  refine lv_aload_n C.1 C.2.1 dX11_limit_68 rfl (lv_at hl 0 rfl) ?_
  refine goV (wf := (yw g)) (runV (w := yw g M) (As := []) (rest := []) C lkX11_335 (c_X11_asTold l g C.2.2.2.2.2.2.2.2.2.2   M _ hw) hP hS rfl rfl ⟨Nat.le_of_ble_eq_true rfl, Nat.le_of_ble_eq_true rfl⟩ (xx_40 Nat.zero_lt_one) rfl rfl hl.1 rfl (Nat.le_of_ble_eq_true rfl) dX11_limit_69) hS (fun M5 hw H locs hP hS => ?_)
  refine lv_iload_n C.1 C.2.1 dX11_limit_72 rfl (lv_at hl 1 rfl) ?_
  exact retI (wf := (yw g)) C hP hS hw dX11_limit_73
def b_X11_limit_61 (Q : Int32 → Mem → Prop) (k23 : Int32 → Int32 → Int32 → Int32 → Mem → Prop) (v1 : Int32) (v2 : Int32) (v4 : Int32) (s0 : Int32) (M : Mem) : Prop := (∀ x11 : Int32, x11 = (v4 + 9) → (k23 v1 v2 s0 x11 M))
set_option maxRecDepth 100000 in
set_option maxHeartbeats 4000000 in
theorem k_X11_limit_61 {p : Program} {l : Launch} {e : Env} {s : State} {m : MethodId} {args : Array Value} {below : List Frame} {meth : Method} {c : Code} {g : Geo} (C : CX g p s m args meth c cX11_limit 5 (some .int) RX11) {Q : Int32 → Mem → Prop} {k23 : Int32 → Int32 → Int32 → Int32 → Mem → Prop} (hk23 : ∀ (v1 : Int32) (v2 : Int32) (v3 : Int32) (v4 : Int32) (M : Mem), k23 v1 v2 v3 v4 M → ∀ (H : Heap) (locs : List Loc) (ls : Array Slot), lv_has ls 5 [(0, .ref (g.2.1 (138 + 0))), (1, .int v1), (2, .int v2), (3, .int v3), (4, .int v4)] → va_P g.1 clz (yw g M) H → va_S (Af 1 g) s.heap H locs → W p l e ({ frames := 7, cells := 0, slots := 0, locals := 171 } : Room) s m args below meth c H locs 0 0 (MQ below (va_Qi Q (PB g (yw g)) (Af 1 g)) args s 0 0 (Af 1 g)) (F0 m 23 ls [])) (v1 : Int32) (v2 : Int32) (v4 : Int32) (s0 : Int32) (M : Mem) (hw : b_X11_limit_61 Q k23 v1 v2 v4 s0 M) {H : Heap} {locs : List Loc} {ls : Array Slot} (hl : lv_has ls 5 [(0, .ref (g.2.1 (138 + 0))), (1, .int v1), (2, .int v2), (4, .int v4)]) (hP : va_P g.1 clz (yw g M) H) (hS : va_S (Af 1 g) s.heap H locs) : W p l e ({ frames := 7, cells := 0, slots := 0, locals := 171 } : Room) s m args below meth c H locs 0 0 (MQ below (va_Qi Q (PB g (yw g)) (Af 1 g)) args s 0 0 (Af 1 g)) (F0 m 61 ls [.int s0]) := by
  unfold b_X11_limit_61 at hw
  refine lv_istore_n (lv' := [(3, .int s0), (0, .ref (g.2.1 (138 + 0))), (1, .int v1), (2, .int v2), (4, .int v4)]) C.1 C.2.1 dX11_limit_61 rfl hl (by decide) rfl (fun ls hl => ?_)
  obtain ⟨x11, e11⟩ : ∃ y : Int32, y = (v4 + 9) := ⟨_, rfl⟩
  have hw := hw x11 e11
  refine lv_iinc (v := x11) (lv' := [(4, .int x11), (3, .int s0), (0, .ref (g.2.1 (138 + 0))), (1, .int v1), (2, .int v2)]) C.1 C.2.1 dX11_limit_62 hl (k := 4) rfl (by rw [e11]; rfl) (by decide) rfl (fun ls hl => ?_)
  refine lv_goto (tgt := 23) C.1 C.2.1 dX11_limit_65 (by decide) ?_
  exact hk23 v1 v2 s0 x11  _ hw _ _ _ (lv_sub hl [2, 3, 4, 1, 0] rfl) hP hS
def b_X11_limit_23 (Q : Int32 → Mem → Prop) : Nat → Int32 → Int32 → Int32 → Int32 → Mem → Prop
  | 0, _, _, _, _, _ => False
  | n + 1, v1, v2, v3, v4, M => ((99 < v4 → (b_X11_limit_68 Q v3 M)) ∧ (¬ 99 < v4 → ((0 ≤ v3 → (b_X11_limit_68 Q v3 M)) ∧ (¬ 0 ≤ v3 → (∀ M7 : Mem, M7 = sI M 40 0 22 v4 → (p_X11_hunts v1 v2 1 M7 (fun M8 => (p_X11_isAcquired  M8 (fun r9 M9 => ((r9 = 0 → (b_X11_limit_61 Q (fun v1 v2 v3 v4 M => b_X11_limit_23 Q n v1 v2 v3 v4 M) v1 v2 v4 v4 M9)) ∧ (¬ r9 = 0 → (b_X11_limit_61 Q (fun v1 v2 v3 v4 M => b_X11_limit_23 Q n v1 v2 v3 v4 M) v1 v2 v4 (-2) M9))))))))))))
set_option maxRecDepth 100000 in
set_option maxHeartbeats 4000000 in
theorem k_X11_limit_23 {p : Program} {l : Launch} {e : Env} {s : State} {m : MethodId} {args : Array Value} {below : List Frame} {meth : Method} {c : Code} {g : Geo} (C : CX g p s m args meth c cX11_limit 5 (some .int) RX11) {Q : Int32 → Mem → Prop} : ∀ (n : Nat) (v1 : Int32) (v2 : Int32) (v3 : Int32) (v4 : Int32) (M : Mem) (hw : b_X11_limit_23 Q n v1 v2 v3 v4 M) {H : Heap} {locs : List Loc} {ls : Array Slot} (hl : lv_has ls 5 [(0, .ref (g.2.1 (138 + 0))), (1, .int v1), (2, .int v2), (3, .int v3), (4, .int v4)]) (hP : va_P g.1 clz (yw g M) H) (hS : va_S (Af 1 g) s.heap H locs), W p l e ({ frames := 7, cells := 0, slots := 0, locals := 171 } : Room) s m args below meth c H locs 0 0 (MQ below (va_Qi Q (PB g (yw g)) (Af 1 g)) args s 0 0 (Af 1 g)) (F0 m 23 ls []) := by
  intro n
  induction n with
  | zero => intro v1 v2 v3 v4 M hw H locs ls hl hP hS; exact absurd hw (by rw [b_X11_limit_23]; exact fun h => h)
  | succ n ih =>
    intro v1 v2 v3 v4 M hw H locs ls hl hP hS
    rw [b_X11_limit_23] at hw
    refine lv_iload C.1 C.2.1 dX11_limit_23 (lv_at hl 4 rfl) ?_
    refine lv_bipush (v := 99) C.1 C.2.1 dX11_limit_25 (by decide) ?_
    refine lv_icmp_gt (tgt := 68) C.1 C.2.1 dX11_limit_27 (by decide) (fun h4 => ?_) (fun h4 => ?_)
    · have hw := hw.1 h4
      exact k_X11_limit_68 (Q := Q) C v3  _ hw (lv_sub hl [0, 3] rfl) hP hS
    · have hw := hw.2 h4
      refine lv_iload_n C.1 C.2.1 dX11_limit_30 rfl (lv_at hl 3 rfl) ?_
      refine lv_if_ge (tgt := 68) C.1 C.2.1 dX11_limit_31 (by decide) (fun h6 => ?_) (fun h6 => ?_)
      · have hw := hw.1 h6
        exact k_X11_limit_68 (Q := Q) C v3  _ hw (lv_sub hl [0, 3] rfl) hP hS
      · have hw := hw.2 h6
        refine lv_aload_n C.1 C.2.1 dX11_limit_34 rfl (lv_at hl 0 rfl) ?_
        refine lv_iload C.1 C.2.1 dX11_limit_35 (lv_at hl 4 rfl) ?_
        refine pX11_134 C hP hS Nat.zero_lt_one dX11_limit_37 (fun M7 e7 H locs hP hS => ?_)
        have hw := hw M7 e7
        refine lv_aload_n C.1 C.2.1 dX11_limit_40 rfl (lv_at hl 0 rfl) ?_
        refine lv_iload_n C.1 C.2.1 dX11_limit_41 rfl (lv_at hl 1 rfl) ?_
        refine lv_iload_n C.1 C.2.1 dX11_limit_42 rfl (lv_at hl 2 rfl) ?_
        refine lv_iconst (v := 1) C.1 C.2.1 dX11_limit_43 (by decide) ?_
        refine goV (wf := (yw g)) (runV (w := yw g M7) (As := [.int v1, .int v2, .int 1]) (rest := []) C lkX11_326 (c_X11_hunts l g C.2.2.2.2.2.2.2.2.2.2 v1 v2 1  M7 _ hw) hP hS rfl rfl ⟨Nat.le_of_ble_eq_true rfl, Nat.le_of_ble_eq_true rfl⟩ (xx_40 Nat.zero_lt_one) rfl rfl hl.1 rfl (Nat.le_of_ble_eq_true rfl) dX11_limit_44) hS (fun M8 hw H locs hP hS => ?_)
        refine lv_aload_n C.1 C.2.1 dX11_limit_47 rfl (lv_at hl 0 rfl) ?_
        refine goI (wf := (yw g)) (runV (w := yw g M8) (As := []) (rest := []) C lkX11_329 (c_X11_isAcquired l g C.2.2.2.2.2.2.2.2.2.2   M8 _ hw) hP hS rfl rfl ⟨Nat.le_of_ble_eq_true rfl, Nat.le_of_ble_eq_true rfl⟩ (xx_40 Nat.zero_lt_one) rfl rfl hl.1 rfl (Nat.le_of_ble_eq_true rfl) dX11_limit_48) hS (fun r9 M9 hw H locs hP hS => ?_)
        obtain ⟨hw, hz9⟩ := hw
        refine lv_if_eq (tgt := 59) C.1 C.2.1 dX11_limit_51 (by decide) (fun h10 => ?_) (fun h10 => ?_)
        · have hw := hw.1 h10
          refine lv_iload C.1 C.2.1 dX11_limit_59 (lv_at hl 4 rfl) ?_
          exact k_X11_limit_61 (Q := Q) C (fun v1 v2 v3 v4  M hw H locs ls hl hP hS => ih v1 v2 v3 v4  M hw hl hP hS) v1 v2 v4 v4  _ hw (lv_sub hl [0, 1, 2, 4] rfl) hP hS
        · have hw := hw.2 h10
          refine lv_bipush (v := (-2)) C.1 C.2.1 dX11_limit_54 (by decide) ?_
          refine lv_goto (tgt := 61) C.1 C.2.1 dX11_limit_56 (by decide) ?_
          exact k_X11_limit_61 (Q := Q) C (fun v1 v2 v3 v4  M hw H locs ls hl hP hS => ih v1 v2 v3 v4  M hw hl hP hS) v1 v2 v4 (-2)  _ hw (lv_sub hl [0, 1, 2, 4] rfl) hP hS
def p_X11_limit (a1 : Int32) (a2 : Int32) (M : Mem) (Q : Int32 → Mem → Prop) : Prop := (∀ M1 : Mem, M1 = sI M 40 0 2 0 → (p_X11_isRange a1 a2 1 M1 (fun r2 M2 => ((¬ r2 = 0 → (∃ n23 : Nat, b_X11_limit_23 Q n23 a1 a2 (-2) 0 M2)) ∧ (r2 = 0 → (Q (-1) M2))))))
set_option maxRecDepth 100000 in
set_option maxHeartbeats 4000000 in
theorem c_X11_limit (l : Launch) (g : Geo) (gi : GI g) (a1 : Int32) (a2 : Int32) (M : Mem) (Q : Int32 → Mem → Prop) (hw : p_X11_limit a1 a2 M Q) : Met l yX11_limit (Cond.code yX11_limit cX11_limit 5 (some .int) :: bg) ({ frames := 7, cells := 0, slots := 0, locals := 171 } : Room) (va_Pc [.ref (g.2.1 (138 + 0)), .int a1, .int a2] (PW g (yw g M))) (va_Qi Q (PB g (yw g)) (Af 1 g)) 0 0 (Af 1 g) := by
  refine Met.ofW (cc := cX11_limit) (maxL := 5) (ret := (some .int)) (by decide +kernel) rfl ?_
  intro p e s m args below meth c s₁ B hml hv
  obtain ⟨rfl, hv⟩ := hv
  have C := CX.start (own := RX11) B hml rfl gi hv
  have hP := hv.1
  have hS : va_S (Af 1 g) s.heap s.heap [] := va_S.rf
  have hl := lv_entry ([.ref (g.2.1 (138 + 0)), .int a1, .int a2]) (n := 5) (Nat.le_of_ble_eq_true rfl)
  rw [lg_entry_eq]
  generalize (lg_sl ([.ref (g.2.1 (138 + 0)), .int a1, .int a2]) ++ List.replicate (5 - (lg_sl ([.ref (g.2.1 (138 + 0)), .int a1, .int a2])).length) Slot.unset).toArray = ls at hl ⊢
  have hl : lv_has ls 5 [(0, .ref (g.2.1 (138 + 0))), (1, .int a1), (2, .int a2)] := hl
  unfold p_X11_limit at hw
  refine lv_aload_n C.1 C.2.1 dX11_limit_0 rfl (lv_at hl 0 rfl) ?_
  refine lv_iconst (v := 0) C.1 C.2.1 dX11_limit_1 (by decide) ?_
  refine pX11_76 C hP hS Nat.zero_lt_one dX11_limit_2 (fun M1 e1 H locs hP hS => ?_)
  have hw := hw M1 e1
  refine lv_aload_n C.1 C.2.1 dX11_limit_5 rfl (lv_at hl 0 rfl) ?_
  refine lv_iload_n C.1 C.2.1 dX11_limit_6 rfl (lv_at hl 1 rfl) ?_
  refine lv_iload_n C.1 C.2.1 dX11_limit_7 rfl (lv_at hl 2 rfl) ?_
  refine lv_iconst (v := 1) C.1 C.2.1 dX11_limit_8 (by decide) ?_
  refine goI (wf := (yw g)) (runV (w := yw g M1) (As := [.int a1, .int a2, .int 1]) (rest := []) C lkX11_323 (c_X11_isRange l g C.2.2.2.2.2.2.2.2.2.2 a1 a2 1  M1 _ hw) hP hS rfl rfl ⟨Nat.le_of_ble_eq_true rfl, Nat.le_of_ble_eq_true rfl⟩ (xx_40 Nat.zero_lt_one) rfl rfl hl.1 rfl (Nat.le_of_ble_eq_true rfl) dX11_limit_9) hS (fun r2 M2 hw H locs hP hS => ?_)
  obtain ⟨hw, hz2⟩ := hw
  refine lv_if_ne (tgt := 17) C.1 C.2.1 dX11_limit_12 (by decide) (fun h3 => ?_) (fun h3 => ?_)
  · have hw := hw.1 h3
    refine lv_bipush (v := (-2)) C.1 C.2.1 dX11_limit_17 (by decide) ?_
    refine lv_istore_n (lv' := [(3, .int (-2)), (0, .ref (g.2.1 (138 + 0))), (1, .int a1), (2, .int a2)]) C.1 C.2.1 dX11_limit_19 rfl hl (by decide) rfl (fun ls hl => ?_)
    refine lv_iconst (v := 0) C.1 C.2.1 dX11_limit_20 (by decide) ?_
    refine lv_istore (lv' := [(4, .int 0), (3, .int (-2)), (0, .ref (g.2.1 (138 + 0))), (1, .int a1), (2, .int a2)]) C.1 C.2.1 dX11_limit_21 hl (by decide) rfl (fun ls hl => ?_)
    obtain ⟨n9, hw⟩ := hw
    exact k_X11_limit_23 (Q := Q) C n9 a1 a2 (-2) 0  _ hw (lv_sub hl [2, 3, 4, 1, 0] rfl) hP hS
  · have hw := hw.2 h3
    refine lv_iconst (v := (-1)) C.1 C.2.1 dX11_limit_15 (by decide) ?_
    exact retI (wf := (yw g)) C hP hS hw dX11_limit_16
def b_X11_chance_121 (Q : Int32 → Mem → Prop) (v7 : Int32) (M : Mem) : Prop := (p_X11_asTold  M (fun M11 => (Q v7 M11)))
set_option maxRecDepth 100000 in
set_option maxHeartbeats 4000000 in
theorem k_X11_chance_121 {p : Program} {l : Launch} {e : Env} {s : State} {m : MethodId} {args : Array Value} {below : List Frame} {meth : Method} {c : Code} {g : Geo} (C : CX g p s m args meth c cX11_chance 9 (some .int) RX11) {Q : Int32 → Mem → Prop} (v7 : Int32) (M : Mem) (hw : b_X11_chance_121 Q v7 M) {H : Heap} {locs : List Loc} {ls : Array Slot} (hl : lv_has ls 9 [(0, .ref (g.2.1 (138 + 0))), (7, .int v7)]) (hP : va_P g.1 clz (yw g M) H) (hS : va_S (Af 1 g) s.heap H locs) : W p l e ({ frames := 7, cells := 0, slots := 0, locals := 171 } : Room) s m args below meth c H locs 0 0 (MQ below (va_Qi Q (PB g (yw g)) (Af 1 g)) args s 0 0 (Af 1 g)) (F0 m 121 ls []) := by
  unfold b_X11_chance_121 at hw
  refine lv_aload_n C.1 C.2.1 dX11_chance_121 rfl (lv_at hl 0 rfl) ?_
  refine goV (wf := (yw g)) (runV (w := yw g M) (As := []) (rest := []) C lkX11_335 (c_X11_asTold l g C.2.2.2.2.2.2.2.2.2.2   M _ hw) hP hS rfl rfl ⟨Nat.le_of_ble_eq_true rfl, Nat.le_of_ble_eq_true rfl⟩ (xx_40 Nat.zero_lt_one) rfl rfl hl.1 rfl (Nat.le_of_ble_eq_true rfl) dX11_chance_122) hS (fun M11 hw H locs hP hS => ?_)
  refine lv_iload C.1 C.2.1 dX11_chance_125 (lv_at hl 1 rfl) ?_
  exact retI (wf := (yw g)) C hP hS hw dX11_chance_127
def b_X11_chance_111 (Q : Int32 → Mem → Prop) (k112 : Int32 → Int32 → Int32 → Int32 → Int64 → Int32 → Int32 → Int32 → Mem → Prop) (v1 : Int32) (v2 : Int32) (v3 : Int32) (v4 : Int32) (v5 : Int64) (v8 : Int32) (s0 : Int32) (M : Mem) : Prop := (k112 v1 v2 v3 v4 v5 v8 s0 0 M)
set_option maxRecDepth 100000 in
set_option maxHeartbeats 4000000 in
theorem k_X11_chance_111 {p : Program} {l : Launch} {e : Env} {s : State} {m : MethodId} {args : Array Value} {below : List Frame} {meth : Method} {c : Code} {g : Geo} (C : CX g p s m args meth c cX11_chance 9 (some .int) RX11) {Q : Int32 → Mem → Prop} {k112 : Int32 → Int32 → Int32 → Int32 → Int64 → Int32 → Int32 → Int32 → Mem → Prop} (hk112 : ∀ (v1 : Int32) (v2 : Int32) (v3 : Int32) (v4 : Int32) (v5 : Int64) (v8 : Int32) (s0 : Int32) (s1 : Int32) (M : Mem), k112 v1 v2 v3 v4 v5 v8 s0 s1 M → ∀ (H : Heap) (locs : List Loc) (ls : Array Slot), lv_has ls 9 [(0, .ref (g.2.1 (138 + 0))), (1, .int v1), (2, .int v2), (3, .int v3), (4, .int v4), (5, .long v5), (8, .int v8)] → va_P g.1 clz (yw g M) H → va_S (Af 1 g) s.heap H locs → W p l e ({ frames := 7, cells := 0, slots := 0, locals := 171 } : Room) s m args below meth c H locs 0 0 (MQ below (va_Qi Q (PB g (yw g)) (Af 1 g)) args s 0 0 (Af 1 g)) (F0 m 112 ls [.int s1, .int s0])) (v1 : Int32) (v2 : Int32) (v3 : Int32) (v4 : Int32) (v5 : Int64) (v8 : Int32) (s0 : Int32) (M : Mem) (hw : b_X11_chance_111 Q k112 v1 v2 v3 v4 v5 v8 s0 M) {H : Heap} {locs : List Loc} {ls : Array Slot} (hl : lv_has ls 9 [(0, .ref (g.2.1 (138 + 0))), (1, .int v1), (2, .int v2), (3, .int v3), (4, .int v4), (5, .long v5), (8, .int v8)]) (hP : va_P g.1 clz (yw g M) H) (hS : va_S (Af 1 g) s.heap H locs) : W p l e ({ frames := 7, cells := 0, slots := 0, locals := 171 } : Room) s m args below meth c H locs 0 0 (MQ below (va_Qi Q (PB g (yw g)) (Af 1 g)) args s 0 0 (Af 1 g)) (F0 m 111 ls [.int s0]) := by
  unfold b_X11_chance_111 at hw
  refine lv_iconst (v := 0) C.1 C.2.1 dX11_chance_111 (by decide) ?_
  exact hk112 v1 v2 v3 v4 v5 v8 s0 0  _ hw _ _ _ (lv_sub hl [0, 1, 2, 3, 4, 5, 6] rfl) hP hS
def b_X11_chance_112 (Q : Int32 → Mem → Prop) (k53 : Int32 → Int32 → Int32 → Int32 → Int64 → Int32 → Int32 → Mem → Prop) (v1 : Int32) (v2 : Int32) (v3 : Int32) (v4 : Int32) (v5 : Int64) (v8 : Int32) (s0 : Int32) (s1 : Int32) (M : Mem) : Prop := (∀ x17 : Int32, x17 = (s0 + s1) → (∀ x18 : Int32, x18 = (v8 + 1) → (k53 v1 v2 v3 v4 v5 x17 x18 M)))
set_option maxRecDepth 100000 in
set_option maxHeartbeats 4000000 in
theorem k_X11_chance_112 {p : Program} {l : Launch} {e : Env} {s : State} {m : MethodId} {args : Array Value} {below : List Frame} {meth : Method} {c : Code} {g : Geo} (C : CX g p s m args meth c cX11_chance 9 (some .int) RX11) {Q : Int32 → Mem → Prop} {k53 : Int32 → Int32 → Int32 → Int32 → Int64 → Int32 → Int32 → Mem → Prop} (hk53 : ∀ (v1 : Int32) (v2 : Int32) (v3 : Int32) (v4 : Int32) (v5 : Int64) (v7 : Int32) (v8 : Int32) (M : Mem), k53 v1 v2 v3 v4 v5 v7 v8 M → ∀ (H : Heap) (locs : List Loc) (ls : Array Slot), lv_has ls 9 [(0, .ref (g.2.1 (138 + 0))), (1, .int v1), (2, .int v2), (3, .int v3), (4, .int v4), (5, .long v5), (7, .int v7), (8, .int v8)] → va_P g.1 clz (yw g M) H → va_S (Af 1 g) s.heap H locs → W p l e ({ frames := 7, cells := 0, slots := 0, locals := 171 } : Room) s m args below meth c H locs 0 0 (MQ below (va_Qi Q (PB g (yw g)) (Af 1 g)) args s 0 0 (Af 1 g)) (F0 m 53 ls [])) (v1 : Int32) (v2 : Int32) (v3 : Int32) (v4 : Int32) (v5 : Int64) (v8 : Int32) (s0 : Int32) (s1 : Int32) (M : Mem) (hw : b_X11_chance_112 Q k53 v1 v2 v3 v4 v5 v8 s0 s1 M) {H : Heap} {locs : List Loc} {ls : Array Slot} (hl : lv_has ls 9 [(0, .ref (g.2.1 (138 + 0))), (1, .int v1), (2, .int v2), (3, .int v3), (4, .int v4), (5, .long v5), (8, .int v8)]) (hP : va_P g.1 clz (yw g M) H) (hS : va_S (Af 1 g) s.heap H locs) : W p l e ({ frames := 7, cells := 0, slots := 0, locals := 171 } : Room) s m args below meth c H locs 0 0 (MQ below (va_Qi Q (PB g (yw g)) (Af 1 g)) args s 0 0 (Af 1 g)) (F0 m 112 ls [.int s1, .int s0]) := by
  unfold b_X11_chance_112 at hw
  refine lv_iadd C.1 C.2.1 dX11_chance_112 ?_
  refine lv_topi (fun x17 e17 => ?_)
  have hw := hw x17 e17
  refine lv_istore (lv' := [(7, .int x17), (0, .ref (g.2.1 (138 + 0))), (1, .int v1), (2, .int v2), (3, .int v3), (4, .int v4), (5, .long v5), (8, .int v8)]) C.1 C.2.1 dX11_chance_113 hl (by decide) rfl (fun ls hl => ?_)
  obtain ⟨x18, e18⟩ : ∃ y : Int32, y = (v8 + 1) := ⟨_, rfl⟩
  have hw := hw x18 e18
  refine lv_iinc (v := x18) (lv' := [(8, .int x18), (7, .int x17), (0, .ref (g.2.1 (138 + 0))), (1, .int v1), (2, .int v2), (3, .int v3), (4, .int v4), (5, .long v5)]) C.1 C.2.1 dX11_chance_115 hl (k := 7) rfl (by rw [e18]; rfl) (by decide) rfl (fun ls hl => ?_)
  refine lv_goto (tgt := 53) C.1 C.2.1 dX11_chance_118 (by decide) ?_
  exact hk53 v1 v2 v3 v4 v5 x17 x18  _ hw _ _ _ (lv_sub hl [2, 3, 4, 5, 6, 7, 1, 0] rfl) hP hS
def b_X11_chance_107 (Q : Int32 → Mem → Prop) (k112 : Int32 → Int32 → Int32 → Int32 → Int64 → Int32 → Int32 → Int32 → Mem → Prop) (v1 : Int32) (v2 : Int32) (v3 : Int32) (v4 : Int32) (v5 : Int64) (v8 : Int32) (s0 : Int32) (M : Mem) : Prop := (k112 v1 v2 v3 v4 v5 v8 s0 1 M)
set_option maxRecDepth 100000 in
set_option maxHeartbeats 4000000 in
theorem k_X11_chance_107 {p : Program} {l : Launch} {e : Env} {s : State} {m : MethodId} {args : Array Value} {below : List Frame} {meth : Method} {c : Code} {g : Geo} (C : CX g p s m args meth c cX11_chance 9 (some .int) RX11) {Q : Int32 → Mem → Prop} {k112 : Int32 → Int32 → Int32 → Int32 → Int64 → Int32 → Int32 → Int32 → Mem → Prop} (hk112 : ∀ (v1 : Int32) (v2 : Int32) (v3 : Int32) (v4 : Int32) (v5 : Int64) (v8 : Int32) (s0 : Int32) (s1 : Int32) (M : Mem), k112 v1 v2 v3 v4 v5 v8 s0 s1 M → ∀ (H : Heap) (locs : List Loc) (ls : Array Slot), lv_has ls 9 [(0, .ref (g.2.1 (138 + 0))), (1, .int v1), (2, .int v2), (3, .int v3), (4, .int v4), (5, .long v5), (8, .int v8)] → va_P g.1 clz (yw g M) H → va_S (Af 1 g) s.heap H locs → W p l e ({ frames := 7, cells := 0, slots := 0, locals := 171 } : Room) s m args below meth c H locs 0 0 (MQ below (va_Qi Q (PB g (yw g)) (Af 1 g)) args s 0 0 (Af 1 g)) (F0 m 112 ls [.int s1, .int s0])) (v1 : Int32) (v2 : Int32) (v3 : Int32) (v4 : Int32) (v5 : Int64) (v8 : Int32) (s0 : Int32) (M : Mem) (hw : b_X11_chance_107 Q k112 v1 v2 v3 v4 v5 v8 s0 M) {H : Heap} {locs : List Loc} {ls : Array Slot} (hl : lv_has ls 9 [(0, .ref (g.2.1 (138 + 0))), (1, .int v1), (2, .int v2), (3, .int v3), (4, .int v4), (5, .long v5), (8, .int v8)]) (hP : va_P g.1 clz (yw g M) H) (hS : va_S (Af 1 g) s.heap H locs) : W p l e ({ frames := 7, cells := 0, slots := 0, locals := 171 } : Room) s m args below meth c H locs 0 0 (MQ below (va_Qi Q (PB g (yw g)) (Af 1 g)) args s 0 0 (Af 1 g)) (F0 m 107 ls [.int s0]) := by
  unfold b_X11_chance_107 at hw
  refine lv_iconst (v := 1) C.1 C.2.1 dX11_chance_107 (by decide) ?_
  refine lv_goto (tgt := 112) C.1 C.2.1 dX11_chance_108 (by decide) ?_
  exact hk112 v1 v2 v3 v4 v5 v8 s0 1  _ hw _ _ _ (lv_sub hl [0, 1, 2, 3, 4, 5, 6] rfl) hP hS
def b_X11_chance_53 (Q : Int32 → Mem → Prop) : Nat → Int32 → Int32 → Int32 → Int32 → Int64 → Int32 → Int32 → Mem → Prop
  | 0, _, _, _, _, _, _, _, _ => False
  | n + 1, v1, v2, v3, v4, v5, v7, v8, M => ((v3 ≤ v8 → (b_X11_chance_121 Q v7 M)) ∧ (¬ v3 ≤ v8 → (p_X11_made v5 M (fun r12 M12 => (∀ M13 : Mem, M13 = sI M12 40 0 23 ((r12 - r12 / 100000 * 100000) : Int64).toInt32 → (p_X11_hunts v1 v2 1 M13 (fun M14 => (p_X11_isAcquired  M14 (fun r15 M15 => ((r15 = 0 → (b_X11_chance_111 Q (fun v1 v2 v3 v4 v5 v8 s0 s1 M => b_X11_chance_112 Q (fun v1 v2 v3 v4 v5 v7 v8 M => b_X11_chance_53 Q n v1 v2 v3 v4 v5 v7 v8 M) v1 v2 v3 v4 v5 v8 s0 s1 M) v1 v2 v3 v4 r12 v8 v7 M15)) ∧ (¬ r15 = 0 → ((v4 = 0 → (b_X11_chance_107 Q (fun v1 v2 v3 v4 v5 v8 s0 s1 M => b_X11_chance_112 Q (fun v1 v2 v3 v4 v5 v7 v8 M => b_X11_chance_53 Q n v1 v2 v3 v4 v5 v7 v8 M) v1 v2 v3 v4 v5 v8 s0 s1 M) v1 v2 v3 v4 r12 v8 v7 M15)) ∧ (¬ v4 = 0 → (p_X11_isTrue v1 v2 M15 (fun r20 M20 => ((r20 = 0 → (b_X11_chance_111 Q (fun v1 v2 v3 v4 v5 v8 s0 s1 M => b_X11_chance_112 Q (fun v1 v2 v3 v4 v5 v7 v8 M => b_X11_chance_53 Q n v1 v2 v3 v4 v5 v7 v8 M) v1 v2 v3 v4 v5 v8 s0 s1 M) v1 v2 v3 v4 r12 v8 v7 M20)) ∧ (¬ r20 = 0 → (b_X11_chance_107 Q (fun v1 v2 v3 v4 v5 v8 s0 s1 M => b_X11_chance_112 Q (fun v1 v2 v3 v4 v5 v7 v8 M => b_X11_chance_53 Q n v1 v2 v3 v4 v5 v7 v8 M) v1 v2 v3 v4 v5 v8 s0 s1 M) v1 v2 v3 v4 r12 v8 v7 M20))))))))))))))))))
set_option maxRecDepth 100000 in
set_option maxHeartbeats 4000000 in
theorem k_X11_chance_53 {p : Program} {l : Launch} {e : Env} {s : State} {m : MethodId} {args : Array Value} {below : List Frame} {meth : Method} {c : Code} {g : Geo} (C : CX g p s m args meth c cX11_chance 9 (some .int) RX11) {Q : Int32 → Mem → Prop} : ∀ (n : Nat) (v1 : Int32) (v2 : Int32) (v3 : Int32) (v4 : Int32) (v5 : Int64) (v7 : Int32) (v8 : Int32) (M : Mem) (hw : b_X11_chance_53 Q n v1 v2 v3 v4 v5 v7 v8 M) {H : Heap} {locs : List Loc} {ls : Array Slot} (hl : lv_has ls 9 [(0, .ref (g.2.1 (138 + 0))), (1, .int v1), (2, .int v2), (3, .int v3), (4, .int v4), (5, .long v5), (7, .int v7), (8, .int v8)]) (hP : va_P g.1 clz (yw g M) H) (hS : va_S (Af 1 g) s.heap H locs), W p l e ({ frames := 7, cells := 0, slots := 0, locals := 171 } : Room) s m args below meth c H locs 0 0 (MQ below (va_Qi Q (PB g (yw g)) (Af 1 g)) args s 0 0 (Af 1 g)) (F0 m 53 ls []) := by
  intro n
  induction n with
  | zero => intro v1 v2 v3 v4 v5 v7 v8 M hw H locs ls hl hP hS; exact absurd hw (by rw [b_X11_chance_53]; exact fun h => h)
  | succ n ih =>
    intro v1 v2 v3 v4 v5 v7 v8 M hw H locs ls hl hP hS
    rw [b_X11_chance_53] at hw
    refine lv_iload C.1 C.2.1 dX11_chance_53 (lv_at hl 7 rfl) ?_
    refine lv_iload_n C.1 C.2.1 dX11_chance_55 rfl (lv_at hl 3 rfl) ?_
    refine lv_icmp_ge (tgt := 121) C.1 C.2.1 dX11_chance_56 (by decide) (fun h10 => ?_) (fun h10 => ?_)
    · have hw := hw.1 h10
      exact k_X11_chance_121 (Q := Q) C v7  _ hw (lv_sub hl [0, 6] rfl) hP hS
    · have hw := hw.2 h10
      refine lv_lload C.1 C.2.1 dX11_chance_59 (lv_at hl 5 rfl) ?_
      refine goL (wf := (yw g)) (runS (w := yw g M) (As := [.long v5]) (rest := []) C lkX11_263 (c_X11_made l g C.2.2.2.2.2.2.2.2.2.2 v5  M _ hw) hP hS rfl rfl ⟨Nat.le_of_ble_eq_true rfl, Nat.le_of_ble_eq_true rfl⟩ hl.1 rfl (Nat.le_of_ble_eq_true rfl) dX11_chance_61) hS (fun r12 M12 hw H locs hP hS => ?_)
      refine lv_lstore (lv' := [(5, .long r12), (0, .ref (g.2.1 (138 + 0))), (1, .int v1), (2, .int v2), (3, .int v3), (4, .int v4), (7, .int v7), (8, .int v8)]) C.1 C.2.1 dX11_chance_64 hl (by decide) rfl (fun ls hl => ?_)
      refine lv_aload_n C.1 C.2.1 dX11_chance_66 rfl (lv_at hl 1 rfl) ?_
      refine lv_lload C.1 C.2.1 dX11_chance_67 (lv_at hl 0 rfl) ?_
      refine lv_ldc2 (v := 100000) C.1 C.2.1 C.2.2.2.2.1 (C.2.2.2.2.2.1 _ (bg_of 1732 (by decide +kernel) rfl)) dX11_chance_69 ?_
      refine lv_lrem C.1 C.2.1 dX11_chance_72 (by decide) ?_
      refine lv_l2i C.1 C.2.1 dX11_chance_73 rfl ?_
      refine pX11_137 C hP hS Nat.zero_lt_one dX11_chance_74 (fun M13 e13 H locs hP hS => ?_)
      have hw := hw M13 e13
      refine lv_aload_n C.1 C.2.1 dX11_chance_77 rfl (lv_at hl 1 rfl) ?_
      refine lv_iload_n C.1 C.2.1 dX11_chance_78 rfl (lv_at hl 2 rfl) ?_
      refine lv_iload_n C.1 C.2.1 dX11_chance_79 rfl (lv_at hl 3 rfl) ?_
      refine lv_iconst (v := 1) C.1 C.2.1 dX11_chance_80 (by decide) ?_
      refine goV (wf := (yw g)) (runV (w := yw g M13) (As := [.int v1, .int v2, .int 1]) (rest := []) C lkX11_326 (c_X11_hunts l g C.2.2.2.2.2.2.2.2.2.2 v1 v2 1  M13 _ hw) hP hS rfl rfl ⟨Nat.le_of_ble_eq_true rfl, Nat.le_of_ble_eq_true rfl⟩ (xx_40 Nat.zero_lt_one) rfl rfl hl.1 rfl (Nat.le_of_ble_eq_true rfl) dX11_chance_81) hS (fun M14 hw H locs hP hS => ?_)
      refine lv_iload C.1 C.2.1 dX11_chance_84 (lv_at hl 6 rfl) ?_
      refine lv_aload_n C.1 C.2.1 dX11_chance_86 rfl (lv_at hl 1 rfl) ?_
      refine goI (wf := (yw g)) (runV (w := yw g M14) (As := []) (rest := [.int v7]) C lkX11_329 (c_X11_isAcquired l g C.2.2.2.2.2.2.2.2.2.2   M14 _ hw) hP hS rfl rfl ⟨Nat.le_of_ble_eq_true rfl, Nat.le_of_ble_eq_true rfl⟩ (xx_40 Nat.zero_lt_one) rfl rfl hl.1 rfl (Nat.le_of_ble_eq_true rfl) dX11_chance_87) hS (fun r15 M15 hw H locs hP hS => ?_)
      obtain ⟨hw, hz15⟩ := hw
      refine lv_if_eq (tgt := 111) C.1 C.2.1 dX11_chance_90 (by decide) (fun h16 => ?_) (fun h16 => ?_)
      · have hw := hw.1 h16
        exact k_X11_chance_111 (Q := Q) C (fun v1 v2 v3 v4 v5 v8 s0 s1  M hw H locs ls hl hP hS => k_X11_chance_112 (Q := Q) C (fun v1 v2 v3 v4 v5 v7 v8  M hw H locs ls hl hP hS => ih v1 v2 v3 v4 v5 v7 v8  M hw hl hP hS) v1 v2 v3 v4 v5 v8 s0 s1  M hw hl hP hS) v1 v2 v3 v4 r12 v8 v7  _ hw (lv_sub hl [1, 2, 3, 4, 5, 0, 7] rfl) hP hS
      · have hw := hw.2 h16
        refine lv_iload C.1 C.2.1 dX11_chance_93 (lv_at hl 5 rfl) ?_
        refine lv_if_eq (tgt := 107) C.1 C.2.1 dX11_chance_95 (by decide) (fun h19 => ?_) (fun h19 => ?_)
        · have hw := hw.1 h19
          exact k_X11_chance_107 (Q := Q) C (fun v1 v2 v3 v4 v5 v8 s0 s1  M hw H locs ls hl hP hS => k_X11_chance_112 (Q := Q) C (fun v1 v2 v3 v4 v5 v7 v8  M hw H locs ls hl hP hS => ih v1 v2 v3 v4 v5 v7 v8  M hw hl hP hS) v1 v2 v3 v4 v5 v8 s0 s1  M hw hl hP hS) v1 v2 v3 v4 r12 v8 v7  _ hw (lv_sub hl [1, 2, 3, 4, 5, 0, 7] rfl) hP hS
        · have hw := hw.2 h19
          refine lv_aload_n C.1 C.2.1 dX11_chance_98 rfl (lv_at hl 1 rfl) ?_
          refine lv_iload_n C.1 C.2.1 dX11_chance_99 rfl (lv_at hl 2 rfl) ?_
          refine lv_iload_n C.1 C.2.1 dX11_chance_100 rfl (lv_at hl 3 rfl) ?_
          refine goI (wf := (yw g)) (runV (w := yw g M15) (As := [.int v1, .int v2]) (rest := [.int v7]) C lkX11_332 (c_X11_isTrue l g C.2.2.2.2.2.2.2.2.2.2 v1 v2  M15 _ hw) hP hS rfl rfl ⟨Nat.le_of_ble_eq_true rfl, Nat.le_of_ble_eq_true rfl⟩ (xx_40 Nat.zero_lt_one) rfl rfl hl.1 rfl (Nat.le_of_ble_eq_true rfl) dX11_chance_101) hS (fun r20 M20 hw H locs hP hS => ?_)
          obtain ⟨hw, hz20⟩ := hw
          refine lv_if_eq (tgt := 111) C.1 C.2.1 dX11_chance_104 (by decide) (fun h21 => ?_) (fun h21 => ?_)
          · have hw := hw.1 h21
            exact k_X11_chance_111 (Q := Q) C (fun v1 v2 v3 v4 v5 v8 s0 s1  M hw H locs ls hl hP hS => k_X11_chance_112 (Q := Q) C (fun v1 v2 v3 v4 v5 v7 v8  M hw H locs ls hl hP hS => ih v1 v2 v3 v4 v5 v7 v8  M hw hl hP hS) v1 v2 v3 v4 v5 v8 s0 s1  M hw hl hP hS) v1 v2 v3 v4 r12 v8 v7  _ hw (lv_sub hl [1, 2, 3, 4, 5, 0, 7] rfl) hP hS
          · have hw := hw.2 h21
            exact k_X11_chance_107 (Q := Q) C (fun v1 v2 v3 v4 v5 v8 s0 s1  M hw H locs ls hl hP hS => k_X11_chance_112 (Q := Q) C (fun v1 v2 v3 v4 v5 v7 v8  M hw H locs ls hl hP hS => ih v1 v2 v3 v4 v5 v7 v8  M hw hl hP hS) v1 v2 v3 v4 v5 v8 s0 s1  M hw hl hP hS) v1 v2 v3 v4 r12 v8 v7  _ hw (lv_sub hl [1, 2, 3, 4, 5, 0, 7] rfl) hP hS
def p_X11_chance (a1 : Int32) (a2 : Int32) (a3 : Int32) (a4 : Int32) (M : Mem) (Q : Int32 → Mem → Prop) : Prop := (∀ M1 : Mem, M1 = sI M 40 0 2 0 → (p_X11_isRange a1 a2 1 M1 (fun r2 M2 => ((r2 = 0 → (Q (-1) M2)) ∧ (¬ r2 = 0 → (p_X11_isIn a3 1 10 M2 (fun r4 M4 => ((r4 = 0 → (Q (-1) M4)) ∧ (¬ r4 = 0 → (p_X11_isIn a4 0 1 M4 (fun r6 M6 => ((¬ r6 = 0 → (vp_in 10 34 ∧ (∀ x9 : Int64, x9 = ((M6.1 45 0 (10 : Int32).toNatClampNeg) : Int32).toInt64 → (∃ n53 : Nat, b_X11_chance_53 Q n53 a1 a2 a3 a4 x9 0 0 M6)))) ∧ (r6 = 0 → (Q (-1) M6))))))))))))))
set_option maxRecDepth 100000 in
set_option maxHeartbeats 4000000 in
theorem c_X11_chance (l : Launch) (g : Geo) (gi : GI g) (a1 : Int32) (a2 : Int32) (a3 : Int32) (a4 : Int32) (M : Mem) (Q : Int32 → Mem → Prop) (hw : p_X11_chance a1 a2 a3 a4 M Q) : Met l yX11_chance (Cond.code yX11_chance cX11_chance 9 (some .int) :: bg) ({ frames := 7, cells := 0, slots := 0, locals := 171 } : Room) (va_Pc [.ref (g.2.1 (138 + 0)), .int a1, .int a2, .int a3, .int a4] (PW g (yw g M))) (va_Qi Q (PB g (yw g)) (Af 1 g)) 0 0 (Af 1 g) := by
  refine Met.ofW (cc := cX11_chance) (maxL := 9) (ret := (some .int)) (by decide +kernel) rfl ?_
  intro p e s m args below meth c s₁ B hml hv
  obtain ⟨rfl, hv⟩ := hv
  have C := CX.start (own := RX11) B hml rfl gi hv
  have hP := hv.1
  have hS : va_S (Af 1 g) s.heap s.heap [] := va_S.rf
  have hl := lv_entry ([.ref (g.2.1 (138 + 0)), .int a1, .int a2, .int a3, .int a4]) (n := 9) (Nat.le_of_ble_eq_true rfl)
  rw [lg_entry_eq]
  generalize (lg_sl ([.ref (g.2.1 (138 + 0)), .int a1, .int a2, .int a3, .int a4]) ++ List.replicate (9 - (lg_sl ([.ref (g.2.1 (138 + 0)), .int a1, .int a2, .int a3, .int a4])).length) Slot.unset).toArray = ls at hl ⊢
  have hl : lv_has ls 9 [(0, .ref (g.2.1 (138 + 0))), (1, .int a1), (2, .int a2), (3, .int a3), (4, .int a4)] := hl
  unfold p_X11_chance at hw
  refine lv_aload_n C.1 C.2.1 dX11_chance_0 rfl (lv_at hl 0 rfl) ?_
  refine lv_iconst (v := 0) C.1 C.2.1 dX11_chance_1 (by decide) ?_
  refine pX11_76 C hP hS Nat.zero_lt_one dX11_chance_2 (fun M1 e1 H locs hP hS => ?_)
  have hw := hw M1 e1
  refine lv_aload_n C.1 C.2.1 dX11_chance_5 rfl (lv_at hl 0 rfl) ?_
  refine lv_iload_n C.1 C.2.1 dX11_chance_6 rfl (lv_at hl 1 rfl) ?_
  refine lv_iload_n C.1 C.2.1 dX11_chance_7 rfl (lv_at hl 2 rfl) ?_
  refine lv_iconst (v := 1) C.1 C.2.1 dX11_chance_8 (by decide) ?_
  refine goI (wf := (yw g)) (runV (w := yw g M1) (As := [.int a1, .int a2, .int 1]) (rest := []) C lkX11_323 (c_X11_isRange l g C.2.2.2.2.2.2.2.2.2.2 a1 a2 1  M1 _ hw) hP hS rfl rfl ⟨Nat.le_of_ble_eq_true rfl, Nat.le_of_ble_eq_true rfl⟩ (xx_40 Nat.zero_lt_one) rfl rfl hl.1 rfl (Nat.le_of_ble_eq_true rfl) dX11_chance_9) hS (fun r2 M2 hw H locs hP hS => ?_)
  obtain ⟨hw, hz2⟩ := hw
  refine lv_if_eq (tgt := 35) C.1 C.2.1 dX11_chance_12 (by decide) (fun h3 => ?_) (fun h3 => ?_)
  · have hw := hw.1 h3
    refine lv_iconst (v := (-1)) C.1 C.2.1 dX11_chance_35 (by decide) ?_
    exact retI (wf := (yw g)) C hP hS hw dX11_chance_36
  · have hw := hw.2 h3
    refine lv_iload_n C.1 C.2.1 dX11_chance_15 rfl (lv_at hl 3 rfl) ?_
    refine lv_iconst (v := 1) C.1 C.2.1 dX11_chance_16 (by decide) ?_
    refine lv_bipush (v := 10) C.1 C.2.1 dX11_chance_17 (by decide) ?_
    refine goI (wf := (yw g)) (runS (w := yw g M2) (As := [.int a3, .int 1, .int 10]) (rest := []) C lkX11_166 (c_X11_isIn l g C.2.2.2.2.2.2.2.2.2.2 a3 1 10  M2 _ hw) hP hS rfl rfl ⟨Nat.le_of_ble_eq_true rfl, Nat.le_of_ble_eq_true rfl⟩ hl.1 rfl (Nat.le_of_ble_eq_true rfl) dX11_chance_19) hS (fun r4 M4 hw H locs hP hS => ?_)
    obtain ⟨hw, hz4⟩ := hw
    refine lv_if_eq (tgt := 35) C.1 C.2.1 dX11_chance_22 (by decide) (fun h5 => ?_) (fun h5 => ?_)
    · have hw := hw.1 h5
      refine lv_iconst (v := (-1)) C.1 C.2.1 dX11_chance_35 (by decide) ?_
      exact retI (wf := (yw g)) C hP hS hw dX11_chance_36
    · have hw := hw.2 h5
      refine lv_iload C.1 C.2.1 dX11_chance_25 (lv_at hl 4 rfl) ?_
      refine lv_iconst (v := 0) C.1 C.2.1 dX11_chance_27 (by decide) ?_
      refine lv_iconst (v := 1) C.1 C.2.1 dX11_chance_28 (by decide) ?_
      refine goI (wf := (yw g)) (runS (w := yw g M4) (As := [.int a4, .int 0, .int 1]) (rest := []) C lkX11_166 (c_X11_isIn l g C.2.2.2.2.2.2.2.2.2.2 a4 0 1  M4 _ hw) hP hS rfl rfl ⟨Nat.le_of_ble_eq_true rfl, Nat.le_of_ble_eq_true rfl⟩ hl.1 rfl (Nat.le_of_ble_eq_true rfl) dX11_chance_29) hS (fun r6 M6 hw H locs hP hS => ?_)
      obtain ⟨hw, hz6⟩ := hw
      refine lv_if_ne (tgt := 37) C.1 C.2.1 dX11_chance_32 (by decide) (fun h7 => ?_) (fun h7 => ?_)
      · have hw := hw.1 h7
        refine lv_aload_n C.1 C.2.1 dX11_chance_37 rfl (lv_at hl 0 rfl) ?_
        refine gX11_26 C hP Nat.zero_lt_one dX11_chance_38 ?_
        refine lv_bipush (v := 10) C.1 C.2.1 dX11_chance_41 (by decide) ?_
        obtain ⟨h8, hw⟩ := hw
        refine al_45 C hP Nat.zero_lt_one h8 dX11_chance_43 ?_
        refine lv_i2l C.1 C.2.1 dX11_chance_44 rfl ?_
        refine lv_topl (fun x9 e9 => ?_)
        have hw := hw x9 e9
        refine lv_lstore (lv' := [(5, .long x9), (0, .ref (g.2.1 (138 + 0))), (1, .int a1), (2, .int a2), (3, .int a3), (4, .int a4)]) C.1 C.2.1 dX11_chance_45 hl (by decide) rfl (fun ls hl => ?_)
        refine lv_iconst (v := 0) C.1 C.2.1 dX11_chance_47 (by decide) ?_
        refine lv_istore (lv' := [(7, .int 0), (5, .long x9), (0, .ref (g.2.1 (138 + 0))), (1, .int a1), (2, .int a2), (3, .int a3), (4, .int a4)]) C.1 C.2.1 dX11_chance_48 hl (by decide) rfl (fun ls hl => ?_)
        refine lv_iconst (v := 0) C.1 C.2.1 dX11_chance_50 (by decide) ?_
        refine lv_istore (lv' := [(8, .int 0), (7, .int 0), (5, .long x9), (0, .ref (g.2.1 (138 + 0))), (1, .int a1), (2, .int a2), (3, .int a3), (4, .int a4)]) C.1 C.2.1 dX11_chance_51 hl (by decide) rfl (fun ls hl => ?_)
        obtain ⟨n9, hw⟩ := hw
        exact k_X11_chance_53 (Q := Q) C n9 a1 a2 a3 a4 x9 0 0  _ hw (lv_sub hl [3, 4, 5, 6, 7, 2, 1, 0] rfl) hP hS
      · have hw := hw.2 h7
        refine lv_iconst (v := (-1)) C.1 C.2.1 dX11_chance_35 (by decide) ?_
        exact retI (wf := (yw g)) C hP hS hw dX11_chance_36
def b_X11_clearest_103 (Q : Int32 → Mem → Prop) (k124 : Int32 → Int32 → Int32 → Int32 → Int64 → Int64 → Int32 → Mem → Prop) (v1 : Int32) (v2 : Int32) (v3 : Int32) (v9 : Int32) (v10 : Int64) (M : Mem) : Prop := (∀ x10 : Int32, x10 = (v2 + v9) → (vp_in (M.1 40 0 32) 930 ∧ (∀ x12 : Int64, x12 = (M.2.1 53 0 ((M.1 40 0 32) : Int32).toNatClampNeg) → (k124 v1 v2 v3 x10 x12 v10 v9 M))))
set_option maxRecDepth 100000 in
set_option maxHeartbeats 4000000 in
theorem k_X11_clearest_103 {p : Program} {l : Launch} {e : Env} {s : State} {m : MethodId} {args : Array Value} {below : List Frame} {meth : Method} {c : Code} {g : Geo} (C : CX g p s m args meth c cX11_clearest 12 (some .int) RX11) {Q : Int32 → Mem → Prop} {k124 : Int32 → Int32 → Int32 → Int32 → Int64 → Int64 → Int32 → Mem → Prop} (hk124 : ∀ (v1 : Int32) (v2 : Int32) (v3 : Int32) (v4 : Int32) (v5 : Int64) (v7 : Int64) (v9 : Int32) (M : Mem), k124 v1 v2 v3 v4 v5 v7 v9 M → ∀ (H : Heap) (locs : List Loc) (ls : Array Slot), lv_has ls 12 [(0, .ref (g.2.1 (138 + 0))), (1, .int v1), (2, .int v2), (3, .int v3), (4, .int v4), (5, .long v5), (7, .long v7), (9, .int v9)] → va_P g.1 clz (yw g M) H → va_S (Af 1 g) s.heap H locs → W p l e ({ frames := 7, cells := 0, slots := 0, locals := 171 } : Room) s m args below meth c H locs 0 0 (MQ below (va_Qi Q (PB g (yw g)) (Af 1 g)) args s 0 0 (Af 1 g)) (F0 m 124 ls [])) (v1 : Int32) (v2 : Int32) (v3 : Int32) (v9 : Int32) (v10 : Int64) (M : Mem) (hw : b_X11_clearest_103 Q k124 v1 v2 v3 v9 v10 M) {H : Heap} {locs : List Loc} {ls : Array Slot} (hl : lv_has ls 12 [(0, .ref (g.2.1 (138 + 0))), (1, .int v1), (2, .int v2), (3, .int v3), (9, .int v9), (10, .long v10)]) (hP : va_P g.1 clz (yw g M) H) (hS : va_S (Af 1 g) s.heap H locs) : W p l e ({ frames := 7, cells := 0, slots := 0, locals := 171 } : Room) s m args below meth c H locs 0 0 (MQ below (va_Qi Q (PB g (yw g)) (Af 1 g)) args s 0 0 (Af 1 g)) (F0 m 103 ls []) := by
  unfold b_X11_clearest_103 at hw
  refine lv_iload_n C.1 C.2.1 dX11_clearest_103 rfl (lv_at hl 2 rfl) ?_
  refine lv_iload C.1 C.2.1 dX11_clearest_104 (lv_at hl 4 rfl) ?_
  refine lv_iadd C.1 C.2.1 dX11_clearest_106 ?_
  refine lv_topi (fun x10 e10 => ?_)
  have hw := hw x10 e10
  refine lv_istore (lv' := [(4, .int x10), (0, .ref (g.2.1 (138 + 0))), (1, .int v1), (2, .int v2), (3, .int v3), (9, .int v9), (10, .long v10)]) C.1 C.2.1 dX11_clearest_107 hl (by decide) rfl (fun ls hl => ?_)
  refine lv_aload_n C.1 C.2.1 dX11_clearest_109 rfl (lv_at hl 1 rfl) ?_
  refine gX11_51 C hP Nat.zero_lt_one dX11_clearest_110 ?_
  refine lv_aload_n C.1 C.2.1 dX11_clearest_113 rfl (lv_at hl 1 rfl) ?_
  refine gX11_311 C hP Nat.zero_lt_one dX11_clearest_114 ?_
  obtain ⟨h11, hw⟩ := hw
  refine al_53 C hP Nat.zero_lt_one h11 dX11_clearest_117 ?_
  refine lv_topl (fun x12 e12 => ?_)
  have hw := hw x12 e12
  refine lv_lstore (lv' := [(5, .long x12), (4, .int x10), (0, .ref (g.2.1 (138 + 0))), (1, .int v1), (2, .int v2), (3, .int v3), (9, .int v9), (10, .long v10)]) C.1 C.2.1 dX11_clearest_118 hl (by decide) rfl (fun ls hl => ?_)
  refine lv_lload C.1 C.2.1 dX11_clearest_120 (lv_at hl 7 rfl) ?_
  refine lv_lstore (lv' := [(7, .long v10), (5, .long x12), (4, .int x10), (0, .ref (g.2.1 (138 + 0))), (1, .int v1), (2, .int v2), (3, .int v3), (9, .int v9), (10, .long v10)]) C.1 C.2.1 dX11_clearest_122 hl (by decide) rfl (fun ls hl => ?_)
  exact hk124 v1 v2 v3 x10 x12 v10 v9  _ hw _ _ _ (lv_sub hl [3, 4, 5, 6, 2, 1, 0, 7] rfl) hP hS
def b_X11_clearest_124 (Q : Int32 → Mem → Prop) (k39 : Int32 → Int32 → Int32 → Int32 → Int64 → Int64 → Int32 → Mem → Prop) (v1 : Int32) (v2 : Int32) (v3 : Int32) (v4 : Int32) (v5 : Int64) (v7 : Int64) (v9 : Int32) (M : Mem) : Prop := (∀ x13 : Int32, x13 = (v9 + 1) → (k39 v1 v2 v3 v4 v5 v7 x13 M))
set_option maxRecDepth 100000 in
set_option maxHeartbeats 4000000 in
theorem k_X11_clearest_124 {p : Program} {l : Launch} {e : Env} {s : State} {m : MethodId} {args : Array Value} {below : List Frame} {meth : Method} {c : Code} {g : Geo} (C : CX g p s m args meth c cX11_clearest 12 (some .int) RX11) {Q : Int32 → Mem → Prop} {k39 : Int32 → Int32 → Int32 → Int32 → Int64 → Int64 → Int32 → Mem → Prop} (hk39 : ∀ (v1 : Int32) (v2 : Int32) (v3 : Int32) (v4 : Int32) (v5 : Int64) (v7 : Int64) (v9 : Int32) (M : Mem), k39 v1 v2 v3 v4 v5 v7 v9 M → ∀ (H : Heap) (locs : List Loc) (ls : Array Slot), lv_has ls 12 [(0, .ref (g.2.1 (138 + 0))), (1, .int v1), (2, .int v2), (3, .int v3), (4, .int v4), (5, .long v5), (7, .long v7), (9, .int v9)] → va_P g.1 clz (yw g M) H → va_S (Af 1 g) s.heap H locs → W p l e ({ frames := 7, cells := 0, slots := 0, locals := 171 } : Room) s m args below meth c H locs 0 0 (MQ below (va_Qi Q (PB g (yw g)) (Af 1 g)) args s 0 0 (Af 1 g)) (F0 m 39 ls [])) (v1 : Int32) (v2 : Int32) (v3 : Int32) (v4 : Int32) (v5 : Int64) (v7 : Int64) (v9 : Int32) (M : Mem) (hw : b_X11_clearest_124 Q k39 v1 v2 v3 v4 v5 v7 v9 M) {H : Heap} {locs : List Loc} {ls : Array Slot} (hl : lv_has ls 12 [(0, .ref (g.2.1 (138 + 0))), (1, .int v1), (2, .int v2), (3, .int v3), (4, .int v4), (5, .long v5), (7, .long v7), (9, .int v9)]) (hP : va_P g.1 clz (yw g M) H) (hS : va_S (Af 1 g) s.heap H locs) : W p l e ({ frames := 7, cells := 0, slots := 0, locals := 171 } : Room) s m args below meth c H locs 0 0 (MQ below (va_Qi Q (PB g (yw g)) (Af 1 g)) args s 0 0 (Af 1 g)) (F0 m 124 ls []) := by
  unfold b_X11_clearest_124 at hw
  obtain ⟨x13, e13⟩ : ∃ y : Int32, y = (v9 + 1) := ⟨_, rfl⟩
  have hw := hw x13 e13
  refine lv_iinc (v := x13) (lv' := [(9, .int x13), (0, .ref (g.2.1 (138 + 0))), (1, .int v1), (2, .int v2), (3, .int v3), (4, .int v4), (5, .long v5), (7, .long v7)]) C.1 C.2.1 dX11_clearest_124 hl (k := 7) rfl (by rw [e13]; rfl) (by decide) rfl (fun ls hl => ?_)
  refine lv_goto (tgt := 39) C.1 C.2.1 dX11_clearest_127 (by decide) ?_
  exact hk39 v1 v2 v3 v4 v5 v7 x13  _ hw _ _ _ (lv_sub hl [1, 2, 3, 4, 5, 6, 7, 0] rfl) hP hS
def b_X11_clearest_72 (Q : Int32 → Mem → Prop) (k39 : Int32 → Int32 → Int32 → Int32 → Int64 → Int64 → Int32 → Mem → Prop) (v1 : Int32) (v2 : Int32) (v3 : Int32) (v4 : Int32) (v5 : Int64) (v7 : Int64) (v9 : Int32) (s0 : Int64) (M : Mem) : Prop := ((v4 < 0 → (b_X11_clearest_103 Q (fun v1 v2 v3 v4 v5 v7 v9 M => b_X11_clearest_124 Q k39 v1 v2 v3 v4 v5 v7 v9 M) v1 v2 v3 v9 s0 M)) ∧ (¬ v4 < 0 → (vp_in (M.1 40 0 32) 930 ∧ ((0 < (lg_cmp ((M.2.1 53 0 ((M.1 40 0 32) : Int32).toNatClampNeg) * v7) (v5 * s0)) → (b_X11_clearest_103 Q (fun v1 v2 v3 v4 v5 v7 v9 M => b_X11_clearest_124 Q k39 v1 v2 v3 v4 v5 v7 v9 M) v1 v2 v3 v9 s0 M)) ∧ (¬ 0 < (lg_cmp ((M.2.1 53 0 ((M.1 40 0 32) : Int32).toNatClampNeg) * v7) (v5 * s0)) → (b_X11_clearest_124 Q k39 v1 v2 v3 v4 v5 v7 v9 M))))))
set_option maxRecDepth 100000 in
set_option maxHeartbeats 4000000 in
theorem k_X11_clearest_72 {p : Program} {l : Launch} {e : Env} {s : State} {m : MethodId} {args : Array Value} {below : List Frame} {meth : Method} {c : Code} {g : Geo} (C : CX g p s m args meth c cX11_clearest 12 (some .int) RX11) {Q : Int32 → Mem → Prop} {k39 : Int32 → Int32 → Int32 → Int32 → Int64 → Int64 → Int32 → Mem → Prop} (hk39 : ∀ (v1 : Int32) (v2 : Int32) (v3 : Int32) (v4 : Int32) (v5 : Int64) (v7 : Int64) (v9 : Int32) (M : Mem), k39 v1 v2 v3 v4 v5 v7 v9 M → ∀ (H : Heap) (locs : List Loc) (ls : Array Slot), lv_has ls 12 [(0, .ref (g.2.1 (138 + 0))), (1, .int v1), (2, .int v2), (3, .int v3), (4, .int v4), (5, .long v5), (7, .long v7), (9, .int v9)] → va_P g.1 clz (yw g M) H → va_S (Af 1 g) s.heap H locs → W p l e ({ frames := 7, cells := 0, slots := 0, locals := 171 } : Room) s m args below meth c H locs 0 0 (MQ below (va_Qi Q (PB g (yw g)) (Af 1 g)) args s 0 0 (Af 1 g)) (F0 m 39 ls [])) (v1 : Int32) (v2 : Int32) (v3 : Int32) (v4 : Int32) (v5 : Int64) (v7 : Int64) (v9 : Int32) (s0 : Int64) (M : Mem) (hw : b_X11_clearest_72 Q k39 v1 v2 v3 v4 v5 v7 v9 s0 M) {H : Heap} {locs : List Loc} {ls : Array Slot} (hl : lv_has ls 12 [(0, .ref (g.2.1 (138 + 0))), (1, .int v1), (2, .int v2), (3, .int v3), (4, .int v4), (5, .long v5), (7, .long v7), (9, .int v9)]) (hP : va_P g.1 clz (yw g M) H) (hS : va_S (Af 1 g) s.heap H locs) : W p l e ({ frames := 7, cells := 0, slots := 0, locals := 171 } : Room) s m args below meth c H locs 0 0 (MQ below (va_Qi Q (PB g (yw g)) (Af 1 g)) args s 0 0 (Af 1 g)) (F0 m 72 ls [.long s0]) := by
  unfold b_X11_clearest_72 at hw
  refine lv_lstore (lv' := [(10, .long s0), (0, .ref (g.2.1 (138 + 0))), (1, .int v1), (2, .int v2), (3, .int v3), (4, .int v4), (5, .long v5), (7, .long v7), (9, .int v9)]) C.1 C.2.1 dX11_clearest_72 hl (by decide) rfl (fun ls hl => ?_)
  refine lv_iload C.1 C.2.1 dX11_clearest_74 (lv_at hl 5 rfl) ?_
  refine lv_if_lt (tgt := 103) C.1 C.2.1 dX11_clearest_76 (by decide) (fun h9 => ?_) (fun h9 => ?_)
  · have hw := hw.1 h9
    exact k_X11_clearest_103 (Q := Q) C (fun v1 v2 v3 v4 v5 v7 v9  M hw H locs ls hl hP hS => k_X11_clearest_124 (Q := Q) C hk39 v1 v2 v3 v4 v5 v7 v9  M hw hl hP hS) v1 v2 v3 v9 s0  _ hw (lv_sub hl [1, 2, 3, 4, 8, 0] rfl) hP hS
  · have hw := hw.2 h9
    refine lv_aload_n C.1 C.2.1 dX11_clearest_79 rfl (lv_at hl 1 rfl) ?_
    refine gX11_51 C hP Nat.zero_lt_one dX11_clearest_80 ?_
    refine lv_aload_n C.1 C.2.1 dX11_clearest_83 rfl (lv_at hl 1 rfl) ?_
    refine gX11_311 C hP Nat.zero_lt_one dX11_clearest_84 ?_
    obtain ⟨h14, hw⟩ := hw
    refine al_53 C hP Nat.zero_lt_one h14 dX11_clearest_87 ?_
    refine lv_lload C.1 C.2.1 dX11_clearest_88 (lv_at hl 7 rfl) ?_
    refine lv_lmul C.1 C.2.1 dX11_clearest_90 ?_
    refine lv_lload C.1 C.2.1 dX11_clearest_91 (lv_at hl 6 rfl) ?_
    refine lv_lload C.1 C.2.1 dX11_clearest_93 (lv_at hl 0 rfl) ?_
    refine lv_lmul C.1 C.2.1 dX11_clearest_95 ?_
    refine W.lcmp C.1 C.2.1 dX11_clearest_96 ?_
    refine lv_if_gt (tgt := 103) C.1 C.2.1 dX11_clearest_97 (by decide) (fun h15 => ?_) (fun h15 => ?_)
    · have hw := hw.1 h15
      exact k_X11_clearest_103 (Q := Q) C (fun v1 v2 v3 v4 v5 v7 v9  M hw H locs ls hl hP hS => k_X11_clearest_124 (Q := Q) C hk39 v1 v2 v3 v4 v5 v7 v9  M hw hl hP hS) v1 v2 v3 v9 s0  _ hw (lv_sub hl [1, 2, 3, 4, 8, 0] rfl) hP hS
    · have hw := hw.2 h15
      refine lv_goto (tgt := 124) C.1 C.2.1 dX11_clearest_100 (by decide) ?_
      exact k_X11_clearest_124 (Q := Q) C hk39 v1 v2 v3 v4 v5 v7 v9  _ hw (lv_sub hl [1, 2, 3, 4, 5, 6, 7, 8] rfl) hP hS
def b_X11_clearest_39 (Q : Int32 → Mem → Prop) : Nat → Int32 → Int32 → Int32 → Int32 → Int64 → Int64 → Int32 → Mem → Prop
  | 0, _, _, _, _, _, _, _, _ => False
  | n + 1, v1, v2, v3, v4, v5, v7, v9, M => ((v3 ≤ v9 → (Q v4 M)) ∧ (¬ v3 ≤ v9 → (p_X11_hunts v1 ((v2 + v9)) 1 M (fun M7 => ((¬ (lg_cmp (M7.2.1 40 0 33) 0) = 0 → (b_X11_clearest_72 Q (fun v1 v2 v3 v4 v5 v7 v9 M => b_X11_clearest_39 Q n v1 v2 v3 v4 v5 v7 v9 M) v1 v2 v3 v4 v5 v7 v9 ((M7.2.1 40 0 33)) M7)) ∧ ((lg_cmp (M7.2.1 40 0 33) 0) = 0 → (b_X11_clearest_72 Q (fun v1 v2 v3 v4 v5 v7 v9 M => b_X11_clearest_39 Q n v1 v2 v3 v4 v5 v7 v9 M) v1 v2 v3 v4 v5 v7 v9 1 M7)))))))
set_option maxRecDepth 100000 in
set_option maxHeartbeats 4000000 in
theorem k_X11_clearest_39 {p : Program} {l : Launch} {e : Env} {s : State} {m : MethodId} {args : Array Value} {below : List Frame} {meth : Method} {c : Code} {g : Geo} (C : CX g p s m args meth c cX11_clearest 12 (some .int) RX11) {Q : Int32 → Mem → Prop} : ∀ (n : Nat) (v1 : Int32) (v2 : Int32) (v3 : Int32) (v4 : Int32) (v5 : Int64) (v7 : Int64) (v9 : Int32) (M : Mem) (hw : b_X11_clearest_39 Q n v1 v2 v3 v4 v5 v7 v9 M) {H : Heap} {locs : List Loc} {ls : Array Slot} (hl : lv_has ls 12 [(0, .ref (g.2.1 (138 + 0))), (1, .int v1), (2, .int v2), (3, .int v3), (4, .int v4), (5, .long v5), (7, .long v7), (9, .int v9)]) (hP : va_P g.1 clz (yw g M) H) (hS : va_S (Af 1 g) s.heap H locs), W p l e ({ frames := 7, cells := 0, slots := 0, locals := 171 } : Room) s m args below meth c H locs 0 0 (MQ below (va_Qi Q (PB g (yw g)) (Af 1 g)) args s 0 0 (Af 1 g)) (F0 m 39 ls []) := by
  intro n
  induction n with
  | zero => intro v1 v2 v3 v4 v5 v7 v9 M hw H locs ls hl hP hS; exact absurd hw (by rw [b_X11_clearest_39]; exact fun h => h)
  | succ n ih =>
    intro v1 v2 v3 v4 v5 v7 v9 M hw H locs ls hl hP hS
    rw [b_X11_clearest_39] at hw
    refine lv_iload C.1 C.2.1 dX11_clearest_39 (lv_at hl 7 rfl) ?_
    refine lv_iload_n C.1 C.2.1 dX11_clearest_41 rfl (lv_at hl 3 rfl) ?_
    refine lv_icmp_ge (tgt := 130) C.1 C.2.1 dX11_clearest_42 (by decide) (fun h6 => ?_) (fun h6 => ?_)
    · have hw := hw.1 h6
      refine lv_iload C.1 C.2.1 dX11_clearest_130 (lv_at hl 4 rfl) ?_
      exact retI (wf := (yw g)) C hP hS hw dX11_clearest_132
    · have hw := hw.2 h6
      refine lv_aload_n C.1 C.2.1 dX11_clearest_45 rfl (lv_at hl 0 rfl) ?_
      refine lv_iload_n C.1 C.2.1 dX11_clearest_46 rfl (lv_at hl 1 rfl) ?_
      refine lv_iload_n C.1 C.2.1 dX11_clearest_47 rfl (lv_at hl 2 rfl) ?_
      refine lv_iload C.1 C.2.1 dX11_clearest_48 (lv_at hl 7 rfl) ?_
      refine lv_iadd C.1 C.2.1 dX11_clearest_50 ?_
      refine lv_iconst (v := 1) C.1 C.2.1 dX11_clearest_51 (by decide) ?_
      refine goV (wf := (yw g)) (runV (w := yw g M) (As := [.int v1, .int (v2 + v9), .int 1]) (rest := []) C lkX11_326 (c_X11_hunts l g C.2.2.2.2.2.2.2.2.2.2 v1 ((v2 + v9)) 1  M _ hw) hP hS rfl rfl ⟨Nat.le_of_ble_eq_true rfl, Nat.le_of_ble_eq_true rfl⟩ (xx_40 Nat.zero_lt_one) rfl rfl hl.1 rfl (Nat.le_of_ble_eq_true rfl) dX11_clearest_52) hS (fun M7 hw H locs hP hS => ?_)
      refine lv_aload_n C.1 C.2.1 dX11_clearest_55 rfl (lv_at hl 0 rfl) ?_
      refine gX11_314 C hP Nat.zero_lt_one dX11_clearest_56 ?_
      refine lv_lconst (v := 0) C.1 C.2.1 dX11_clearest_59 (by decide) ?_
      refine W.lcmp C.1 C.2.1 dX11_clearest_60 ?_
      refine lv_if_ne (tgt := 68) C.1 C.2.1 dX11_clearest_61 (by decide) (fun h8 => ?_) (fun h8 => ?_)
      · have hw := hw.1 h8
        refine lv_aload_n C.1 C.2.1 dX11_clearest_68 rfl (lv_at hl 0 rfl) ?_
        refine gX11_314 C hP Nat.zero_lt_one dX11_clearest_69 ?_
        exact k_X11_clearest_72 (Q := Q) C (fun v1 v2 v3 v4 v5 v7 v9  M hw H locs ls hl hP hS => ih v1 v2 v3 v4 v5 v7 v9  M hw hl hP hS) v1 v2 v3 v4 v5 v7 v9 ((M7.2.1 40 0 33))  _ hw (lv_sub hl [0, 1, 2, 3, 4, 5, 6, 7] rfl) hP hS
      · have hw := hw.2 h8
        refine lv_lconst (v := 1) C.1 C.2.1 dX11_clearest_64 (by decide) ?_
        refine lv_goto (tgt := 72) C.1 C.2.1 dX11_clearest_65 (by decide) ?_
        exact k_X11_clearest_72 (Q := Q) C (fun v1 v2 v3 v4 v5 v7 v9  M hw H locs ls hl hP hS => ih v1 v2 v3 v4 v5 v7 v9  M hw hl hP hS) v1 v2 v3 v4 v5 v7 v9 1  _ hw (lv_sub hl [0, 1, 2, 3, 4, 5, 6, 7] rfl) hP hS
def p_X11_clearest (a1 : Int32) (a2 : Int32) (a3 : Int32) (M : Mem) (Q : Int32 → Mem → Prop) : Prop := (∀ M1 : Mem, M1 = sI M 40 0 2 0 → (p_X11_isIn a3 1 8 M1 (fun r2 M2 => ((r2 = 0 → (Q (-1) M2)) ∧ (¬ r2 = 0 → (p_X11_isRange a1 a2 a3 M2 (fun r4 M4 => ((¬ r4 = 0 → (∃ n39 : Nat, b_X11_clearest_39 Q n39 a1 a2 a3 (-1) 0 1 0 M4)) ∧ (r4 = 0 → (Q (-1) M4))))))))))
set_option maxRecDepth 100000 in
set_option maxHeartbeats 4000000 in
theorem c_X11_clearest (l : Launch) (g : Geo) (gi : GI g) (a1 : Int32) (a2 : Int32) (a3 : Int32) (M : Mem) (Q : Int32 → Mem → Prop) (hw : p_X11_clearest a1 a2 a3 M Q) : Met l yX11_clearest (Cond.code yX11_clearest cX11_clearest 12 (some .int) :: bg) ({ frames := 7, cells := 0, slots := 0, locals := 171 } : Room) (va_Pc [.ref (g.2.1 (138 + 0)), .int a1, .int a2, .int a3] (PW g (yw g M))) (va_Qi Q (PB g (yw g)) (Af 1 g)) 0 0 (Af 1 g) := by
  refine Met.ofW (cc := cX11_clearest) (maxL := 12) (ret := (some .int)) (by decide +kernel) rfl ?_
  intro p e s m args below meth c s₁ B hml hv
  obtain ⟨rfl, hv⟩ := hv
  have C := CX.start (own := RX11) B hml rfl gi hv
  have hP := hv.1
  have hS : va_S (Af 1 g) s.heap s.heap [] := va_S.rf
  have hl := lv_entry ([.ref (g.2.1 (138 + 0)), .int a1, .int a2, .int a3]) (n := 12) (Nat.le_of_ble_eq_true rfl)
  rw [lg_entry_eq]
  generalize (lg_sl ([.ref (g.2.1 (138 + 0)), .int a1, .int a2, .int a3]) ++ List.replicate (12 - (lg_sl ([.ref (g.2.1 (138 + 0)), .int a1, .int a2, .int a3])).length) Slot.unset).toArray = ls at hl ⊢
  have hl : lv_has ls 12 [(0, .ref (g.2.1 (138 + 0))), (1, .int a1), (2, .int a2), (3, .int a3)] := hl
  unfold p_X11_clearest at hw
  refine lv_aload_n C.1 C.2.1 dX11_clearest_0 rfl (lv_at hl 0 rfl) ?_
  refine lv_iconst (v := 0) C.1 C.2.1 dX11_clearest_1 (by decide) ?_
  refine pX11_76 C hP hS Nat.zero_lt_one dX11_clearest_2 (fun M1 e1 H locs hP hS => ?_)
  have hw := hw M1 e1
  refine lv_iload_n C.1 C.2.1 dX11_clearest_5 rfl (lv_at hl 3 rfl) ?_
  refine lv_iconst (v := 1) C.1 C.2.1 dX11_clearest_6 (by decide) ?_
  refine lv_bipush (v := 8) C.1 C.2.1 dX11_clearest_7 (by decide) ?_
  refine goI (wf := (yw g)) (runS (w := yw g M1) (As := [.int a3, .int 1, .int 8]) (rest := []) C lkX11_166 (c_X11_isIn l g C.2.2.2.2.2.2.2.2.2.2 a3 1 8  M1 _ hw) hP hS rfl rfl ⟨Nat.le_of_ble_eq_true rfl, Nat.le_of_ble_eq_true rfl⟩ hl.1 rfl (Nat.le_of_ble_eq_true rfl) dX11_clearest_9) hS (fun r2 M2 hw H locs hP hS => ?_)
  obtain ⟨hw, hz2⟩ := hw
  refine lv_if_eq (tgt := 25) C.1 C.2.1 dX11_clearest_12 (by decide) (fun h3 => ?_) (fun h3 => ?_)
  · have hw := hw.1 h3
    refine lv_iconst (v := (-1)) C.1 C.2.1 dX11_clearest_25 (by decide) ?_
    exact retI (wf := (yw g)) C hP hS hw dX11_clearest_26
  · have hw := hw.2 h3
    refine lv_aload_n C.1 C.2.1 dX11_clearest_15 rfl (lv_at hl 0 rfl) ?_
    refine lv_iload_n C.1 C.2.1 dX11_clearest_16 rfl (lv_at hl 1 rfl) ?_
    refine lv_iload_n C.1 C.2.1 dX11_clearest_17 rfl (lv_at hl 2 rfl) ?_
    refine lv_iload_n C.1 C.2.1 dX11_clearest_18 rfl (lv_at hl 3 rfl) ?_
    refine goI (wf := (yw g)) (runV (w := yw g M2) (As := [.int a1, .int a2, .int a3]) (rest := []) C lkX11_323 (c_X11_isRange l g C.2.2.2.2.2.2.2.2.2.2 a1 a2 a3  M2 _ hw) hP hS rfl rfl ⟨Nat.le_of_ble_eq_true rfl, Nat.le_of_ble_eq_true rfl⟩ (xx_40 Nat.zero_lt_one) rfl rfl hl.1 rfl (Nat.le_of_ble_eq_true rfl) dX11_clearest_19) hS (fun r4 M4 hw H locs hP hS => ?_)
    obtain ⟨hw, hz4⟩ := hw
    refine lv_if_ne (tgt := 27) C.1 C.2.1 dX11_clearest_22 (by decide) (fun h5 => ?_) (fun h5 => ?_)
    · have hw := hw.1 h5
      refine lv_iconst (v := (-1)) C.1 C.2.1 dX11_clearest_27 (by decide) ?_
      refine lv_istore (lv' := [(4, .int (-1)), (0, .ref (g.2.1 (138 + 0))), (1, .int a1), (2, .int a2), (3, .int a3)]) C.1 C.2.1 dX11_clearest_28 hl (by decide) rfl (fun ls hl => ?_)
      refine lv_lconst (v := 0) C.1 C.2.1 dX11_clearest_30 (by decide) ?_
      refine lv_lstore (lv' := [(5, .long 0), (4, .int (-1)), (0, .ref (g.2.1 (138 + 0))), (1, .int a1), (2, .int a2), (3, .int a3)]) C.1 C.2.1 dX11_clearest_31 hl (by decide) rfl (fun ls hl => ?_)
      refine lv_lconst (v := 1) C.1 C.2.1 dX11_clearest_33 (by decide) ?_
      refine lv_lstore (lv' := [(7, .long 1), (5, .long 0), (4, .int (-1)), (0, .ref (g.2.1 (138 + 0))), (1, .int a1), (2, .int a2), (3, .int a3)]) C.1 C.2.1 dX11_clearest_34 hl (by decide) rfl (fun ls hl => ?_)
      refine lv_iconst (v := 0) C.1 C.2.1 dX11_clearest_36 (by decide) ?_
      refine lv_istore (lv' := [(9, .int 0), (7, .long 1), (5, .long 0), (4, .int (-1)), (0, .ref (g.2.1 (138 + 0))), (1, .int a1), (2, .int a2), (3, .int a3)]) C.1 C.2.1 dX11_clearest_37 hl (by decide) rfl (fun ls hl => ?_)
      obtain ⟨n9, hw⟩ := hw
      exact k_X11_clearest_39 (Q := Q) C n9 a1 a2 a3 (-1) 0 1 0  _ hw (lv_sub hl [4, 5, 6, 7, 3, 2, 1, 0] rfl) hP hS
    · have hw := hw.2 h5
      refine lv_iconst (v := (-1)) C.1 C.2.1 dX11_clearest_25 (by decide) ?_
      exact retI (wf := (yw g)) C hP hS hw dX11_clearest_26
def b_X11_tune_94 (Q : Int32 → Mem → Prop) (k41 : Int32 → Int32 → Int32 → Int32 → Int32 → Int32 → Mem → Prop) (v1 : Int32) (v2 : Int32) (v3 : Int32) (v4 : Int32) (v6 : Int32) (s0 : Int32) (M : Mem) : Prop := (∀ x12 : Int32, x12 = (v6 + 1) → (k41 v1 v2 v3 v4 s0 x12 M))
set_option maxRecDepth 100000 in
set_option maxHeartbeats 4000000 in
theorem k_X11_tune_94 {p : Program} {l : Launch} {e : Env} {s : State} {m : MethodId} {args : Array Value} {below : List Frame} {meth : Method} {c : Code} {g : Geo} (C : CX g p s m args meth c cX11_tune 8 (some .int) RX11) {Q : Int32 → Mem → Prop} {k41 : Int32 → Int32 → Int32 → Int32 → Int32 → Int32 → Mem → Prop} (hk41 : ∀ (v1 : Int32) (v2 : Int32) (v3 : Int32) (v4 : Int32) (v5 : Int32) (v6 : Int32) (M : Mem), k41 v1 v2 v3 v4 v5 v6 M → ∀ (H : Heap) (locs : List Loc) (ls : Array Slot), lv_has ls 8 [(0, .ref (g.2.1 (138 + 0))), (1, .int v1), (2, .int v2), (3, .int v3), (4, .int v4), (5, .int v5), (6, .int v6)] → va_P g.1 clz (yw g M) H → va_S (Af 1 g) s.heap H locs → W p l e ({ frames := 5, cells := 0, slots := 0, locals := 123 } : Room) s m args below meth c H locs 0 0 (MQ below (va_Qi Q (PB g (yw g)) (Af 1 g)) args s 0 0 (Af 1 g)) (F0 m 41 ls [])) (v1 : Int32) (v2 : Int32) (v3 : Int32) (v4 : Int32) (v6 : Int32) (s0 : Int32) (M : Mem) (hw : b_X11_tune_94 Q k41 v1 v2 v3 v4 v6 s0 M) {H : Heap} {locs : List Loc} {ls : Array Slot} (hl : lv_has ls 8 [(0, .ref (g.2.1 (138 + 0))), (1, .int v1), (2, .int v2), (3, .int v3), (4, .int v4), (6, .int v6)]) (hP : va_P g.1 clz (yw g M) H) (hS : va_S (Af 1 g) s.heap H locs) : W p l e ({ frames := 5, cells := 0, slots := 0, locals := 123 } : Room) s m args below meth c H locs 0 0 (MQ below (va_Qi Q (PB g (yw g)) (Af 1 g)) args s 0 0 (Af 1 g)) (F0 m 94 ls [.int s0]) := by
  unfold b_X11_tune_94 at hw
  refine lv_istore (lv' := [(5, .int s0), (0, .ref (g.2.1 (138 + 0))), (1, .int v1), (2, .int v2), (3, .int v3), (4, .int v4), (6, .int v6)]) C.1 C.2.1 dX11_tune_94 hl (by decide) rfl (fun ls hl => ?_)
  obtain ⟨x12, e12⟩ : ∃ y : Int32, y = (v6 + 1) := ⟨_, rfl⟩
  have hw := hw x12 e12
  refine lv_iinc (v := x12) (lv' := [(6, .int x12), (5, .int s0), (0, .ref (g.2.1 (138 + 0))), (1, .int v1), (2, .int v2), (3, .int v3), (4, .int v4)]) C.1 C.2.1 dX11_tune_96 hl (k := 6) rfl (by rw [e12]; rfl) (by decide) rfl (fun ls hl => ?_)
  refine lv_goto (tgt := 41) C.1 C.2.1 dX11_tune_99 (by decide) ?_
  exact hk41 v1 v2 v3 v4 s0 x12  _ hw _ _ _ (lv_sub hl [2, 3, 4, 5, 6, 1, 0] rfl) hP hS
def b_X11_tune_78 (Q : Int32 → Mem → Prop) (k41 : Int32 → Int32 → Int32 → Int32 → Int32 → Int32 → Mem → Prop) (v1 : Int32) (v2 : Int32) (v3 : Int32) (v5 : Int32) (v6 : Int32) (v7 : Int32) (s0 : Int32) (M : Mem) : Prop := ((v7 ≤ v5 → (b_X11_tune_94 Q k41 v1 v2 v3 s0 v6 v5 M)) ∧ (¬ v7 ≤ v5 → (b_X11_tune_94 Q k41 v1 v2 v3 s0 v6 v7 M)))
set_option maxRecDepth 100000 in
set_option maxHeartbeats 4000000 in
theorem k_X11_tune_78 {p : Program} {l : Launch} {e : Env} {s : State} {m : MethodId} {args : Array Value} {below : List Frame} {meth : Method} {c : Code} {g : Geo} (C : CX g p s m args meth c cX11_tune 8 (some .int) RX11) {Q : Int32 → Mem → Prop} {k41 : Int32 → Int32 → Int32 → Int32 → Int32 → Int32 → Mem → Prop} (hk41 : ∀ (v1 : Int32) (v2 : Int32) (v3 : Int32) (v4 : Int32) (v5 : Int32) (v6 : Int32) (M : Mem), k41 v1 v2 v3 v4 v5 v6 M → ∀ (H : Heap) (locs : List Loc) (ls : Array Slot), lv_has ls 8 [(0, .ref (g.2.1 (138 + 0))), (1, .int v1), (2, .int v2), (3, .int v3), (4, .int v4), (5, .int v5), (6, .int v6)] → va_P g.1 clz (yw g M) H → va_S (Af 1 g) s.heap H locs → W p l e ({ frames := 5, cells := 0, slots := 0, locals := 123 } : Room) s m args below meth c H locs 0 0 (MQ below (va_Qi Q (PB g (yw g)) (Af 1 g)) args s 0 0 (Af 1 g)) (F0 m 41 ls [])) (v1 : Int32) (v2 : Int32) (v3 : Int32) (v5 : Int32) (v6 : Int32) (v7 : Int32) (s0 : Int32) (M : Mem) (hw : b_X11_tune_78 Q k41 v1 v2 v3 v5 v6 v7 s0 M) {H : Heap} {locs : List Loc} {ls : Array Slot} (hl : lv_has ls 8 [(0, .ref (g.2.1 (138 + 0))), (1, .int v1), (2, .int v2), (3, .int v3), (5, .int v5), (6, .int v6), (7, .int v7)]) (hP : va_P g.1 clz (yw g M) H) (hS : va_S (Af 1 g) s.heap H locs) : W p l e ({ frames := 5, cells := 0, slots := 0, locals := 123 } : Room) s m args below meth c H locs 0 0 (MQ below (va_Qi Q (PB g (yw g)) (Af 1 g)) args s 0 0 (Af 1 g)) (F0 m 78 ls [.int s0]) := by
  unfold b_X11_tune_78 at hw
  refine lv_istore (lv' := [(4, .int s0), (0, .ref (g.2.1 (138 + 0))), (1, .int v1), (2, .int v2), (3, .int v3), (5, .int v5), (6, .int v6), (7, .int v7)]) C.1 C.2.1 dX11_tune_78 hl (by decide) rfl (fun ls hl => ?_)
  refine lv_iload C.1 C.2.1 dX11_tune_80 (lv_at hl 7 rfl) ?_
  refine lv_iload C.1 C.2.1 dX11_tune_82 (lv_at hl 5 rfl) ?_
  refine lv_icmp_le (tgt := 92) C.1 C.2.1 dX11_tune_84 (by decide) (fun h11 => ?_) (fun h11 => ?_)
  · have hw := hw.1 h11
    refine lv_iload C.1 C.2.1 dX11_tune_92 (lv_at hl 5 rfl) ?_
    exact k_X11_tune_94 (Q := Q) C hk41 v1 v2 v3 s0 v6 v5  _ hw (lv_sub hl [1, 2, 3, 4, 0, 6] rfl) hP hS
  · have hw := hw.2 h11
    refine lv_iload C.1 C.2.1 dX11_tune_87 (lv_at hl 7 rfl) ?_
    refine lv_goto (tgt := 94) C.1 C.2.1 dX11_tune_89 (by decide) ?_
    exact k_X11_tune_94 (Q := Q) C hk41 v1 v2 v3 s0 v6 v7  _ hw (lv_sub hl [1, 2, 3, 4, 0, 6] rfl) hP hS
def b_X11_tune_41 (Q : Int32 → Mem → Prop) : Nat → Int32 → Int32 → Int32 → Int32 → Int32 → Int32 → Mem → Prop
  | 0, _, _, _, _, _, _, _ => False
  | n + 1, v1, v2, v3, v4, v5, v6, M => ((15 ≤ v6 → (Q v4 M)) ∧ (¬ 15 ≤ v6 → (p_X11_turnsBack v2 v6 0 M (fun M8 => (p_X11_powerBy v1 v3 M8 (fun r9 M9 => ((r9 ≤ v5 → (b_X11_tune_78 Q (fun v1 v2 v3 v4 v5 v6 M => b_X11_tune_41 Q n v1 v2 v3 v4 v5 v6 M) v1 v2 v3 v5 v6 r9 v4 M9)) ∧ (¬ r9 ≤ v5 → (b_X11_tune_78 Q (fun v1 v2 v3 v4 v5 v6 M => b_X11_tune_41 Q n v1 v2 v3 v4 v5 v6 M) v1 v2 v3 v5 v6 r9 v6 M9)))))))))
set_option maxRecDepth 100000 in
set_option maxHeartbeats 4000000 in
theorem k_X11_tune_41 {p : Program} {l : Launch} {e : Env} {s : State} {m : MethodId} {args : Array Value} {below : List Frame} {meth : Method} {c : Code} {g : Geo} (C : CX g p s m args meth c cX11_tune 8 (some .int) RX11) {Q : Int32 → Mem → Prop} : ∀ (n : Nat) (v1 : Int32) (v2 : Int32) (v3 : Int32) (v4 : Int32) (v5 : Int32) (v6 : Int32) (M : Mem) (hw : b_X11_tune_41 Q n v1 v2 v3 v4 v5 v6 M) {H : Heap} {locs : List Loc} {ls : Array Slot} (hl : lv_has ls 8 [(0, .ref (g.2.1 (138 + 0))), (1, .int v1), (2, .int v2), (3, .int v3), (4, .int v4), (5, .int v5), (6, .int v6)]) (hP : va_P g.1 clz (yw g M) H) (hS : va_S (Af 1 g) s.heap H locs), W p l e ({ frames := 5, cells := 0, slots := 0, locals := 123 } : Room) s m args below meth c H locs 0 0 (MQ below (va_Qi Q (PB g (yw g)) (Af 1 g)) args s 0 0 (Af 1 g)) (F0 m 41 ls []) := by
  intro n
  induction n with
  | zero => intro v1 v2 v3 v4 v5 v6 M hw H locs ls hl hP hS; exact absurd hw (by rw [b_X11_tune_41]; exact fun h => h)
  | succ n ih =>
    intro v1 v2 v3 v4 v5 v6 M hw H locs ls hl hP hS
    rw [b_X11_tune_41] at hw
    refine lv_iload C.1 C.2.1 dX11_tune_41 (lv_at hl 6 rfl) ?_
    refine lv_bipush (v := 15) C.1 C.2.1 dX11_tune_43 (by decide) ?_
    refine lv_icmp_ge (tgt := 102) C.1 C.2.1 dX11_tune_45 (by decide) (fun h7 => ?_) (fun h7 => ?_)
    · have hw := hw.1 h7
      refine lv_iload C.1 C.2.1 dX11_tune_102 (lv_at hl 4 rfl) ?_
      exact retI (wf := (yw g)) C hP hS hw dX11_tune_104
    · have hw := hw.2 h7
      refine lv_aload_n C.1 C.2.1 dX11_tune_48 rfl (lv_at hl 0 rfl) ?_
      refine lv_iload_n C.1 C.2.1 dX11_tune_49 rfl (lv_at hl 2 rfl) ?_
      refine lv_iload C.1 C.2.1 dX11_tune_50 (lv_at hl 6 rfl) ?_
      refine lv_iconst (v := 0) C.1 C.2.1 dX11_tune_52 (by decide) ?_
      refine goV (wf := (yw g)) (runV (w := yw g M) (As := [.int v2, .int v6, .int 0]) (rest := []) C lkX11_299 (c_X11_turnsBack l g C.2.2.2.2.2.2.2.2.2.2 v2 v6 0  M _ hw) hP hS rfl rfl ⟨Nat.le_of_ble_eq_true rfl, Nat.le_of_ble_eq_true rfl⟩ (xx_40 Nat.zero_lt_one) rfl rfl hl.1 rfl (Nat.le_of_ble_eq_true rfl) dX11_tune_53) hS (fun M8 hw H locs hP hS => ?_)
      refine lv_aload_n C.1 C.2.1 dX11_tune_56 rfl (lv_at hl 0 rfl) ?_
      refine lv_iload_n C.1 C.2.1 dX11_tune_57 rfl (lv_at hl 1 rfl) ?_
      refine lv_iload_n C.1 C.2.1 dX11_tune_58 rfl (lv_at hl 3 rfl) ?_
      refine goI (wf := (yw g)) (runV (w := yw g M8) (As := [.int v1, .int v3]) (rest := []) C lkX11_302 (c_X11_powerBy l g C.2.2.2.2.2.2.2.2.2.2 v1 v3  M8 _ hw) hP hS rfl rfl ⟨Nat.le_of_ble_eq_true rfl, Nat.le_of_ble_eq_true rfl⟩ (xx_40 Nat.zero_lt_one) rfl rfl hl.1 rfl (Nat.le_of_ble_eq_true rfl) dX11_tune_59) hS (fun r9 M9 hw H locs hP hS => ?_)
      refine lv_istore (lv' := [(7, .int r9), (0, .ref (g.2.1 (138 + 0))), (1, .int v1), (2, .int v2), (3, .int v3), (4, .int v4), (5, .int v5), (6, .int v6)]) C.1 C.2.1 dX11_tune_62 hl (by decide) rfl (fun ls hl => ?_)
      refine lv_iload C.1 C.2.1 dX11_tune_64 (lv_at hl 0 rfl) ?_
      refine lv_iload C.1 C.2.1 dX11_tune_66 (lv_at hl 6 rfl) ?_
      refine lv_icmp_le (tgt := 76) C.1 C.2.1 dX11_tune_68 (by decide) (fun h10 => ?_) (fun h10 => ?_)
      · have hw := hw.1 h10
        refine lv_iload C.1 C.2.1 dX11_tune_76 (lv_at hl 5 rfl) ?_
        exact k_X11_tune_78 (Q := Q) C (fun v1 v2 v3 v4 v5 v6  M hw H locs ls hl hP hS => ih v1 v2 v3 v4 v5 v6  M hw hl hP hS) v1 v2 v3 v5 v6 r9 v4  _ hw (lv_sub hl [1, 2, 3, 4, 6, 7, 0] rfl) hP hS
      · have hw := hw.2 h10
        refine lv_iload C.1 C.2.1 dX11_tune_71 (lv_at hl 7 rfl) ?_
        refine lv_goto (tgt := 78) C.1 C.2.1 dX11_tune_73 (by decide) ?_
        exact k_X11_tune_78 (Q := Q) C (fun v1 v2 v3 v4 v5 v6  M hw H locs ls hl hP hS => ih v1 v2 v3 v4 v5 v6  M hw hl hP hS) v1 v2 v3 v5 v6 r9 v6  _ hw (lv_sub hl [1, 2, 3, 4, 6, 7, 0] rfl) hP hS
def p_X11_tune (a1 : Int32) (a2 : Int32) (a3 : Int32) (M : Mem) (Q : Int32 → Mem → Prop) : Prop := (∀ M1 : Mem, M1 = sI M 40 0 2 0 → (p_X11_isRange a1 a2 1 M1 (fun r2 M2 => ((r2 = 0 → (Q (-1) M2)) ∧ (¬ r2 = 0 → (p_X11_isIn a3 0 61 M2 (fun r4 M4 => ((¬ r4 = 0 → (p_X11_laySamples a2 M4 (fun M6 => (∃ n41 : Nat, b_X11_tune_41 Q n41 a1 a2 a3 0 (-1) 0 M6)))) ∧ (r4 = 0 → (Q (-1) M4))))))))))
set_option maxRecDepth 100000 in
set_option maxHeartbeats 4000000 in
theorem c_X11_tune (l : Launch) (g : Geo) (gi : GI g) (a1 : Int32) (a2 : Int32) (a3 : Int32) (M : Mem) (Q : Int32 → Mem → Prop) (hw : p_X11_tune a1 a2 a3 M Q) : Met l yX11_tune (Cond.code yX11_tune cX11_tune 8 (some .int) :: bg) ({ frames := 5, cells := 0, slots := 0, locals := 123 } : Room) (va_Pc [.ref (g.2.1 (138 + 0)), .int a1, .int a2, .int a3] (PW g (yw g M))) (va_Qi Q (PB g (yw g)) (Af 1 g)) 0 0 (Af 1 g) := by
  refine Met.ofW (cc := cX11_tune) (maxL := 8) (ret := (some .int)) (by decide +kernel) rfl ?_
  intro p e s m args below meth c s₁ B hml hv
  obtain ⟨rfl, hv⟩ := hv
  have C := CX.start (own := RX11) B hml rfl gi hv
  have hP := hv.1
  have hS : va_S (Af 1 g) s.heap s.heap [] := va_S.rf
  have hl := lv_entry ([.ref (g.2.1 (138 + 0)), .int a1, .int a2, .int a3]) (n := 8) (Nat.le_of_ble_eq_true rfl)
  rw [lg_entry_eq]
  generalize (lg_sl ([.ref (g.2.1 (138 + 0)), .int a1, .int a2, .int a3]) ++ List.replicate (8 - (lg_sl ([.ref (g.2.1 (138 + 0)), .int a1, .int a2, .int a3])).length) Slot.unset).toArray = ls at hl ⊢
  have hl : lv_has ls 8 [(0, .ref (g.2.1 (138 + 0))), (1, .int a1), (2, .int a2), (3, .int a3)] := hl
  unfold p_X11_tune at hw
  refine lv_aload_n C.1 C.2.1 dX11_tune_0 rfl (lv_at hl 0 rfl) ?_
  refine lv_iconst (v := 0) C.1 C.2.1 dX11_tune_1 (by decide) ?_
  refine pX11_76 C hP hS Nat.zero_lt_one dX11_tune_2 (fun M1 e1 H locs hP hS => ?_)
  have hw := hw M1 e1
  refine lv_aload_n C.1 C.2.1 dX11_tune_5 rfl (lv_at hl 0 rfl) ?_
  refine lv_iload_n C.1 C.2.1 dX11_tune_6 rfl (lv_at hl 1 rfl) ?_
  refine lv_iload_n C.1 C.2.1 dX11_tune_7 rfl (lv_at hl 2 rfl) ?_
  refine lv_iconst (v := 1) C.1 C.2.1 dX11_tune_8 (by decide) ?_
  refine goI (wf := (yw g)) (runV (w := yw g M1) (As := [.int a1, .int a2, .int 1]) (rest := []) C lkX11_323 (c_X11_isRange l g C.2.2.2.2.2.2.2.2.2.2 a1 a2 1  M1 _ hw) hP hS rfl rfl ⟨Nat.le_of_ble_eq_true rfl, Nat.le_of_ble_eq_true rfl⟩ (xx_40 Nat.zero_lt_one) rfl rfl hl.1 rfl (Nat.le_of_ble_eq_true rfl) dX11_tune_9) hS (fun r2 M2 hw H locs hP hS => ?_)
  obtain ⟨hw, hz2⟩ := hw
  refine lv_if_eq (tgt := 25) C.1 C.2.1 dX11_tune_12 (by decide) (fun h3 => ?_) (fun h3 => ?_)
  · have hw := hw.1 h3
    refine lv_iconst (v := (-1)) C.1 C.2.1 dX11_tune_25 (by decide) ?_
    exact retI (wf := (yw g)) C hP hS hw dX11_tune_26
  · have hw := hw.2 h3
    refine lv_iload_n C.1 C.2.1 dX11_tune_15 rfl (lv_at hl 3 rfl) ?_
    refine lv_iconst (v := 0) C.1 C.2.1 dX11_tune_16 (by decide) ?_
    refine lv_bipush (v := 61) C.1 C.2.1 dX11_tune_17 (by decide) ?_
    refine goI (wf := (yw g)) (runS (w := yw g M2) (As := [.int a3, .int 0, .int 61]) (rest := []) C lkX11_166 (c_X11_isIn l g C.2.2.2.2.2.2.2.2.2.2 a3 0 61  M2 _ hw) hP hS rfl rfl ⟨Nat.le_of_ble_eq_true rfl, Nat.le_of_ble_eq_true rfl⟩ hl.1 rfl (Nat.le_of_ble_eq_true rfl) dX11_tune_19) hS (fun r4 M4 hw H locs hP hS => ?_)
    obtain ⟨hw, hz4⟩ := hw
    refine lv_if_ne (tgt := 27) C.1 C.2.1 dX11_tune_22 (by decide) (fun h5 => ?_) (fun h5 => ?_)
    · have hw := hw.1 h5
      refine lv_aload_n C.1 C.2.1 dX11_tune_27 rfl (lv_at hl 0 rfl) ?_
      refine lv_iload_n C.1 C.2.1 dX11_tune_28 rfl (lv_at hl 2 rfl) ?_
      refine goV (wf := (yw g)) (runV (w := yw g M4) (As := [.int a2]) (rest := []) C lkX11_289 (c_X11_laySamples l g C.2.2.2.2.2.2.2.2.2.2 a2  M4 _ hw) hP hS rfl rfl ⟨Nat.le_of_ble_eq_true rfl, Nat.le_of_ble_eq_true rfl⟩ (xx_40 Nat.zero_lt_one) rfl rfl hl.1 rfl (Nat.le_of_ble_eq_true rfl) dX11_tune_29) hS (fun M6 hw H locs hP hS => ?_)
      refine lv_iconst (v := 0) C.1 C.2.1 dX11_tune_32 (by decide) ?_
      refine lv_istore (lv' := [(4, .int 0), (0, .ref (g.2.1 (138 + 0))), (1, .int a1), (2, .int a2), (3, .int a3)]) C.1 C.2.1 dX11_tune_33 hl (by decide) rfl (fun ls hl => ?_)
      refine lv_iconst (v := (-1)) C.1 C.2.1 dX11_tune_35 (by decide) ?_
      refine lv_istore (lv' := [(5, .int (-1)), (4, .int 0), (0, .ref (g.2.1 (138 + 0))), (1, .int a1), (2, .int a2), (3, .int a3)]) C.1 C.2.1 dX11_tune_36 hl (by decide) rfl (fun ls hl => ?_)
      refine lv_iconst (v := 0) C.1 C.2.1 dX11_tune_38 (by decide) ?_
      refine lv_istore (lv' := [(6, .int 0), (5, .int (-1)), (4, .int 0), (0, .ref (g.2.1 (138 + 0))), (1, .int a1), (2, .int a2), (3, .int a3)]) C.1 C.2.1 dX11_tune_39 hl (by decide) rfl (fun ls hl => ?_)
      obtain ⟨n9, hw⟩ := hw
      exact k_X11_tune_41 (Q := Q) C n9 a1 a2 a3 0 (-1) 0  _ hw (lv_sub hl [3, 4, 5, 6, 2, 1, 0] rfl) hP hS
    · have hw := hw.2 h5
      refine lv_iconst (v := (-1)) C.1 C.2.1 dX11_tune_25 (by decide) ?_
      exact retI (wf := (yw g)) C hP hS hw dX11_tune_26
def p_X11_of (a1 : Int32) (M : Mem) (Q : Int32 → Mem → Prop) : Prop := (vp_in (((298 : Int32) * (M.1 40 0 35)) + a1) 3874 ∧ (Q (M.1 54 0 ((((298 : Int32) * (M.1 40 0 35)) + a1) : Int32).toNatClampNeg) M))
set_option maxRecDepth 100000 in
set_option maxHeartbeats 4000000 in
theorem c_X11_of (l : Launch) (g : Geo) (gi : GI g) (a1 : Int32) (M : Mem) (Q : Int32 → Mem → Prop) (hw : p_X11_of a1 M Q) : Met l yX11_of (Cond.code yX11_of cX11_of 2 (some .int) :: bg) ({ frames := 0, cells := 0, slots := 0, locals := 0 } : Room) (va_Pc [.ref (g.2.1 (138 + 0)), .int a1] (PW g (yw g M))) (va_Qi Q (PB g (yw g)) (Af 1 g)) 0 0 (Af 1 g) := by
  refine Met.ofW (cc := cX11_of) (maxL := 2) (ret := (some .int)) (by decide +kernel) rfl ?_
  intro p e s m args below meth c s₁ B hml hv
  obtain ⟨rfl, hv⟩ := hv
  have C := CX.start (own := RX11) B hml rfl gi hv
  have hP := hv.1
  have hS : va_S (Af 1 g) s.heap s.heap [] := va_S.rf
  have hl := lv_entry ([.ref (g.2.1 (138 + 0)), .int a1]) (n := 2) (Nat.le_of_ble_eq_true rfl)
  rw [lg_entry_eq]
  generalize (lg_sl ([.ref (g.2.1 (138 + 0)), .int a1]) ++ List.replicate (2 - (lg_sl ([.ref (g.2.1 (138 + 0)), .int a1])).length) Slot.unset).toArray = ls at hl ⊢
  have hl : lv_has ls 2 [(0, .ref (g.2.1 (138 + 0))), (1, .int a1)] := hl
  unfold p_X11_of at hw
  refine lv_aload_n C.1 C.2.1 dX11_of_0 rfl (lv_at hl 0 rfl) ?_
  refine gX11_55 C hP Nat.zero_lt_one dX11_of_1 ?_
  refine lv_sipush (v := 298) C.1 C.2.1 dX11_of_4 (by decide) ?_
  refine lv_aload_n C.1 C.2.1 dX11_of_7 rfl (lv_at hl 0 rfl) ?_
  refine gX11_143 C hP Nat.zero_lt_one dX11_of_8 ?_
  refine lv_imul C.1 C.2.1 dX11_of_11 ?_
  refine lv_iload_n C.1 C.2.1 dX11_of_12 rfl (lv_at hl 1 rfl) ?_
  refine lv_iadd C.1 C.2.1 dX11_of_13 ?_
  obtain ⟨h1, hw⟩ := hw
  refine al_54 C hP Nat.zero_lt_one h1 dX11_of_14 ?_
  exact retI (wf := (yw g)) C hP hS hw dX11_of_15
def p_X11_at (a1 : Int32) (a2 : Int32) (M : Mem) (Q : Int32 → Mem → Prop) : Prop := (p_X11_of ((((73 : Int32) * a1) + a2)) M (fun r1 M1 => (Q r1 M1)))
set_option maxRecDepth 100000 in
set_option maxHeartbeats 4000000 in
theorem c_X11_at (l : Launch) (g : Geo) (gi : GI g) (a1 : Int32) (a2 : Int32) (M : Mem) (Q : Int32 → Mem → Prop) (hw : p_X11_at a1 a2 M Q) : Met l yX11_at (Cond.code yX11_at cX11_at 3 (some .int) :: bg) ({ frames := 1, cells := 0, slots := 0, locals := 21 } : Room) (va_Pc [.ref (g.2.1 (138 + 0)), .int a1, .int a2] (PW g (yw g M))) (va_Qi Q (PB g (yw g)) (Af 1 g)) 0 0 (Af 1 g) := by
  refine Met.ofW (cc := cX11_at) (maxL := 3) (ret := (some .int)) (by decide +kernel) rfl ?_
  intro p e s m args below meth c s₁ B hml hv
  obtain ⟨rfl, hv⟩ := hv
  have C := CX.start (own := RX11) B hml rfl gi hv
  have hP := hv.1
  have hS : va_S (Af 1 g) s.heap s.heap [] := va_S.rf
  have hl := lv_entry ([.ref (g.2.1 (138 + 0)), .int a1, .int a2]) (n := 3) (Nat.le_of_ble_eq_true rfl)
  rw [lg_entry_eq]
  generalize (lg_sl ([.ref (g.2.1 (138 + 0)), .int a1, .int a2]) ++ List.replicate (3 - (lg_sl ([.ref (g.2.1 (138 + 0)), .int a1, .int a2])).length) Slot.unset).toArray = ls at hl ⊢
  have hl : lv_has ls 3 [(0, .ref (g.2.1 (138 + 0))), (1, .int a1), (2, .int a2)] := hl
  unfold p_X11_at at hw
  refine lv_aload_n C.1 C.2.1 dX11_at_0 rfl (lv_at hl 0 rfl) ?_
  refine lv_bipush (v := 73) C.1 C.2.1 dX11_at_1 (by decide) ?_
  refine lv_iload_n C.1 C.2.1 dX11_at_3 rfl (lv_at hl 1 rfl) ?_
  refine lv_imul C.1 C.2.1 dX11_at_4 ?_
  refine lv_iload_n C.1 C.2.1 dX11_at_5 rfl (lv_at hl 2 rfl) ?_
  refine lv_iadd C.1 C.2.1 dX11_at_6 ?_
  refine goI (wf := (yw g)) (runV (w := yw g M) (As := [.int (((73 : Int32) * a1) + a2)]) (rest := []) C lkX11_340 (c_X11_of l g C.2.2.2.2.2.2.2.2.2.2 ((((73 : Int32) * a1) + a2))  M _ hw) hP hS rfl rfl ⟨Nat.le_of_ble_eq_true rfl, Nat.le_of_ble_eq_true rfl⟩ (xx_40 Nat.zero_lt_one) rfl rfl hl.1 rfl (Nat.le_of_ble_eq_true rfl) dX11_at_7) hS (fun r1 M1 hw H locs hP hS => ?_)
  exact retI (wf := (yw g)) C hP hS hw dX11_at_10
def p_X11_put (a1 : Int32) (a2 : Int32) (a3 : Int32) (M : Mem) (Q : Mem → Prop) : Prop := (p_X11_lay ((((73 : Int32) * a1) + a2)) a3 M (fun M1 => (Q M1)))
set_option maxRecDepth 100000 in
set_option maxHeartbeats 4000000 in
theorem c_X11_put (l : Launch) (g : Geo) (gi : GI g) (a1 : Int32) (a2 : Int32) (a3 : Int32) (M : Mem) (Q : Mem → Prop) (hw : p_X11_put a1 a2 a3 M Q) : Met l yX11_put (Cond.code yX11_put cX11_put 4 none :: bg) ({ frames := 1, cells := 0, slots := 0, locals := 22 } : Room) (va_Pc [.ref (g.2.1 (138 + 0)), .int a1, .int a2, .int a3] (PW g (yw g M))) (va_Qv Q (PB g (yw g)) (Af 1 g)) 0 0 (Af 1 g) := by
  refine Met.ofW (cc := cX11_put) (maxL := 4) (ret := none) (by decide +kernel) rfl ?_
  intro p e s m args below meth c s₁ B hml hv
  obtain ⟨rfl, hv⟩ := hv
  have C := CX.start (own := RX11) B hml rfl gi hv
  have hP := hv.1
  have hS : va_S (Af 1 g) s.heap s.heap [] := va_S.rf
  have hl := lv_entry ([.ref (g.2.1 (138 + 0)), .int a1, .int a2, .int a3]) (n := 4) (Nat.le_of_ble_eq_true rfl)
  rw [lg_entry_eq]
  generalize (lg_sl ([.ref (g.2.1 (138 + 0)), .int a1, .int a2, .int a3]) ++ List.replicate (4 - (lg_sl ([.ref (g.2.1 (138 + 0)), .int a1, .int a2, .int a3])).length) Slot.unset).toArray = ls at hl ⊢
  have hl : lv_has ls 4 [(0, .ref (g.2.1 (138 + 0))), (1, .int a1), (2, .int a2), (3, .int a3)] := hl
  unfold p_X11_put at hw
  refine lv_aload_n C.1 C.2.1 dX11_put_0 rfl (lv_at hl 0 rfl) ?_
  refine lv_bipush (v := 73) C.1 C.2.1 dX11_put_1 (by decide) ?_
  refine lv_iload_n C.1 C.2.1 dX11_put_3 rfl (lv_at hl 1 rfl) ?_
  refine lv_imul C.1 C.2.1 dX11_put_4 ?_
  refine lv_iload_n C.1 C.2.1 dX11_put_5 rfl (lv_at hl 2 rfl) ?_
  refine lv_iadd C.1 C.2.1 dX11_put_6 ?_
  refine lv_iload_n C.1 C.2.1 dX11_put_7 rfl (lv_at hl 3 rfl) ?_
  refine goV (wf := (yw g)) (runV (w := yw g M) (As := [.int (((73 : Int32) * a1) + a2), .int a3]) (rest := []) C lkX11_153 (c_X11_lay l g C.2.2.2.2.2.2.2.2.2.2 ((((73 : Int32) * a1) + a2)) a3  M _ hw) hP hS rfl rfl ⟨Nat.le_of_ble_eq_true rfl, Nat.le_of_ble_eq_true rfl⟩ (xx_40 Nat.zero_lt_one) rfl rfl hl.1 rfl (Nat.le_of_ble_eq_true rfl) dX11_put_8) hS (fun M1 hw H locs hP hS => ?_)
  exact retV (wf := (yw g)) C hP hS hw dX11_put_11
def b_X11_copyBank_2 (Q : Mem → Prop) : Nat → Int32 → Int32 → Int32 → Mem → Prop
  | 0, _, _, _, _ => False
  | n + 1, v1, v2, v3, M => ((298 ≤ v3 → (Q M)) ∧ (¬ 298 ≤ v3 → (vp_in (((298 : Int32) * v1) + v3) 3874 ∧ (vp_in (((298 : Int32) * v2) + v3) 3874 ∧ (∀ M3 : Mem, M3 = sI M 54 0 ((((298 : Int32) * v2) + v3) : Int32).toNatClampNeg (M.1 54 0 ((((298 : Int32) * v1) + v3) : Int32).toNatClampNeg) → (∀ x4 : Int32, x4 = (v3 + 1) → (b_X11_copyBank_2 Q n v1 v2 x4 M3)))))))
set_option maxRecDepth 100000 in
set_option maxHeartbeats 4000000 in
theorem k_X11_copyBank_2 {p : Program} {l : Launch} {e : Env} {s : State} {m : MethodId} {args : Array Value} {below : List Frame} {meth : Method} {c : Code} {g : Geo} (C : CX g p s m args meth c cX11_copyBank 4 none RX11) {Q : Mem → Prop} : ∀ (n : Nat) (v1 : Int32) (v2 : Int32) (v3 : Int32) (M : Mem) (hw : b_X11_copyBank_2 Q n v1 v2 v3 M) {H : Heap} {locs : List Loc} {ls : Array Slot} (hl : lv_has ls 4 [(0, .ref (g.2.1 (138 + 0))), (1, .int v1), (2, .int v2), (3, .int v3)]) (hP : va_P g.1 clz (yw g M) H) (hS : va_S (Af 1 g) s.heap H locs), W p l e ({ frames := 0, cells := 0, slots := 0, locals := 0 } : Room) s m args below meth c H locs 0 0 (MQ below (va_Qv Q (PB g (yw g)) (Af 1 g)) args s 0 0 (Af 1 g)) (F0 m 2 ls []) := by
  intro n
  induction n with
  | zero => intro v1 v2 v3 M hw H locs ls hl hP hS; exact absurd hw (by rw [b_X11_copyBank_2]; exact fun h => h)
  | succ n ih =>
    intro v1 v2 v3 M hw H locs ls hl hP hS
    rw [b_X11_copyBank_2] at hw
    refine lv_iload_n C.1 C.2.1 dX11_copyBank_2 rfl (lv_at hl 3 rfl) ?_
    refine lv_sipush (v := 298) C.1 C.2.1 dX11_copyBank_3 (by decide) ?_
    refine lv_icmp_ge (tgt := 39) C.1 C.2.1 dX11_copyBank_6 (by decide) (fun h1 => ?_) (fun h1 => ?_)
    · have hw := hw.1 h1
      exact retV (wf := (yw g)) C hP hS hw dX11_copyBank_39
    · have hw := hw.2 h1
      refine lv_aload_n C.1 C.2.1 dX11_copyBank_9 rfl (lv_at hl 0 rfl) ?_
      refine gX11_55 C hP Nat.zero_lt_one dX11_copyBank_10 ?_
      refine lv_sipush (v := 298) C.1 C.2.1 dX11_copyBank_13 (by decide) ?_
      refine lv_iload_n C.1 C.2.1 dX11_copyBank_16 rfl (lv_at hl 2 rfl) ?_
      refine lv_imul C.1 C.2.1 dX11_copyBank_17 ?_
      refine lv_iload_n C.1 C.2.1 dX11_copyBank_18 rfl (lv_at hl 3 rfl) ?_
      refine lv_iadd C.1 C.2.1 dX11_copyBank_19 ?_
      refine lv_aload_n C.1 C.2.1 dX11_copyBank_20 rfl (lv_at hl 0 rfl) ?_
      refine gX11_55 C hP Nat.zero_lt_one dX11_copyBank_21 ?_
      refine lv_sipush (v := 298) C.1 C.2.1 dX11_copyBank_24 (by decide) ?_
      refine lv_iload_n C.1 C.2.1 dX11_copyBank_27 rfl (lv_at hl 1 rfl) ?_
      refine lv_imul C.1 C.2.1 dX11_copyBank_28 ?_
      refine lv_iload_n C.1 C.2.1 dX11_copyBank_29 rfl (lv_at hl 3 rfl) ?_
      refine lv_iadd C.1 C.2.1 dX11_copyBank_30 ?_
      obtain ⟨h2, hw⟩ := hw
      refine al_54 C hP Nat.zero_lt_one h2 dX11_copyBank_31 ?_
      obtain ⟨h3, hw⟩ := hw
      refine as_54 C hP hS Nat.zero_lt_one h3 dX11_copyBank_32 (fun M3 e3 H locs hP hS => ?_)
      have hw := hw M3 e3
      obtain ⟨x4, e4⟩ : ∃ y : Int32, y = (v3 + 1) := ⟨_, rfl⟩
      have hw := hw x4 e4
      refine lv_iinc (v := x4) (lv' := [(3, .int x4), (0, .ref (g.2.1 (138 + 0))), (1, .int v1), (2, .int v2)]) C.1 C.2.1 dX11_copyBank_33 hl (k := 3) rfl (by rw [e4]; rfl) (by decide) rfl (fun ls hl => ?_)
      refine lv_goto (tgt := 2) C.1 C.2.1 dX11_copyBank_36 (by decide) ?_
      exact ih v1 v2 x4  _ hw (lv_sub hl [1, 2, 3, 0] rfl) hP hS
def p_X11_copyBank (a1 : Int32) (a2 : Int32) (M : Mem) (Q : Mem → Prop) : Prop := (∃ n2 : Nat, b_X11_copyBank_2 Q n2 a1 a2 0 M)
set_option maxRecDepth 100000 in
set_option maxHeartbeats 4000000 in
theorem c_X11_copyBank (l : Launch) (g : Geo) (gi : GI g) (a1 : Int32) (a2 : Int32) (M : Mem) (Q : Mem → Prop) (hw : p_X11_copyBank a1 a2 M Q) : Met l yX11_copyBank (Cond.code yX11_copyBank cX11_copyBank 4 none :: bg) ({ frames := 0, cells := 0, slots := 0, locals := 0 } : Room) (va_Pc [.ref (g.2.1 (138 + 0)), .int a1, .int a2] (PW g (yw g M))) (va_Qv Q (PB g (yw g)) (Af 1 g)) 0 0 (Af 1 g) := by
  refine Met.ofW (cc := cX11_copyBank) (maxL := 4) (ret := none) (by decide +kernel) rfl ?_
  intro p e s m args below meth c s₁ B hml hv
  obtain ⟨rfl, hv⟩ := hv
  have C := CX.start (own := RX11) B hml rfl gi hv
  have hP := hv.1
  have hS : va_S (Af 1 g) s.heap s.heap [] := va_S.rf
  have hl := lv_entry ([.ref (g.2.1 (138 + 0)), .int a1, .int a2]) (n := 4) (Nat.le_of_ble_eq_true rfl)
  rw [lg_entry_eq]
  generalize (lg_sl ([.ref (g.2.1 (138 + 0)), .int a1, .int a2]) ++ List.replicate (4 - (lg_sl ([.ref (g.2.1 (138 + 0)), .int a1, .int a2])).length) Slot.unset).toArray = ls at hl ⊢
  have hl : lv_has ls 4 [(0, .ref (g.2.1 (138 + 0))), (1, .int a1), (2, .int a2)] := hl
  unfold p_X11_copyBank at hw
  refine lv_iconst (v := 0) C.1 C.2.1 dX11_copyBank_0 (by decide) ?_
  refine lv_istore_n (lv' := [(3, .int 0), (0, .ref (g.2.1 (138 + 0))), (1, .int a1), (2, .int a2)]) C.1 C.2.1 dX11_copyBank_1 rfl hl (by decide) rfl (fun ls hl => ?_)
  obtain ⟨n9, hw⟩ := hw
  exact k_X11_copyBank_2 (Q := Q) C n9 a1 a2 0  _ hw (lv_sub hl [1, 2, 3, 0] rfl) hP hS
def b_X11_canUndo_39 (Q : Mem → Prop) (M : Mem) : Prop := (p_X11_copyBank 0 (((3 : Int32) + (M.1 40 0 36))) M (fun M2 => (∀ M3 : Mem, M3 = sI M2 40 0 36 ((M2.1 40 0 36) + 1) → (Q M3))))
set_option maxRecDepth 100000 in
set_option maxHeartbeats 4000000 in
theorem k_X11_canUndo_39 {p : Program} {l : Launch} {e : Env} {s : State} {m : MethodId} {args : Array Value} {below : List Frame} {meth : Method} {c : Code} {g : Geo} (C : CX g p s m args meth c cX11_canUndo 2 none RX11) {Q : Mem → Prop} (M : Mem) (hw : b_X11_canUndo_39 Q M) {H : Heap} {locs : List Loc} {ls : Array Slot} (hl : lv_has ls 2 [(0, .ref (g.2.1 (138 + 0)))]) (hP : va_P g.1 clz (yw g M) H) (hS : va_S (Af 1 g) s.heap H locs) : W p l e ({ frames := 1, cells := 0, slots := 0, locals := 23 } : Room) s m args below meth c H locs 0 0 (MQ below (va_Qv Q (PB g (yw g)) (Af 1 g)) args s 0 0 (Af 1 g)) (F0 m 39 ls []) := by
  unfold b_X11_canUndo_39 at hw
  refine lv_aload_n C.1 C.2.1 dX11_canUndo_39 rfl (lv_at hl 0 rfl) ?_
  refine lv_iconst (v := 0) C.1 C.2.1 dX11_canUndo_40 (by decide) ?_
  refine lv_iconst (v := 3) C.1 C.2.1 dX11_canUndo_41 (by decide) ?_
  refine lv_aload_n C.1 C.2.1 dX11_canUndo_42 rfl (lv_at hl 0 rfl) ?_
  refine gX11_146 C hP Nat.zero_lt_one dX11_canUndo_43 ?_
  refine lv_iadd C.1 C.2.1 dX11_canUndo_46 ?_
  refine goV (wf := (yw g)) (runV (w := yw g M) (As := [.int 0, .int ((3 : Int32) + (M.1 40 0 36))]) (rest := []) C lkX11_343 (c_X11_copyBank l g C.2.2.2.2.2.2.2.2.2.2 0 (((3 : Int32) + (M.1 40 0 36)))  M _ hw) hP hS rfl rfl ⟨Nat.le_of_ble_eq_true rfl, Nat.le_of_ble_eq_true rfl⟩ (xx_40 Nat.zero_lt_one) rfl rfl hl.1 rfl (Nat.le_of_ble_eq_true rfl) dX11_canUndo_47) hS (fun M2 hw H locs hP hS => ?_)
  refine lv_aload_n C.1 C.2.1 dX11_canUndo_50 rfl (lv_at hl 0 rfl) ?_
  refine lv_dup C.1 C.2.1 dX11_canUndo_51 rfl ?_
  refine gX11_146 C hP Nat.zero_lt_one dX11_canUndo_52 ?_
  refine lv_iconst (v := 1) C.1 C.2.1 dX11_canUndo_55 (by decide) ?_
  refine lv_iadd C.1 C.2.1 dX11_canUndo_56 ?_
  refine pX11_146 C hP hS Nat.zero_lt_one dX11_canUndo_57 (fun M3 e3 H locs hP hS => ?_)
  have hw := hw M3 e3
  exact retV (wf := (yw g)) C hP hS hw dX11_canUndo_60
def b_X11_canUndo_33 (Q : Mem → Prop) (k39 : Mem → Prop) (M : Mem) : Prop := (∀ M5 : Mem, M5 = sI M 40 0 36 9 → (k39  M5))
set_option maxRecDepth 100000 in
set_option maxHeartbeats 4000000 in
theorem k_X11_canUndo_33 {p : Program} {l : Launch} {e : Env} {s : State} {m : MethodId} {args : Array Value} {below : List Frame} {meth : Method} {c : Code} {g : Geo} (C : CX g p s m args meth c cX11_canUndo 2 none RX11) {Q : Mem → Prop} {k39 : Mem → Prop} (hk39 : ∀ (M : Mem), k39 M → ∀ (H : Heap) (locs : List Loc) (ls : Array Slot), lv_has ls 2 [(0, .ref (g.2.1 (138 + 0)))] → va_P g.1 clz (yw g M) H → va_S (Af 1 g) s.heap H locs → W p l e ({ frames := 1, cells := 0, slots := 0, locals := 23 } : Room) s m args below meth c H locs 0 0 (MQ below (va_Qv Q (PB g (yw g)) (Af 1 g)) args s 0 0 (Af 1 g)) (F0 m 39 ls [])) (M : Mem) (hw : b_X11_canUndo_33 Q k39 M) {H : Heap} {locs : List Loc} {ls : Array Slot} (hl : lv_has ls 2 [(0, .ref (g.2.1 (138 + 0)))]) (hP : va_P g.1 clz (yw g M) H) (hS : va_S (Af 1 g) s.heap H locs) : W p l e ({ frames := 1, cells := 0, slots := 0, locals := 23 } : Room) s m args below meth c H locs 0 0 (MQ below (va_Qv Q (PB g (yw g)) (Af 1 g)) args s 0 0 (Af 1 g)) (F0 m 33 ls []) := by
  unfold b_X11_canUndo_33 at hw
  refine lv_aload_n C.1 C.2.1 dX11_canUndo_33 rfl (lv_at hl 0 rfl) ?_
  refine lv_bipush (v := 9) C.1 C.2.1 dX11_canUndo_34 (by decide) ?_
  refine pX11_146 C hP hS Nat.zero_lt_one dX11_canUndo_36 (fun M5 e5 H locs hP hS => ?_)
  have hw := hw M5 e5
  exact hk39   _ hw _ _ _ (lv_sub hl [0] rfl) hP hS
def b_X11_canUndo_11 (Q : Mem → Prop) (k39 : Mem → Prop) : Nat → Int32 → Mem → Prop
  | 0, _, _ => False
  | n + 1, v1, M => ((10 ≤ v1 → (b_X11_canUndo_33 Q k39  M)) ∧ (¬ 10 ≤ v1 → (p_X11_copyBank (((3 : Int32) + v1)) (((2 : Int32) + v1)) M (fun M6 => (∀ x7 : Int32, x7 = (v1 + 1) → (b_X11_canUndo_11 Q k39 n x7 M6))))))
set_option maxRecDepth 100000 in
set_option maxHeartbeats 4000000 in
theorem k_X11_canUndo_11 {p : Program} {l : Launch} {e : Env} {s : State} {m : MethodId} {args : Array Value} {below : List Frame} {meth : Method} {c : Code} {g : Geo} (C : CX g p s m args meth c cX11_canUndo 2 none RX11) {Q : Mem → Prop} {k39 : Mem → Prop} (hk39 : ∀ (M : Mem), k39 M → ∀ (H : Heap) (locs : List Loc) (ls : Array Slot), lv_has ls 2 [(0, .ref (g.2.1 (138 + 0)))] → va_P g.1 clz (yw g M) H → va_S (Af 1 g) s.heap H locs → W p l e ({ frames := 1, cells := 0, slots := 0, locals := 23 } : Room) s m args below meth c H locs 0 0 (MQ below (va_Qv Q (PB g (yw g)) (Af 1 g)) args s 0 0 (Af 1 g)) (F0 m 39 ls [])) : ∀ (n : Nat) (v1 : Int32) (M : Mem) (hw : b_X11_canUndo_11 Q k39 n v1 M) {H : Heap} {locs : List Loc} {ls : Array Slot} (hl : lv_has ls 2 [(0, .ref (g.2.1 (138 + 0))), (1, .int v1)]) (hP : va_P g.1 clz (yw g M) H) (hS : va_S (Af 1 g) s.heap H locs), W p l e ({ frames := 1, cells := 0, slots := 0, locals := 23 } : Room) s m args below meth c H locs 0 0 (MQ below (va_Qv Q (PB g (yw g)) (Af 1 g)) args s 0 0 (Af 1 g)) (F0 m 11 ls []) := by
  intro n
  induction n with
  | zero => intro v1 M hw H locs ls hl hP hS; exact absurd hw (by rw [b_X11_canUndo_11]; exact fun h => h)
  | succ n ih =>
    intro v1 M hw H locs ls hl hP hS
    rw [b_X11_canUndo_11] at hw
    refine lv_iload_n C.1 C.2.1 dX11_canUndo_11 rfl (lv_at hl 1 rfl) ?_
    refine lv_bipush (v := 10) C.1 C.2.1 dX11_canUndo_12 (by decide) ?_
    refine lv_icmp_ge (tgt := 33) C.1 C.2.1 dX11_canUndo_14 (by decide) (fun h4 => ?_) (fun h4 => ?_)
    · have hw := hw.1 h4
      exact k_X11_canUndo_33 (Q := Q) C hk39   _ hw (lv_sub hl [0] rfl) hP hS
    · have hw := hw.2 h4
      refine lv_aload_n C.1 C.2.1 dX11_canUndo_17 rfl (lv_at hl 0 rfl) ?_
      refine lv_iconst (v := 3) C.1 C.2.1 dX11_canUndo_18 (by decide) ?_
      refine lv_iload_n C.1 C.2.1 dX11_canUndo_19 rfl (lv_at hl 1 rfl) ?_
      refine lv_iadd C.1 C.2.1 dX11_canUndo_20 ?_
      refine lv_iconst (v := 2) C.1 C.2.1 dX11_canUndo_21 (by decide) ?_
      refine lv_iload_n C.1 C.2.1 dX11_canUndo_22 rfl (lv_at hl 1 rfl) ?_
      refine lv_iadd C.1 C.2.1 dX11_canUndo_23 ?_
      refine goV (wf := (yw g)) (runV (w := yw g M) (As := [.int ((3 : Int32) + v1), .int ((2 : Int32) + v1)]) (rest := []) C lkX11_343 (c_X11_copyBank l g C.2.2.2.2.2.2.2.2.2.2 (((3 : Int32) + v1)) (((2 : Int32) + v1))  M _ hw) hP hS rfl rfl ⟨Nat.le_of_ble_eq_true rfl, Nat.le_of_ble_eq_true rfl⟩ (xx_40 Nat.zero_lt_one) rfl rfl hl.1 rfl (Nat.le_of_ble_eq_true rfl) dX11_canUndo_24) hS (fun M6 hw H locs hP hS => ?_)
      obtain ⟨x7, e7⟩ : ∃ y : Int32, y = (v1 + 1) := ⟨_, rfl⟩
      have hw := hw x7 e7
      refine lv_iinc (v := x7) (lv' := [(1, .int x7), (0, .ref (g.2.1 (138 + 0)))]) C.1 C.2.1 dX11_canUndo_27 hl (k := 1) rfl (by rw [e7]; rfl) (by decide) rfl (fun ls hl => ?_)
      refine lv_goto (tgt := 11) C.1 C.2.1 dX11_canUndo_30 (by decide) ?_
      exact ih x7  _ hw (lv_sub hl [1, 0] rfl) hP hS
def p_X11_canUndo (M : Mem) (Q : Mem → Prop) : Prop := ((¬ (M.1 40 0 36) = 10 → (b_X11_canUndo_39 Q  M)) ∧ ((M.1 40 0 36) = 10 → (∃ n11 : Nat, b_X11_canUndo_11 Q (fun M => b_X11_canUndo_39 Q M) n11 1 M)))
set_option maxRecDepth 100000 in
set_option maxHeartbeats 4000000 in
theorem c_X11_canUndo (l : Launch) (g : Geo) (gi : GI g) (M : Mem) (Q : Mem → Prop) (hw : p_X11_canUndo  M Q) : Met l yX11_canUndo (Cond.code yX11_canUndo cX11_canUndo 2 none :: bg) ({ frames := 1, cells := 0, slots := 0, locals := 23 } : Room) (va_Pc [.ref (g.2.1 (138 + 0))] (PW g (yw g M))) (va_Qv Q (PB g (yw g)) (Af 1 g)) 0 0 (Af 1 g) := by
  refine Met.ofW (cc := cX11_canUndo) (maxL := 2) (ret := none) (by decide +kernel) rfl ?_
  intro p e s m args below meth c s₁ B hml hv
  obtain ⟨rfl, hv⟩ := hv
  have C := CX.start (own := RX11) B hml rfl gi hv
  have hP := hv.1
  have hS : va_S (Af 1 g) s.heap s.heap [] := va_S.rf
  have hl := lv_entry ([.ref (g.2.1 (138 + 0))]) (n := 2) (Nat.le_of_ble_eq_true rfl)
  rw [lg_entry_eq]
  generalize (lg_sl ([.ref (g.2.1 (138 + 0))]) ++ List.replicate (2 - (lg_sl ([.ref (g.2.1 (138 + 0))])).length) Slot.unset).toArray = ls at hl ⊢
  have hl : lv_has ls 2 [(0, .ref (g.2.1 (138 + 0)))] := hl
  unfold p_X11_canUndo at hw
  refine lv_aload_n C.1 C.2.1 dX11_canUndo_0 rfl (lv_at hl 0 rfl) ?_
  refine gX11_146 C hP Nat.zero_lt_one dX11_canUndo_1 ?_
  refine lv_bipush (v := 10) C.1 C.2.1 dX11_canUndo_4 (by decide) ?_
  refine lv_icmp_ne (tgt := 39) C.1 C.2.1 dX11_canUndo_6 (by decide) (fun h1 => ?_) (fun h1 => ?_)
  · have hw := hw.1 h1
    exact k_X11_canUndo_39 (Q := Q) C   _ hw (lv_sub hl [0] rfl) hP hS
  · have hw := hw.2 h1
    refine lv_iconst (v := 1) C.1 C.2.1 dX11_canUndo_9 (by decide) ?_
    refine lv_istore_n (lv' := [(1, .int 1), (0, .ref (g.2.1 (138 + 0)))]) C.1 C.2.1 dX11_canUndo_10 rfl hl (by decide) rfl (fun ls hl => ?_)
    obtain ⟨n9, hw⟩ := hw
    exact k_X11_canUndo_11 (Q := Q) C (fun   M hw H locs ls hl hP hS => k_X11_canUndo_39 (Q := Q) C   M hw hl hP hS) n9 1  _ hw (lv_sub hl [1, 0] rfl) hP hS
def p_X11_undo (M : Mem) (Q : Int32 → Mem → Prop) : Prop := (∀ M1 : Mem, M1 = sI M 40 0 2 0 → ((¬ (M1.1 40 0 36) = 0 → (∀ M3 : Mem, M3 = sI M1 40 0 36 ((M1.1 40 0 36) - 1) → (p_X11_copyBank (((3 : Int32) + (M3.1 40 0 36))) 0 M3 (fun M4 => (Q (M4.1 40 0 36) M4))))) ∧ ((M1.1 40 0 36) = 0 → (Q (-1) M1))))
set_option maxRecDepth 100000 in
set_option maxHeartbeats 4000000 in
theorem c_X11_undo (l : Launch) (g : Geo) (gi : GI g) (M : Mem) (Q : Int32 → Mem → Prop) (hw : p_X11_undo  M Q) : Met l yX11_undo (Cond.code yX11_undo cX11_undo 1 (some .int) :: bg) ({ frames := 1, cells := 0, slots := 0, locals := 23 } : Room) (va_Pc [.ref (g.2.1 (138 + 0))] (PW g (yw g M))) (va_Qi Q (PB g (yw g)) (Af 1 g)) 0 0 (Af 1 g) := by
  refine Met.ofW (cc := cX11_undo) (maxL := 1) (ret := (some .int)) (by decide +kernel) rfl ?_
  intro p e s m args below meth c s₁ B hml hv
  obtain ⟨rfl, hv⟩ := hv
  have C := CX.start (own := RX11) B hml rfl gi hv
  have hP := hv.1
  have hS : va_S (Af 1 g) s.heap s.heap [] := va_S.rf
  have hl := lv_entry ([.ref (g.2.1 (138 + 0))]) (n := 1) (Nat.le_of_ble_eq_true rfl)
  rw [lg_entry_eq]
  generalize (lg_sl ([.ref (g.2.1 (138 + 0))]) ++ List.replicate (1 - (lg_sl ([.ref (g.2.1 (138 + 0))])).length) Slot.unset).toArray = ls at hl ⊢
  have hl : lv_has ls 1 [(0, .ref (g.2.1 (138 + 0)))] := hl
  unfold p_X11_undo at hw
  refine lv_aload_n C.1 C.2.1 dX11_undo_0 rfl (lv_at hl 0 rfl) ?_
  refine lv_iconst (v := 0) C.1 C.2.1 dX11_undo_1 (by decide) ?_
  refine pX11_76 C hP hS Nat.zero_lt_one dX11_undo_2 (fun M1 e1 H locs hP hS => ?_)
  have hw := hw M1 e1
  refine lv_aload_n C.1 C.2.1 dX11_undo_5 rfl (lv_at hl 0 rfl) ?_
  refine gX11_146 C hP Nat.zero_lt_one dX11_undo_6 ?_
  refine lv_if_ne (tgt := 14) C.1 C.2.1 dX11_undo_9 (by decide) (fun h2 => ?_) (fun h2 => ?_)
  · have hw := hw.1 h2
    refine lv_aload_n C.1 C.2.1 dX11_undo_14 rfl (lv_at hl 0 rfl) ?_
    refine lv_dup C.1 C.2.1 dX11_undo_15 rfl ?_
    refine gX11_146 C hP Nat.zero_lt_one dX11_undo_16 ?_
    refine lv_iconst (v := 1) C.1 C.2.1 dX11_undo_19 (by decide) ?_
    refine lv_isub C.1 C.2.1 dX11_undo_20 ?_
    refine pX11_146 C hP hS Nat.zero_lt_one dX11_undo_21 (fun M3 e3 H locs hP hS => ?_)
    have hw := hw M3 e3
    refine lv_aload_n C.1 C.2.1 dX11_undo_24 rfl (lv_at hl 0 rfl) ?_
    refine lv_iconst (v := 3) C.1 C.2.1 dX11_undo_25 (by decide) ?_
    refine lv_aload_n C.1 C.2.1 dX11_undo_26 rfl (lv_at hl 0 rfl) ?_
    refine gX11_146 C hP Nat.zero_lt_one dX11_undo_27 ?_
    refine lv_iadd C.1 C.2.1 dX11_undo_30 ?_
    refine lv_iconst (v := 0) C.1 C.2.1 dX11_undo_31 (by decide) ?_
    refine goV (wf := (yw g)) (runV (w := yw g M3) (As := [.int ((3 : Int32) + (M3.1 40 0 36)), .int 0]) (rest := []) C lkX11_343 (c_X11_copyBank l g C.2.2.2.2.2.2.2.2.2.2 (((3 : Int32) + (M3.1 40 0 36))) 0  M3 _ hw) hP hS rfl rfl ⟨Nat.le_of_ble_eq_true rfl, Nat.le_of_ble_eq_true rfl⟩ (xx_40 Nat.zero_lt_one) rfl rfl hl.1 rfl (Nat.le_of_ble_eq_true rfl) dX11_undo_32) hS (fun M4 hw H locs hP hS => ?_)
    refine lv_aload_n C.1 C.2.1 dX11_undo_35 rfl (lv_at hl 0 rfl) ?_
    refine gX11_146 C hP Nat.zero_lt_one dX11_undo_36 ?_
    exact retI (wf := (yw g)) C hP hS hw dX11_undo_39
  · have hw := hw.2 h2
    refine lv_iconst (v := (-1)) C.1 C.2.1 dX11_undo_12 (by decide) ?_
    exact retI (wf := (yw g)) C hP hS hw dX11_undo_13
def p_X11_keep (M : Mem) (Q : Int32 → Mem → Prop) : Prop := (∀ M1 : Mem, M1 = sI M 40 0 2 0 → (p_X11_copyBank 0 2 M1 (fun M2 => (∀ M3 : Mem, M3 = sI M2 40 0 37 1 → (p_X11_of 292 M3 (fun r4 M4 => (Q r4 M4)))))))
set_option maxRecDepth 100000 in
set_option maxHeartbeats 4000000 in
theorem c_X11_keep (l : Launch) (g : Geo) (gi : GI g) (M : Mem) (Q : Int32 → Mem → Prop) (hw : p_X11_keep  M Q) : Met l yX11_keep (Cond.code yX11_keep cX11_keep 1 (some .int) :: bg) ({ frames := 1, cells := 0, slots := 0, locals := 23 } : Room) (va_Pc [.ref (g.2.1 (138 + 0))] (PW g (yw g M))) (va_Qi Q (PB g (yw g)) (Af 1 g)) 0 0 (Af 1 g) := by
  refine Met.ofW (cc := cX11_keep) (maxL := 1) (ret := (some .int)) (by decide +kernel) rfl ?_
  intro p e s m args below meth c s₁ B hml hv
  obtain ⟨rfl, hv⟩ := hv
  have C := CX.start (own := RX11) B hml rfl gi hv
  have hP := hv.1
  have hS : va_S (Af 1 g) s.heap s.heap [] := va_S.rf
  have hl := lv_entry ([.ref (g.2.1 (138 + 0))]) (n := 1) (Nat.le_of_ble_eq_true rfl)
  rw [lg_entry_eq]
  generalize (lg_sl ([.ref (g.2.1 (138 + 0))]) ++ List.replicate (1 - (lg_sl ([.ref (g.2.1 (138 + 0))])).length) Slot.unset).toArray = ls at hl ⊢
  have hl : lv_has ls 1 [(0, .ref (g.2.1 (138 + 0)))] := hl
  unfold p_X11_keep at hw
  refine lv_aload_n C.1 C.2.1 dX11_keep_0 rfl (lv_at hl 0 rfl) ?_
  refine lv_iconst (v := 0) C.1 C.2.1 dX11_keep_1 (by decide) ?_
  refine pX11_76 C hP hS Nat.zero_lt_one dX11_keep_2 (fun M1 e1 H locs hP hS => ?_)
  have hw := hw M1 e1
  refine lv_aload_n C.1 C.2.1 dX11_keep_5 rfl (lv_at hl 0 rfl) ?_
  refine lv_iconst (v := 0) C.1 C.2.1 dX11_keep_6 (by decide) ?_
  refine lv_iconst (v := 2) C.1 C.2.1 dX11_keep_7 (by decide) ?_
  refine goV (wf := (yw g)) (runV (w := yw g M1) (As := [.int 0, .int 2]) (rest := []) C lkX11_343 (c_X11_copyBank l g C.2.2.2.2.2.2.2.2.2.2 0 2  M1 _ hw) hP hS rfl rfl ⟨Nat.le_of_ble_eq_true rfl, Nat.le_of_ble_eq_true rfl⟩ (xx_40 Nat.zero_lt_one) rfl rfl hl.1 rfl (Nat.le_of_ble_eq_true rfl) dX11_keep_8) hS (fun M2 hw H locs hP hS => ?_)
  refine lv_aload_n C.1 C.2.1 dX11_keep_11 rfl (lv_at hl 0 rfl) ?_
  refine lv_iconst (v := 1) C.1 C.2.1 dX11_keep_12 (by decide) ?_
  refine pX11_149 C hP hS Nat.zero_lt_one rfl rfl dX11_keep_13 (fun M3 e3 H locs hP hS => ?_)
  have hw := hw M3 e3
  refine lv_aload_n C.1 C.2.1 dX11_keep_16 rfl (lv_at hl 0 rfl) ?_
  refine lv_sipush (v := 292) C.1 C.2.1 dX11_keep_17 (by decide) ?_
  refine goI (wf := (yw g)) (runV (w := yw g M3) (As := [.int 292]) (rest := []) C lkX11_340 (c_X11_of l g C.2.2.2.2.2.2.2.2.2.2 292  M3 _ hw) hP hS rfl rfl ⟨Nat.le_of_ble_eq_true rfl, Nat.le_of_ble_eq_true rfl⟩ (xx_40 Nat.zero_lt_one) rfl rfl hl.1 rfl (Nat.le_of_ble_eq_true rfl) dX11_keep_20) hS (fun r4 M4 hw H locs hP hS => ?_)
  exact retI (wf := (yw g)) C hP hS hw dX11_keep_23
def p_X11_back (M : Mem) (Q : Int32 → Mem → Prop) : Prop := (∀ M1 : Mem, M1 = sI M 40 0 2 0 → ((¬ (M1.1 40 0 37) = 0 → (p_X11_copyBank 2 0 M1 (fun M3 => (∀ M4 : Mem, M4 = sI M3 40 0 36 0 → (p_X11_of 292 M4 (fun r5 M5 => (Q r5 M5))))))) ∧ ((M1.1 40 0 37) = 0 → (Q (-1) M1))))
set_option maxRecDepth 100000 in
set_option maxHeartbeats 4000000 in
theorem c_X11_back (l : Launch) (g : Geo) (gi : GI g) (M : Mem) (Q : Int32 → Mem → Prop) (hw : p_X11_back  M Q) : Met l yX11_back (Cond.code yX11_back cX11_back 1 (some .int) :: bg) ({ frames := 1, cells := 0, slots := 0, locals := 23 } : Room) (va_Pc [.ref (g.2.1 (138 + 0))] (PW g (yw g M))) (va_Qi Q (PB g (yw g)) (Af 1 g)) 0 0 (Af 1 g) := by
  refine Met.ofW (cc := cX11_back) (maxL := 1) (ret := (some .int)) (by decide +kernel) rfl ?_
  intro p e s m args below meth c s₁ B hml hv
  obtain ⟨rfl, hv⟩ := hv
  have C := CX.start (own := RX11) B hml rfl gi hv
  have hP := hv.1
  have hS : va_S (Af 1 g) s.heap s.heap [] := va_S.rf
  have hl := lv_entry ([.ref (g.2.1 (138 + 0))]) (n := 1) (Nat.le_of_ble_eq_true rfl)
  rw [lg_entry_eq]
  generalize (lg_sl ([.ref (g.2.1 (138 + 0))]) ++ List.replicate (1 - (lg_sl ([.ref (g.2.1 (138 + 0))])).length) Slot.unset).toArray = ls at hl ⊢
  have hl : lv_has ls 1 [(0, .ref (g.2.1 (138 + 0)))] := hl
  unfold p_X11_back at hw
  refine lv_aload_n C.1 C.2.1 dX11_back_0 rfl (lv_at hl 0 rfl) ?_
  refine lv_iconst (v := 0) C.1 C.2.1 dX11_back_1 (by decide) ?_
  refine pX11_76 C hP hS Nat.zero_lt_one dX11_back_2 (fun M1 e1 H locs hP hS => ?_)
  have hw := hw M1 e1
  refine lv_aload_n C.1 C.2.1 dX11_back_5 rfl (lv_at hl 0 rfl) ?_
  refine gX11_149 C hP Nat.zero_lt_one dX11_back_6 ?_
  refine lv_if_ne (tgt := 14) C.1 C.2.1 dX11_back_9 (by decide) (fun h2 => ?_) (fun h2 => ?_)
  · have hw := hw.1 h2
    refine lv_aload_n C.1 C.2.1 dX11_back_14 rfl (lv_at hl 0 rfl) ?_
    refine lv_iconst (v := 2) C.1 C.2.1 dX11_back_15 (by decide) ?_
    refine lv_iconst (v := 0) C.1 C.2.1 dX11_back_16 (by decide) ?_
    refine goV (wf := (yw g)) (runV (w := yw g M1) (As := [.int 2, .int 0]) (rest := []) C lkX11_343 (c_X11_copyBank l g C.2.2.2.2.2.2.2.2.2.2 2 0  M1 _ hw) hP hS rfl rfl ⟨Nat.le_of_ble_eq_true rfl, Nat.le_of_ble_eq_true rfl⟩ (xx_40 Nat.zero_lt_one) rfl rfl hl.1 rfl (Nat.le_of_ble_eq_true rfl) dX11_back_17) hS (fun M3 hw H locs hP hS => ?_)
    refine lv_aload_n C.1 C.2.1 dX11_back_20 rfl (lv_at hl 0 rfl) ?_
    refine lv_iconst (v := 0) C.1 C.2.1 dX11_back_21 (by decide) ?_
    refine pX11_146 C hP hS Nat.zero_lt_one dX11_back_22 (fun M4 e4 H locs hP hS => ?_)
    have hw := hw M4 e4
    refine lv_aload_n C.1 C.2.1 dX11_back_25 rfl (lv_at hl 0 rfl) ?_
    refine lv_sipush (v := 292) C.1 C.2.1 dX11_back_26 (by decide) ?_
    refine goI (wf := (yw g)) (runV (w := yw g M4) (As := [.int 292]) (rest := []) C lkX11_340 (c_X11_of l g C.2.2.2.2.2.2.2.2.2.2 292  M4 _ hw) hP hS rfl rfl ⟨Nat.le_of_ble_eq_true rfl, Nat.le_of_ble_eq_true rfl⟩ (xx_40 Nat.zero_lt_one) rfl rfl hl.1 rfl (Nat.le_of_ble_eq_true rfl) dX11_back_29) hS (fun r5 M5 hw H locs hP hS => ?_)
    exact retI (wf := (yw g)) C hP hS hw dX11_back_32
  · have hw := hw.2 h2
    refine lv_iconst (v := (-1)) C.1 C.2.1 dX11_back_12 (by decide) ?_
    exact retI (wf := (yw g)) C hP hS hw dX11_back_13
def p_X11_isChannel (a1 : Int32) (M : Mem) (Q : Int32 → Mem → Prop) : Prop := ((a1 < 0 → (Q 0 M)) ∧ (¬ a1 < 0 → (p_X11_of 292 M (fun r2 M2 => ((r2 ≤ a1 → (Q 0 M2)) ∧ (¬ r2 ≤ a1 → (Q 1 M2)))))))
set_option maxRecDepth 100000 in
set_option maxHeartbeats 4000000 in
theorem c_X11_isChannel (l : Launch) (g : Geo) (gi : GI g) (a1 : Int32) (M : Mem) (Q : Int32 → Mem → Prop) (hw : p_X11_isChannel a1 M Q) : Met l yX11_isChannel (Cond.code yX11_isChannel cX11_isChannel 2 (some .boolean) :: bg) ({ frames := 1, cells := 0, slots := 0, locals := 21 } : Room) (va_Pc [.ref (g.2.1 (138 + 0)), .int a1] (PW g (yw g M))) (va_Qi (fun r M => Q r M ∧ narrow .boolean (.int r) = .int r) (PB g (yw g)) (Af 1 g)) 0 0 (Af 1 g) := by
  refine Met.ofW (cc := cX11_isChannel) (maxL := 2) (ret := (some .boolean)) (by decide +kernel) rfl ?_
  intro p e s m args below meth c s₁ B hml hv
  obtain ⟨rfl, hv⟩ := hv
  have C := CX.start (own := RX11) B hml rfl gi hv
  have hP := hv.1
  have hS : va_S (Af 1 g) s.heap s.heap [] := va_S.rf
  have hl := lv_entry ([.ref (g.2.1 (138 + 0)), .int a1]) (n := 2) (Nat.le_of_ble_eq_true rfl)
  rw [lg_entry_eq]
  generalize (lg_sl ([.ref (g.2.1 (138 + 0)), .int a1]) ++ List.replicate (2 - (lg_sl ([.ref (g.2.1 (138 + 0)), .int a1])).length) Slot.unset).toArray = ls at hl ⊢
  have hl : lv_has ls 2 [(0, .ref (g.2.1 (138 + 0))), (1, .int a1)] := hl
  unfold p_X11_isChannel at hw
  refine lv_iload_n C.1 C.2.1 dX11_isChannel_0 rfl (lv_at hl 1 rfl) ?_
  refine lv_if_lt (tgt := 19) C.1 C.2.1 dX11_isChannel_1 (by decide) (fun h1 => ?_) (fun h1 => ?_)
  · have hw := hw.1 h1
    refine lv_iconst (v := 0) C.1 C.2.1 dX11_isChannel_19 (by decide) ?_
    exact retZ (wf := (yw g)) C hP hS rfl hw dX11_isChannel_20
  · have hw := hw.2 h1
    refine lv_iload_n C.1 C.2.1 dX11_isChannel_4 rfl (lv_at hl 1 rfl) ?_
    refine lv_aload_n C.1 C.2.1 dX11_isChannel_5 rfl (lv_at hl 0 rfl) ?_
    refine lv_sipush (v := 292) C.1 C.2.1 dX11_isChannel_6 (by decide) ?_
    refine goI (wf := (yw g)) (runV (w := yw g M) (As := [.int 292]) (rest := [.int a1]) C lkX11_340 (c_X11_of l g C.2.2.2.2.2.2.2.2.2.2 292  M _ hw) hP hS rfl rfl ⟨Nat.le_of_ble_eq_true rfl, Nat.le_of_ble_eq_true rfl⟩ (xx_40 Nat.zero_lt_one) rfl rfl hl.1 rfl (Nat.le_of_ble_eq_true rfl) dX11_isChannel_9) hS (fun r2 M2 hw H locs hP hS => ?_)
    refine lv_icmp_ge (tgt := 19) C.1 C.2.1 dX11_isChannel_12 (by decide) (fun h3 => ?_) (fun h3 => ?_)
    · have hw := hw.1 h3
      refine lv_iconst (v := 0) C.1 C.2.1 dX11_isChannel_19 (by decide) ?_
      exact retZ (wf := (yw g)) C hP hS rfl hw dX11_isChannel_20
    · have hw := hw.2 h3
      refine lv_iconst (v := 1) C.1 C.2.1 dX11_isChannel_15 (by decide) ?_
      refine lv_goto (tgt := 20) C.1 C.2.1 dX11_isChannel_16 (by decide) ?_
      exact retZ (wf := (yw g)) C hP hS rfl hw dX11_isChannel_20
def b_X11_lock_87 (Q : Int32 → Mem → Prop) (v1 : Int32) (v2 : Int32) (v3 : Int32) (M : Mem) : Prop := (p_X11_put v3 0 v1 M (fun M13 => (p_X11_put v3 1 (((4 : Int32) * ((M13.1 40 0 32) - (M13.1 40 0 32) / 62 * 62))) M13 (fun M14 => (p_X11_put v3 2 (((M14.1 40 0 32) / 62)) M14 (fun M15 => (vp_in (M15.1 40 0 32) 930 ∧ (p_X11_put v3 4 (((M15.2.1 53 0 ((M15.1 40 0 32) : Int32).toNatClampNeg) : Int64).toInt32) M15 (fun M17 => (p_X11_put v3 5 ((v2 + 1)) M17 (fun M18 => (p_X11_lay 292 ((v3 + 1)) M18 (fun M19 => (Q v3 M19))))))))))))))
set_option maxRecDepth 100000 in
set_option maxHeartbeats 4000000 in
theorem k_X11_lock_87 {p : Program} {l : Launch} {e : Env} {s : State} {m : MethodId} {args : Array Value} {below : List Frame} {meth : Method} {c : Code} {g : Geo} (C : CX g p s m args meth c cX11_lock 5 (some .int) RX11) {Q : Int32 → Mem → Prop} (v1 : Int32) (v2 : Int32) (v3 : Int32) (M : Mem) (hw : b_X11_lock_87 Q v1 v2 v3 M) {H : Heap} {locs : List Loc} {ls : Array Slot} (hl : lv_has ls 5 [(0, .ref (g.2.1 (138 + 0))), (1, .int v1), (2, .int v2), (3, .int v3)]) (hP : va_P g.1 clz (yw g M) H) (hS : va_S (Af 1 g) s.heap H locs) : W p l e ({ frames := 7, cells := 0, slots := 0, locals := 171 } : Room) s m args below meth c H locs 0 0 (MQ below (va_Qi Q (PB g (yw g)) (Af 1 g)) args s 0 0 (Af 1 g)) (F0 m 87 ls []) := by
  unfold b_X11_lock_87 at hw
  refine lv_aload_n C.1 C.2.1 dX11_lock_87 rfl (lv_at hl 0 rfl) ?_
  refine lv_iload_n C.1 C.2.1 dX11_lock_88 rfl (lv_at hl 3 rfl) ?_
  refine lv_iconst (v := 0) C.1 C.2.1 dX11_lock_89 (by decide) ?_
  refine lv_iload_n C.1 C.2.1 dX11_lock_90 rfl (lv_at hl 1 rfl) ?_
  refine goV (wf := (yw g)) (runV (w := yw g M) (As := [.int v3, .int 0, .int v1]) (rest := []) C lkX11_349 (c_X11_put l g C.2.2.2.2.2.2.2.2.2.2 v3 0 v1  M _ hw) hP hS rfl rfl ⟨Nat.le_of_ble_eq_true rfl, Nat.le_of_ble_eq_true rfl⟩ (xx_40 Nat.zero_lt_one) rfl rfl hl.1 rfl (Nat.le_of_ble_eq_true rfl) dX11_lock_91) hS (fun M13 hw H locs hP hS => ?_)
  refine lv_aload_n C.1 C.2.1 dX11_lock_94 rfl (lv_at hl 0 rfl) ?_
  refine lv_iload_n C.1 C.2.1 dX11_lock_95 rfl (lv_at hl 3 rfl) ?_
  refine lv_iconst (v := 1) C.1 C.2.1 dX11_lock_96 (by decide) ?_
  refine lv_iconst (v := 4) C.1 C.2.1 dX11_lock_97 (by decide) ?_
  refine lv_aload_n C.1 C.2.1 dX11_lock_98 rfl (lv_at hl 0 rfl) ?_
  refine gX11_311 C hP Nat.zero_lt_one dX11_lock_99 ?_
  refine lv_bipush (v := 62) C.1 C.2.1 dX11_lock_102 (by decide) ?_
  refine lv_irem C.1 C.2.1 dX11_lock_104 (by decide) ?_
  refine lv_imul C.1 C.2.1 dX11_lock_105 ?_
  refine goV (wf := (yw g)) (runV (w := yw g M13) (As := [.int v3, .int 1, .int ((4 : Int32) * ((M13.1 40 0 32) - (M13.1 40 0 32) / 62 * 62))]) (rest := []) C lkX11_349 (c_X11_put l g C.2.2.2.2.2.2.2.2.2.2 v3 1 (((4 : Int32) * ((M13.1 40 0 32) - (M13.1 40 0 32) / 62 * 62)))  M13 _ hw) hP hS rfl rfl ⟨Nat.le_of_ble_eq_true rfl, Nat.le_of_ble_eq_true rfl⟩ (xx_40 Nat.zero_lt_one) rfl rfl hl.1 rfl (Nat.le_of_ble_eq_true rfl) dX11_lock_106) hS (fun M14 hw H locs hP hS => ?_)
  refine lv_aload_n C.1 C.2.1 dX11_lock_109 rfl (lv_at hl 0 rfl) ?_
  refine lv_iload_n C.1 C.2.1 dX11_lock_110 rfl (lv_at hl 3 rfl) ?_
  refine lv_iconst (v := 2) C.1 C.2.1 dX11_lock_111 (by decide) ?_
  refine lv_aload_n C.1 C.2.1 dX11_lock_112 rfl (lv_at hl 0 rfl) ?_
  refine gX11_311 C hP Nat.zero_lt_one dX11_lock_113 ?_
  refine lv_bipush (v := 62) C.1 C.2.1 dX11_lock_116 (by decide) ?_
  refine lv_idiv C.1 C.2.1 dX11_lock_118 (by decide) ?_
  refine goV (wf := (yw g)) (runV (w := yw g M14) (As := [.int v3, .int 2, .int ((M14.1 40 0 32) / 62)]) (rest := []) C lkX11_349 (c_X11_put l g C.2.2.2.2.2.2.2.2.2.2 v3 2 (((M14.1 40 0 32) / 62))  M14 _ hw) hP hS rfl rfl ⟨Nat.le_of_ble_eq_true rfl, Nat.le_of_ble_eq_true rfl⟩ (xx_40 Nat.zero_lt_one) rfl rfl hl.1 rfl (Nat.le_of_ble_eq_true rfl) dX11_lock_119) hS (fun M15 hw H locs hP hS => ?_)
  refine lv_aload_n C.1 C.2.1 dX11_lock_122 rfl (lv_at hl 0 rfl) ?_
  refine lv_iload_n C.1 C.2.1 dX11_lock_123 rfl (lv_at hl 3 rfl) ?_
  refine lv_iconst (v := 4) C.1 C.2.1 dX11_lock_124 (by decide) ?_
  refine lv_aload_n C.1 C.2.1 dX11_lock_125 rfl (lv_at hl 0 rfl) ?_
  refine gX11_51 C hP Nat.zero_lt_one dX11_lock_126 ?_
  refine lv_aload_n C.1 C.2.1 dX11_lock_129 rfl (lv_at hl 0 rfl) ?_
  refine gX11_311 C hP Nat.zero_lt_one dX11_lock_130 ?_
  obtain ⟨h16, hw⟩ := hw
  refine al_53 C hP Nat.zero_lt_one h16 dX11_lock_133 ?_
  refine lv_l2i C.1 C.2.1 dX11_lock_134 rfl ?_
  refine goV (wf := (yw g)) (runV (w := yw g M15) (As := [.int v3, .int 4, .int ((M15.2.1 53 0 ((M15.1 40 0 32) : Int32).toNatClampNeg) : Int64).toInt32]) (rest := []) C lkX11_349 (c_X11_put l g C.2.2.2.2.2.2.2.2.2.2 v3 4 (((M15.2.1 53 0 ((M15.1 40 0 32) : Int32).toNatClampNeg) : Int64).toInt32)  M15 _ hw) hP hS rfl rfl ⟨Nat.le_of_ble_eq_true rfl, Nat.le_of_ble_eq_true rfl⟩ (xx_40 Nat.zero_lt_one) rfl rfl hl.1 rfl (Nat.le_of_ble_eq_true rfl) dX11_lock_135) hS (fun M17 hw H locs hP hS => ?_)
  refine lv_aload_n C.1 C.2.1 dX11_lock_138 rfl (lv_at hl 0 rfl) ?_
  refine lv_iload_n C.1 C.2.1 dX11_lock_139 rfl (lv_at hl 3 rfl) ?_
  refine lv_iconst (v := 5) C.1 C.2.1 dX11_lock_140 (by decide) ?_
  refine lv_iload_n C.1 C.2.1 dX11_lock_141 rfl (lv_at hl 2 rfl) ?_
  refine lv_iconst (v := 1) C.1 C.2.1 dX11_lock_142 (by decide) ?_
  refine lv_iadd C.1 C.2.1 dX11_lock_143 ?_
  refine goV (wf := (yw g)) (runV (w := yw g M17) (As := [.int v3, .int 5, .int (v2 + 1)]) (rest := []) C lkX11_349 (c_X11_put l g C.2.2.2.2.2.2.2.2.2.2 v3 5 ((v2 + 1))  M17 _ hw) hP hS rfl rfl ⟨Nat.le_of_ble_eq_true rfl, Nat.le_of_ble_eq_true rfl⟩ (xx_40 Nat.zero_lt_one) rfl rfl hl.1 rfl (Nat.le_of_ble_eq_true rfl) dX11_lock_144) hS (fun M18 hw H locs hP hS => ?_)
  refine lv_aload_n C.1 C.2.1 dX11_lock_147 rfl (lv_at hl 0 rfl) ?_
  refine lv_sipush (v := 292) C.1 C.2.1 dX11_lock_148 (by decide) ?_
  refine lv_iload_n C.1 C.2.1 dX11_lock_151 rfl (lv_at hl 3 rfl) ?_
  refine lv_iconst (v := 1) C.1 C.2.1 dX11_lock_152 (by decide) ?_
  refine lv_iadd C.1 C.2.1 dX11_lock_153 ?_
  refine goV (wf := (yw g)) (runV (w := yw g M18) (As := [.int 292, .int (v3 + 1)]) (rest := []) C lkX11_153 (c_X11_lay l g C.2.2.2.2.2.2.2.2.2.2 292 ((v3 + 1))  M18 _ hw) hP hS rfl rfl ⟨Nat.le_of_ble_eq_true rfl, Nat.le_of_ble_eq_true rfl⟩ (xx_40 Nat.zero_lt_one) rfl rfl hl.1 rfl (Nat.le_of_ble_eq_true rfl) dX11_lock_154) hS (fun M19 hw H locs hP hS => ?_)
  refine lv_iload_n C.1 C.2.1 dX11_lock_157 rfl (lv_at hl 3 rfl) ?_
  exact retI (wf := (yw g)) C hP hS hw dX11_lock_158
def b_X11_lock_66 (Q : Int32 → Mem → Prop) : Nat → Int32 → Int32 → Int32 → Int32 → Mem → Prop
  | 0, _, _, _, _, _ => False
  | n + 1, v1, v2, v3, v4, M => ((73 ≤ v4 → (b_X11_lock_87 Q v1 v2 v3 M)) ∧ (¬ 73 ≤ v4 → (p_X11_put v3 v4 0 M (fun M20 => (∀ x21 : Int32, x21 = (v4 + 1) → (b_X11_lock_66 Q n v1 v2 v3 x21 M20))))))
set_option maxRecDepth 100000 in
set_option maxHeartbeats 4000000 in
theorem k_X11_lock_66 {p : Program} {l : Launch} {e : Env} {s : State} {m : MethodId} {args : Array Value} {below : List Frame} {meth : Method} {c : Code} {g : Geo} (C : CX g p s m args meth c cX11_lock 5 (some .int) RX11) {Q : Int32 → Mem → Prop} : ∀ (n : Nat) (v1 : Int32) (v2 : Int32) (v3 : Int32) (v4 : Int32) (M : Mem) (hw : b_X11_lock_66 Q n v1 v2 v3 v4 M) {H : Heap} {locs : List Loc} {ls : Array Slot} (hl : lv_has ls 5 [(0, .ref (g.2.1 (138 + 0))), (1, .int v1), (2, .int v2), (3, .int v3), (4, .int v4)]) (hP : va_P g.1 clz (yw g M) H) (hS : va_S (Af 1 g) s.heap H locs), W p l e ({ frames := 7, cells := 0, slots := 0, locals := 171 } : Room) s m args below meth c H locs 0 0 (MQ below (va_Qi Q (PB g (yw g)) (Af 1 g)) args s 0 0 (Af 1 g)) (F0 m 66 ls []) := by
  intro n
  induction n with
  | zero => intro v1 v2 v3 v4 M hw H locs ls hl hP hS; exact absurd hw (by rw [b_X11_lock_66]; exact fun h => h)
  | succ n ih =>
    intro v1 v2 v3 v4 M hw H locs ls hl hP hS
    rw [b_X11_lock_66] at hw
    refine lv_iload C.1 C.2.1 dX11_lock_66 (lv_at hl 4 rfl) ?_
    refine lv_bipush (v := 73) C.1 C.2.1 dX11_lock_68 (by decide) ?_
    refine lv_icmp_ge (tgt := 87) C.1 C.2.1 dX11_lock_70 (by decide) (fun h12 => ?_) (fun h12 => ?_)
    · have hw := hw.1 h12
      exact k_X11_lock_87 (Q := Q) C v1 v2 v3  _ hw (lv_sub hl [0, 1, 2, 3] rfl) hP hS
    · have hw := hw.2 h12
      refine lv_aload_n C.1 C.2.1 dX11_lock_73 rfl (lv_at hl 0 rfl) ?_
      refine lv_iload_n C.1 C.2.1 dX11_lock_74 rfl (lv_at hl 3 rfl) ?_
      refine lv_iload C.1 C.2.1 dX11_lock_75 (lv_at hl 4 rfl) ?_
      refine lv_iconst (v := 0) C.1 C.2.1 dX11_lock_77 (by decide) ?_
      refine goV (wf := (yw g)) (runV (w := yw g M) (As := [.int v3, .int v4, .int 0]) (rest := []) C lkX11_349 (c_X11_put l g C.2.2.2.2.2.2.2.2.2.2 v3 v4 0  M _ hw) hP hS rfl rfl ⟨Nat.le_of_ble_eq_true rfl, Nat.le_of_ble_eq_true rfl⟩ (xx_40 Nat.zero_lt_one) rfl rfl hl.1 rfl (Nat.le_of_ble_eq_true rfl) dX11_lock_78) hS (fun M20 hw H locs hP hS => ?_)
      obtain ⟨x21, e21⟩ : ∃ y : Int32, y = (v4 + 1) := ⟨_, rfl⟩
      have hw := hw x21 e21
      refine lv_iinc (v := x21) (lv' := [(4, .int x21), (0, .ref (g.2.1 (138 + 0))), (1, .int v1), (2, .int v2), (3, .int v3)]) C.1 C.2.1 dX11_lock_81 hl (k := 4) rfl (by rw [e21]; rfl) (by decide) rfl (fun ls hl => ?_)
      refine lv_goto (tgt := 66) C.1 C.2.1 dX11_lock_84 (by decide) ?_
      exact ih v1 v2 v3 x21  _ hw (lv_sub hl [1, 2, 3, 4, 0] rfl) hP hS
def p_X11_lock (a1 : Int32) (a2 : Int32) (M : Mem) (Q : Int32 → Mem → Prop) : Prop := (∀ M1 : Mem, M1 = sI M 40 0 2 0 → (p_X11_isBird a1 M1 (fun r2 M2 => ((r2 = 0 → (Q (-1) M2)) ∧ (¬ r2 = 0 → (p_X11_isIn a2 0 198 M2 (fun r4 M4 => ((¬ r4 = 0 → (p_X11_hunts a1 a2 1 M4 (fun M6 => (p_X11_isAcquired  M6 (fun r7 M7 => ((¬ r7 = 0 → (p_X11_of 292 M7 (fun r9 M9 => ((¬ r9 = 4 → (p_X11_canUndo  M9 (fun M11 => (∃ n66 : Nat, b_X11_lock_66 Q n66 a1 a2 r9 0 M11)))) ∧ (r9 = 4 → (Q (-3) M9)))))) ∧ (r7 = 0 → (Q (-2) M7)))))))) ∧ (r4 = 0 → (Q (-1) M4))))))))))
set_option maxRecDepth 100000 in
set_option maxHeartbeats 4000000 in
theorem c_X11_lock (l : Launch) (g : Geo) (gi : GI g) (a1 : Int32) (a2 : Int32) (M : Mem) (Q : Int32 → Mem → Prop) (hw : p_X11_lock a1 a2 M Q) : Met l yX11_lock (Cond.code yX11_lock cX11_lock 5 (some .int) :: bg) ({ frames := 7, cells := 0, slots := 0, locals := 171 } : Room) (va_Pc [.ref (g.2.1 (138 + 0)), .int a1, .int a2] (PW g (yw g M))) (va_Qi Q (PB g (yw g)) (Af 1 g)) 0 0 (Af 1 g) := by
  refine Met.ofW (cc := cX11_lock) (maxL := 5) (ret := (some .int)) (by decide +kernel) rfl ?_
  intro p e s m args below meth c s₁ B hml hv
  obtain ⟨rfl, hv⟩ := hv
  have C := CX.start (own := RX11) B hml rfl gi hv
  have hP := hv.1
  have hS : va_S (Af 1 g) s.heap s.heap [] := va_S.rf
  have hl := lv_entry ([.ref (g.2.1 (138 + 0)), .int a1, .int a2]) (n := 5) (Nat.le_of_ble_eq_true rfl)
  rw [lg_entry_eq]
  generalize (lg_sl ([.ref (g.2.1 (138 + 0)), .int a1, .int a2]) ++ List.replicate (5 - (lg_sl ([.ref (g.2.1 (138 + 0)), .int a1, .int a2])).length) Slot.unset).toArray = ls at hl ⊢
  have hl : lv_has ls 5 [(0, .ref (g.2.1 (138 + 0))), (1, .int a1), (2, .int a2)] := hl
  unfold p_X11_lock at hw
  refine lv_aload_n C.1 C.2.1 dX11_lock_0 rfl (lv_at hl 0 rfl) ?_
  refine lv_iconst (v := 0) C.1 C.2.1 dX11_lock_1 (by decide) ?_
  refine pX11_76 C hP hS Nat.zero_lt_one dX11_lock_2 (fun M1 e1 H locs hP hS => ?_)
  have hw := hw M1 e1
  refine lv_aload_n C.1 C.2.1 dX11_lock_5 rfl (lv_at hl 0 rfl) ?_
  refine lv_iload_n C.1 C.2.1 dX11_lock_6 rfl (lv_at hl 1 rfl) ?_
  refine goI (wf := (yw g)) (runV (w := yw g M1) (As := [.int a1]) (rest := []) C lkX11_216 (c_X11_isBird l g C.2.2.2.2.2.2.2.2.2.2 a1  M1 _ hw) hP hS rfl rfl ⟨Nat.le_of_ble_eq_true rfl, Nat.le_of_ble_eq_true rfl⟩ (xx_40 Nat.zero_lt_one) rfl rfl hl.1 rfl (Nat.le_of_ble_eq_true rfl) dX11_lock_7) hS (fun r2 M2 hw H locs hP hS => ?_)
  obtain ⟨hw, hz2⟩ := hw
  refine lv_if_eq (tgt := 24) C.1 C.2.1 dX11_lock_10 (by decide) (fun h3 => ?_) (fun h3 => ?_)
  · have hw := hw.1 h3
    refine lv_iconst (v := (-1)) C.1 C.2.1 dX11_lock_24 (by decide) ?_
    exact retI (wf := (yw g)) C hP hS hw dX11_lock_25
  · have hw := hw.2 h3
    refine lv_iload_n C.1 C.2.1 dX11_lock_13 rfl (lv_at hl 2 rfl) ?_
    refine lv_iconst (v := 0) C.1 C.2.1 dX11_lock_14 (by decide) ?_
    refine lv_sipush (v := 198) C.1 C.2.1 dX11_lock_15 (by decide) ?_
    refine goI (wf := (yw g)) (runS (w := yw g M2) (As := [.int a2, .int 0, .int 198]) (rest := []) C lkX11_166 (c_X11_isIn l g C.2.2.2.2.2.2.2.2.2.2 a2 0 198  M2 _ hw) hP hS rfl rfl ⟨Nat.le_of_ble_eq_true rfl, Nat.le_of_ble_eq_true rfl⟩ hl.1 rfl (Nat.le_of_ble_eq_true rfl) dX11_lock_18) hS (fun r4 M4 hw H locs hP hS => ?_)
    obtain ⟨hw, hz4⟩ := hw
    refine lv_if_ne (tgt := 26) C.1 C.2.1 dX11_lock_21 (by decide) (fun h5 => ?_) (fun h5 => ?_)
    · have hw := hw.1 h5
      refine lv_aload_n C.1 C.2.1 dX11_lock_26 rfl (lv_at hl 0 rfl) ?_
      refine lv_iload_n C.1 C.2.1 dX11_lock_27 rfl (lv_at hl 1 rfl) ?_
      refine lv_iload_n C.1 C.2.1 dX11_lock_28 rfl (lv_at hl 2 rfl) ?_
      refine lv_iconst (v := 1) C.1 C.2.1 dX11_lock_29 (by decide) ?_
      refine goV (wf := (yw g)) (runV (w := yw g M4) (As := [.int a1, .int a2, .int 1]) (rest := []) C lkX11_326 (c_X11_hunts l g C.2.2.2.2.2.2.2.2.2.2 a1 a2 1  M4 _ hw) hP hS rfl rfl ⟨Nat.le_of_ble_eq_true rfl, Nat.le_of_ble_eq_true rfl⟩ (xx_40 Nat.zero_lt_one) rfl rfl hl.1 rfl (Nat.le_of_ble_eq_true rfl) dX11_lock_30) hS (fun M6 hw H locs hP hS => ?_)
      refine lv_aload_n C.1 C.2.1 dX11_lock_33 rfl (lv_at hl 0 rfl) ?_
      refine goI (wf := (yw g)) (runV (w := yw g M6) (As := []) (rest := []) C lkX11_329 (c_X11_isAcquired l g C.2.2.2.2.2.2.2.2.2.2   M6 _ hw) hP hS rfl rfl ⟨Nat.le_of_ble_eq_true rfl, Nat.le_of_ble_eq_true rfl⟩ (xx_40 Nat.zero_lt_one) rfl rfl hl.1 rfl (Nat.le_of_ble_eq_true rfl) dX11_lock_34) hS (fun r7 M7 hw H locs hP hS => ?_)
      obtain ⟨hw, hz7⟩ := hw
      refine lv_if_ne (tgt := 43) C.1 C.2.1 dX11_lock_37 (by decide) (fun h8 => ?_) (fun h8 => ?_)
      · have hw := hw.1 h8
        refine lv_aload_n C.1 C.2.1 dX11_lock_43 rfl (lv_at hl 0 rfl) ?_
        refine lv_sipush (v := 292) C.1 C.2.1 dX11_lock_44 (by decide) ?_
        refine goI (wf := (yw g)) (runV (w := yw g M7) (As := [.int 292]) (rest := []) C lkX11_340 (c_X11_of l g C.2.2.2.2.2.2.2.2.2.2 292  M7 _ hw) hP hS rfl rfl ⟨Nat.le_of_ble_eq_true rfl, Nat.le_of_ble_eq_true rfl⟩ (xx_40 Nat.zero_lt_one) rfl rfl hl.1 rfl (Nat.le_of_ble_eq_true rfl) dX11_lock_47) hS (fun r9 M9 hw H locs hP hS => ?_)
        refine lv_istore_n (lv' := [(3, .int r9), (0, .ref (g.2.1 (138 + 0))), (1, .int a1), (2, .int a2)]) C.1 C.2.1 dX11_lock_50 rfl hl (by decide) rfl (fun ls hl => ?_)
        refine lv_iload_n C.1 C.2.1 dX11_lock_51 rfl (lv_at hl 0 rfl) ?_
        refine lv_iconst (v := 4) C.1 C.2.1 dX11_lock_52 (by decide) ?_
        refine lv_icmp_ne (tgt := 59) C.1 C.2.1 dX11_lock_53 (by decide) (fun h10 => ?_) (fun h10 => ?_)
        · have hw := hw.1 h10
          refine lv_aload_n C.1 C.2.1 dX11_lock_59 rfl (lv_at hl 1 rfl) ?_
          refine goV (wf := (yw g)) (runV (w := yw g M9) (As := []) (rest := []) C lkX11_346 (c_X11_canUndo l g C.2.2.2.2.2.2.2.2.2.2   M9 _ hw) hP hS rfl rfl ⟨Nat.le_of_ble_eq_true rfl, Nat.le_of_ble_eq_true rfl⟩ (xx_40 Nat.zero_lt_one) rfl rfl hl.1 rfl (Nat.le_of_ble_eq_true rfl) dX11_lock_60) hS (fun M11 hw H locs hP hS => ?_)
          refine lv_iconst (v := 0) C.1 C.2.1 dX11_lock_63 (by decide) ?_
          refine lv_istore (lv' := [(4, .int 0), (3, .int r9), (0, .ref (g.2.1 (138 + 0))), (1, .int a1), (2, .int a2)]) C.1 C.2.1 dX11_lock_64 hl (by decide) rfl (fun ls hl => ?_)
          obtain ⟨n9, hw⟩ := hw
          exact k_X11_lock_66 (Q := Q) C n9 a1 a2 r9 0  _ hw (lv_sub hl [2, 3, 4, 1, 0] rfl) hP hS
        · have hw := hw.2 h10
          refine lv_bipush (v := (-3)) C.1 C.2.1 dX11_lock_56 (by decide) ?_
          exact retI (wf := (yw g)) C hP hS hw dX11_lock_58
      · have hw := hw.2 h8
        refine lv_bipush (v := (-2)) C.1 C.2.1 dX11_lock_40 (by decide) ?_
        exact retI (wf := (yw g)) C hP hS hw dX11_lock_42
    · have hw := hw.2 h5
      refine lv_iconst (v := (-1)) C.1 C.2.1 dX11_lock_24 (by decide) ?_
      exact retI (wf := (yw g)) C hP hS hw dX11_lock_25
