def b_X11_frame_33 (Q : Int32 → Mem → Prop) (v1 : Int32) (v2 : Int32) (v3 : Int32) (M : Mem) : Prop := (p_X11_layFrames v1 M (fun M6 => ((0 ≤ v2 → ((v2 < (M6.1 40 0 41) → ((¬ v3 = 0 → ((¬ v3 = 1 → ((¬ v3 = 2 → (vp_in v2 64 ∧ (((M6.1 57 0 (v2 : Int32).toNatClampNeg) = 0 → (Q 0 M6)) ∧ (¬ (M6.1 57 0 (v2 : Int32).toNatClampNeg) = 0 → (Q 1 M6))))) ∧ (v3 = 2 → (vp_in v2 64 ∧ (Q (((M6.1 56 0 (v2 : Int32).toNatClampNeg) >>> (4 &&& 31)) &&& 63) M6))))) ∧ (v3 = 1 → (vp_in v2 64 ∧ (Q (((M6.1 56 0 (v2 : Int32).toNatClampNeg) >>> (10 &&& 31)) &&& 3) M6))))) ∧ (v3 = 0 → (vp_in v2 64 ∧ (Q (M6.1 55 0 (v2 : Int32).toNatClampNeg) M6))))) ∧ (¬ v2 < (M6.1 40 0 41) → (Q (-2) M6)))) ∧ (¬ 0 ≤ v2 → (Q (M6.1 40 0 41) M6)))))
set_option maxRecDepth 100000 in
set_option maxHeartbeats 4000000 in
theorem k_X11_frame_33 {p : Program} {l : Launch} {e : Env} {s : State} {m : MethodId} {args : Array Value} {below : List Frame} {meth : Method} {c : Code} {g : Geo} (C : CX g p s m args meth c cX11_frame 4 (some .int) RX11) {Q : Int32 → Mem → Prop} (v1 : Int32) (v2 : Int32) (v3 : Int32) (M : Mem) (hw : b_X11_frame_33 Q v1 v2 v3 M) {H : Heap} {locs : List Loc} {ls : Array Slot} (hl : lv_has ls 4 [(0, .ref (g.2.1 (138 + 0))), (1, .int v1), (2, .int v2), (3, .int v3)]) (hP : va_P g.1 clz (yw g M) H) (hS : va_S (Af 1 g) s.heap H locs) : W p l e ({ frames := 4, cells := 0, slots := 0, locals := 93 } : Room) s m args below meth c H locs 0 0 (MQ below (va_Qi Q (PB g (yw g)) (Af 1 g)) args s 0 0 (Af 1 g)) (F0 m 33 ls []) := by
  unfold b_X11_frame_33 at hw
  refine lv_aload_n C.1 C.2.1 dX11_frame_33 rfl (lv_at hl 0 rfl) ?_
  refine lv_iload_n C.1 C.2.1 dX11_frame_34 rfl (lv_at hl 1 rfl) ?_
  refine goV (wf := (yw g)) (runV (w := yw g M) (As := [.int v1]) (rest := []) C lkX11_378 (c_X11_layFrames l g C.2.2.2.2.2.2.2.2.2.2 v1  M _ hw) hP hS rfl rfl ⟨Nat.le_of_ble_eq_true rfl, Nat.le_of_ble_eq_true rfl⟩ (xx_40 Nat.zero_lt_one) rfl rfl hl.1 rfl (Nat.le_of_ble_eq_true rfl) dX11_frame_35) hS (fun M6 hw H locs hP hS => ?_)
  refine lv_iload_n C.1 C.2.1 dX11_frame_38 rfl (lv_at hl 2 rfl) ?_
  refine lv_if_ge (tgt := 47) C.1 C.2.1 dX11_frame_39 (by decide) (fun h7 => ?_) (fun h7 => ?_)
  · have hw := hw.1 h7
    refine lv_iload_n C.1 C.2.1 dX11_frame_47 rfl (lv_at hl 2 rfl) ?_
    refine lv_aload_n C.1 C.2.1 dX11_frame_48 rfl (lv_at hl 0 rfl) ?_
    refine gX11_368 C hP Nat.zero_lt_one dX11_frame_49 ?_
    refine lv_icmp_lt (tgt := 58) C.1 C.2.1 dX11_frame_52 (by decide) (fun h8 => ?_) (fun h8 => ?_)
    · have hw := hw.1 h8
      refine lv_iload_n C.1 C.2.1 dX11_frame_58 rfl (lv_at hl 3 rfl) ?_
      refine lv_if_ne (tgt := 71) C.1 C.2.1 dX11_frame_59 (by decide) (fun h9 => ?_) (fun h9 => ?_)
      · have hw := hw.1 h9
        refine lv_iload_n C.1 C.2.1 dX11_frame_71 rfl (lv_at hl 3 rfl) ?_
        refine lv_iconst (v := 1) C.1 C.2.1 dX11_frame_72 (by decide) ?_
        refine lv_icmp_ne (tgt := 90) C.1 C.2.1 dX11_frame_73 (by decide) (fun h10 => ?_) (fun h10 => ?_)
        · have hw := hw.1 h10
          refine lv_iload_n C.1 C.2.1 dX11_frame_90 rfl (lv_at hl 3 rfl) ?_
          refine lv_iconst (v := 2) C.1 C.2.1 dX11_frame_91 (by decide) ?_
          refine lv_icmp_ne (tgt := 109) C.1 C.2.1 dX11_frame_92 (by decide) (fun h11 => ?_) (fun h11 => ?_)
          · have hw := hw.1 h11
            refine lv_aload_n C.1 C.2.1 dX11_frame_109 rfl (lv_at hl 0 rfl) ?_
            refine gX11_64 C hP Nat.zero_lt_one dX11_frame_110 ?_
            refine lv_iload_n C.1 C.2.1 dX11_frame_113 rfl (lv_at hl 2 rfl) ?_
            obtain ⟨h12, hw⟩ := hw
            refine al_57 C hP Nat.zero_lt_one h12 dX11_frame_114 ?_
            refine lv_if_eq (tgt := 122) C.1 C.2.1 dX11_frame_115 (by decide) (fun h13 => ?_) (fun h13 => ?_)
            · have hw := hw.1 h13
              refine lv_iconst (v := 0) C.1 C.2.1 dX11_frame_122 (by decide) ?_
              exact retI (wf := (yw g)) C hP hS hw dX11_frame_123
            · have hw := hw.2 h13
              refine lv_iconst (v := 1) C.1 C.2.1 dX11_frame_118 (by decide) ?_
              refine lv_goto (tgt := 123) C.1 C.2.1 dX11_frame_119 (by decide) ?_
              exact retI (wf := (yw g)) C hP hS hw dX11_frame_123
          · have hw := hw.2 h11
            refine lv_aload_n C.1 C.2.1 dX11_frame_95 rfl (lv_at hl 0 rfl) ?_
            refine gX11_61 C hP Nat.zero_lt_one dX11_frame_96 ?_
            refine lv_iload_n C.1 C.2.1 dX11_frame_99 rfl (lv_at hl 2 rfl) ?_
            obtain ⟨h14, hw⟩ := hw
            refine al_56 C hP Nat.zero_lt_one h14 dX11_frame_100 ?_
            refine lv_iconst (v := 4) C.1 C.2.1 dX11_frame_101 (by decide) ?_
            refine lv_ishr C.1 C.2.1 dX11_frame_102 ?_
            refine lv_bipush (v := 63) C.1 C.2.1 dX11_frame_103 (by decide) ?_
            refine lv_iand C.1 C.2.1 dX11_frame_105 ?_
            refine lv_goto (tgt := 123) C.1 C.2.1 dX11_frame_106 (by decide) ?_
            exact retI (wf := (yw g)) C hP hS hw dX11_frame_123
        · have hw := hw.2 h10
          refine lv_aload_n C.1 C.2.1 dX11_frame_76 rfl (lv_at hl 0 rfl) ?_
          refine gX11_61 C hP Nat.zero_lt_one dX11_frame_77 ?_
          refine lv_iload_n C.1 C.2.1 dX11_frame_80 rfl (lv_at hl 2 rfl) ?_
          obtain ⟨h15, hw⟩ := hw
          refine al_56 C hP Nat.zero_lt_one h15 dX11_frame_81 ?_
          refine lv_bipush (v := 10) C.1 C.2.1 dX11_frame_82 (by decide) ?_
          refine lv_ishr C.1 C.2.1 dX11_frame_84 ?_
          refine lv_iconst (v := 3) C.1 C.2.1 dX11_frame_85 (by decide) ?_
          refine lv_iand C.1 C.2.1 dX11_frame_86 ?_
          refine lv_goto (tgt := 123) C.1 C.2.1 dX11_frame_87 (by decide) ?_
          exact retI (wf := (yw g)) C hP hS hw dX11_frame_123
      · have hw := hw.2 h9
        refine lv_aload_n C.1 C.2.1 dX11_frame_62 rfl (lv_at hl 0 rfl) ?_
        refine gX11_58 C hP Nat.zero_lt_one dX11_frame_63 ?_
        refine lv_iload_n C.1 C.2.1 dX11_frame_66 rfl (lv_at hl 2 rfl) ?_
        obtain ⟨h16, hw⟩ := hw
        refine al_55 C hP Nat.zero_lt_one h16 dX11_frame_67 ?_
        refine lv_goto (tgt := 123) C.1 C.2.1 dX11_frame_68 (by decide) ?_
        exact retI (wf := (yw g)) C hP hS hw dX11_frame_123
    · have hw := hw.2 h8
      refine lv_bipush (v := (-2)) C.1 C.2.1 dX11_frame_55 (by decide) ?_
      exact retI (wf := (yw g)) C hP hS hw dX11_frame_57
  · have hw := hw.2 h7
    refine lv_aload_n C.1 C.2.1 dX11_frame_42 rfl (lv_at hl 0 rfl) ?_
    refine gX11_368 C hP Nat.zero_lt_one dX11_frame_43 ?_
    exact retI (wf := (yw g)) C hP hS hw dX11_frame_46
def p_X11_frame (a1 : Int32) (a2 : Int32) (a3 : Int32) (M : Mem) (Q : Int32 → Mem → Prop) : Prop := (∀ M1 : Mem, M1 = sI M 40 0 2 0 → (p_X11_isChannel a1 M1 (fun r2 M2 => ((r2 = 0 → (Q (-1) M2)) ∧ (¬ r2 = 0 → ((a2 < (-1) → (Q (-1) M2)) ∧ (¬ a2 < (-1) → ((a2 < 0 → (b_X11_frame_33 Q a1 a2 a3 M2)) ∧ (¬ a2 < 0 → (p_X11_isIn a3 0 3 M2 (fun r17 M17 => ((¬ r17 = 0 → (b_X11_frame_33 Q a1 a2 a3 M17)) ∧ (r17 = 0 → (Q (-1) M17))))))))))))))
set_option maxRecDepth 100000 in
set_option maxHeartbeats 4000000 in
theorem c_X11_frame (l : Launch) (g : Geo) (gi : GI g) (a1 : Int32) (a2 : Int32) (a3 : Int32) (M : Mem) (Q : Int32 → Mem → Prop) (hw : p_X11_frame a1 a2 a3 M Q) : Met l yX11_frame (Cond.code yX11_frame cX11_frame 4 (some .int) :: bg) ({ frames := 4, cells := 0, slots := 0, locals := 93 } : Room) (va_Pc [.ref (g.2.1 (138 + 0)), .int a1, .int a2, .int a3] (PW g (yw g M))) (va_Qi Q (PB g (yw g)) (Af 1 g)) 0 0 (Af 1 g) := by
  refine Met.ofW (cc := cX11_frame) (maxL := 4) (ret := (some .int)) (by decide +kernel) rfl ?_
  intro p e s m args below meth c s₁ B hml hv
  obtain ⟨rfl, hv⟩ := hv
  have C := CX.start (own := RX11) B hml rfl gi hv
  have hP := hv.1
  have hS : va_S (Af 1 g) s.heap s.heap [] := va_S.rf
  have hl := lv_entry ([.ref (g.2.1 (138 + 0)), .int a1, .int a2, .int a3]) (n := 4) (Nat.le_of_ble_eq_true rfl)
  rw [lg_entry_eq]
  generalize (lg_sl ([.ref (g.2.1 (138 + 0)), .int a1, .int a2, .int a3]) ++ List.replicate (4 - (lg_sl ([.ref (g.2.1 (138 + 0)), .int a1, .int a2, .int a3])).length) Slot.unset).toArray = ls at hl ⊢
  have hl : lv_has ls 4 [(0, .ref (g.2.1 (138 + 0))), (1, .int a1), (2, .int a2), (3, .int a3)] := hl
  unfold p_X11_frame at hw
  refine lv_aload_n C.1 C.2.1 dX11_frame_0 rfl (lv_at hl 0 rfl) ?_
  refine lv_iconst (v := 0) C.1 C.2.1 dX11_frame_1 (by decide) ?_
  refine pX11_76 C hP hS Nat.zero_lt_one dX11_frame_2 (fun M1 e1 H locs hP hS => ?_)
  have hw := hw M1 e1
  refine lv_aload_n C.1 C.2.1 dX11_frame_5 rfl (lv_at hl 0 rfl) ?_
  refine lv_iload_n C.1 C.2.1 dX11_frame_6 rfl (lv_at hl 1 rfl) ?_
  refine goI (wf := (yw g)) (runV (w := yw g M1) (As := [.int a1]) (rest := []) C lkX11_365 (c_X11_isChannel l g C.2.2.2.2.2.2.2.2.2.2 a1  M1 _ hw) hP hS rfl rfl ⟨Nat.le_of_ble_eq_true rfl, Nat.le_of_ble_eq_true rfl⟩ (xx_40 Nat.zero_lt_one) rfl rfl hl.1 rfl (Nat.le_of_ble_eq_true rfl) dX11_frame_7) hS (fun r2 M2 hw H locs hP hS => ?_)
  obtain ⟨hw, hz2⟩ := hw
  refine lv_if_eq (tgt := 31) C.1 C.2.1 dX11_frame_10 (by decide) (fun h3 => ?_) (fun h3 => ?_)
  · have hw := hw.1 h3
    refine lv_iconst (v := (-1)) C.1 C.2.1 dX11_frame_31 (by decide) ?_
    exact retI (wf := (yw g)) C hP hS hw dX11_frame_32
  · have hw := hw.2 h3
    refine lv_iload_n C.1 C.2.1 dX11_frame_13 rfl (lv_at hl 2 rfl) ?_
    refine lv_iconst (v := (-1)) C.1 C.2.1 dX11_frame_14 (by decide) ?_
    refine lv_icmp_lt (tgt := 31) C.1 C.2.1 dX11_frame_15 (by decide) (fun h4 => ?_) (fun h4 => ?_)
    · have hw := hw.1 h4
      refine lv_iconst (v := (-1)) C.1 C.2.1 dX11_frame_31 (by decide) ?_
      exact retI (wf := (yw g)) C hP hS hw dX11_frame_32
    · have hw := hw.2 h4
      refine lv_iload_n C.1 C.2.1 dX11_frame_18 rfl (lv_at hl 2 rfl) ?_
      refine lv_if_lt (tgt := 33) C.1 C.2.1 dX11_frame_19 (by decide) (fun h5 => ?_) (fun h5 => ?_)
      · have hw := hw.1 h5
        exact k_X11_frame_33 (Q := Q) C a1 a2 a3  _ hw (lv_sub hl [0, 1, 2, 3] rfl) hP hS
      · have hw := hw.2 h5
        refine lv_iload_n C.1 C.2.1 dX11_frame_22 rfl (lv_at hl 3 rfl) ?_
        refine lv_iconst (v := 0) C.1 C.2.1 dX11_frame_23 (by decide) ?_
        refine lv_iconst (v := 3) C.1 C.2.1 dX11_frame_24 (by decide) ?_
        refine goI (wf := (yw g)) (runS (w := yw g M2) (As := [.int a3, .int 0, .int 3]) (rest := []) C lkX11_166 (c_X11_isIn l g C.2.2.2.2.2.2.2.2.2.2 a3 0 3  M2 _ hw) hP hS rfl rfl ⟨Nat.le_of_ble_eq_true rfl, Nat.le_of_ble_eq_true rfl⟩ hl.1 rfl (Nat.le_of_ble_eq_true rfl) dX11_frame_25) hS (fun r17 M17 hw H locs hP hS => ?_)
        obtain ⟨hw, hz17⟩ := hw
        refine lv_if_ne (tgt := 33) C.1 C.2.1 dX11_frame_28 (by decide) (fun h18 => ?_) (fun h18 => ?_)
        · have hw := hw.1 h18
          exact k_X11_frame_33 (Q := Q) C a1 a2 a3  _ hw (lv_sub hl [0, 1, 2, 3] rfl) hP hS
        · have hw := hw.2 h18
          refine lv_iconst (v := (-1)) C.1 C.2.1 dX11_frame_31 (by decide) ?_
          exact retI (wf := (yw g)) C hP hS hw dX11_frame_32
def p_X11_bad (a1 : Int32) (M : Mem) (Q : Int32 → Mem → Prop) : Prop := (∀ M1 : Mem, M1 = sI M 40 0 2 0 → (p_X11_isChannel a1 M1 (fun r2 M2 => ((¬ r2 = 0 → (p_X11_layFrames a1 M2 (fun M4 => (Q (M4.1 40 0 42) M4)))) ∧ (r2 = 0 → (Q (-1) M2))))))
set_option maxRecDepth 100000 in
set_option maxHeartbeats 4000000 in
theorem c_X11_bad (l : Launch) (g : Geo) (gi : GI g) (a1 : Int32) (M : Mem) (Q : Int32 → Mem → Prop) (hw : p_X11_bad a1 M Q) : Met l yX11_bad (Cond.code yX11_bad cX11_bad 2 (some .int) :: bg) ({ frames := 4, cells := 0, slots := 0, locals := 93 } : Room) (va_Pc [.ref (g.2.1 (138 + 0)), .int a1] (PW g (yw g M))) (va_Qi Q (PB g (yw g)) (Af 1 g)) 0 0 (Af 1 g) := by
  refine Met.ofW (cc := cX11_bad) (maxL := 2) (ret := (some .int)) (by decide +kernel) rfl ?_
  intro p e s m args below meth c s₁ B hml hv
  obtain ⟨rfl, hv⟩ := hv
  have C := CX.start (own := RX11) B hml rfl gi hv
  have hP := hv.1
  have hS : va_S (Af 1 g) s.heap s.heap [] := va_S.rf
  have hl := lv_entry ([.ref (g.2.1 (138 + 0)), .int a1]) (n := 2) (Nat.le_of_ble_eq_true rfl)
  rw [lg_entry_eq]
  generalize (lg_sl ([.ref (g.2.1 (138 + 0)), .int a1]) ++ List.replicate (2 - (lg_sl ([.ref (g.2.1 (138 + 0)), .int a1])).length) Slot.unset).toArray = ls at hl ⊢
  have hl : lv_has ls 2 [(0, .ref (g.2.1 (138 + 0))), (1, .int a1)] := hl
  unfold p_X11_bad at hw
  refine lv_aload_n C.1 C.2.1 dX11_bad_0 rfl (lv_at hl 0 rfl) ?_
  refine lv_iconst (v := 0) C.1 C.2.1 dX11_bad_1 (by decide) ?_
  refine pX11_76 C hP hS Nat.zero_lt_one dX11_bad_2 (fun M1 e1 H locs hP hS => ?_)
  have hw := hw M1 e1
  refine lv_aload_n C.1 C.2.1 dX11_bad_5 rfl (lv_at hl 0 rfl) ?_
  refine lv_iload_n C.1 C.2.1 dX11_bad_6 rfl (lv_at hl 1 rfl) ?_
  refine goI (wf := (yw g)) (runV (w := yw g M1) (As := [.int a1]) (rest := []) C lkX11_365 (c_X11_isChannel l g C.2.2.2.2.2.2.2.2.2.2 a1  M1 _ hw) hP hS rfl rfl ⟨Nat.le_of_ble_eq_true rfl, Nat.le_of_ble_eq_true rfl⟩ (xx_40 Nat.zero_lt_one) rfl rfl hl.1 rfl (Nat.le_of_ble_eq_true rfl) dX11_bad_7) hS (fun r2 M2 hw H locs hP hS => ?_)
  obtain ⟨hw, hz2⟩ := hw
  refine lv_if_ne (tgt := 15) C.1 C.2.1 dX11_bad_10 (by decide) (fun h3 => ?_) (fun h3 => ?_)
  · have hw := hw.1 h3
    refine lv_aload_n C.1 C.2.1 dX11_bad_15 rfl (lv_at hl 0 rfl) ?_
    refine lv_iload_n C.1 C.2.1 dX11_bad_16 rfl (lv_at hl 1 rfl) ?_
    refine goV (wf := (yw g)) (runV (w := yw g M2) (As := [.int a1]) (rest := []) C lkX11_378 (c_X11_layFrames l g C.2.2.2.2.2.2.2.2.2.2 a1  M2 _ hw) hP hS rfl rfl ⟨Nat.le_of_ble_eq_true rfl, Nat.le_of_ble_eq_true rfl⟩ (xx_40 Nat.zero_lt_one) rfl rfl hl.1 rfl (Nat.le_of_ble_eq_true rfl) dX11_bad_17) hS (fun M4 hw H locs hP hS => ?_)
    refine lv_aload_n C.1 C.2.1 dX11_bad_20 rfl (lv_at hl 0 rfl) ?_
    refine gX11_371 C hP Nat.zero_lt_one dX11_bad_21 ?_
    exact retI (wf := (yw g)) C hP hS hw dX11_bad_24
  · have hw := hw.2 h3
    refine lv_iconst (v := (-1)) C.1 C.2.1 dX11_bad_13 (by decide) ?_
    exact retI (wf := (yw g)) C hP hS hw dX11_bad_14
def b_X11_errors_126 (Q : Int32 → Mem → Prop) (v3 : Int32) (v4 : Int32) (M : Mem) : Prop := (((v3 - v4) ≤ v4 → (Q (v3 - v4) M)) ∧ (¬ (v3 - v4) ≤ v4 → (Q v4 M)))
set_option maxRecDepth 100000 in
set_option maxHeartbeats 4000000 in
theorem k_X11_errors_126 {p : Program} {l : Launch} {e : Env} {s : State} {m : MethodId} {args : Array Value} {below : List Frame} {meth : Method} {c : Code} {g : Geo} (C : CX g p s m args meth c cX11_errors 8 (some .int) RX11) {Q : Int32 → Mem → Prop} (v3 : Int32) (v4 : Int32) (M : Mem) (hw : b_X11_errors_126 Q v3 v4 M) {H : Heap} {locs : List Loc} {ls : Array Slot} (hl : lv_has ls 8 [(3, .int v3), (4, .int v4)]) (hP : va_P g.1 clz (yw g M) H) (hS : va_S (Af 1 g) s.heap H locs) : W p l e ({ frames := 3, cells := 0, slots := 0, locals := 71 } : Room) s m args below meth c H locs 0 0 (MQ below (va_Qi Q (PB g (yw g)) (Af 1 g)) args s 0 0 (Af 1 g)) (F0 m 126 ls []) := by
  unfold b_X11_errors_126 at hw
  refine lv_iload C.1 C.2.1 dX11_errors_126 (lv_at hl 1 rfl) ?_
  refine lv_iload_n C.1 C.2.1 dX11_errors_128 rfl (lv_at hl 0 rfl) ?_
  refine lv_iload C.1 C.2.1 dX11_errors_129 (lv_at hl 1 rfl) ?_
  refine lv_isub C.1 C.2.1 dX11_errors_131 ?_
  refine lv_icmp_ge (tgt := 140) C.1 C.2.1 dX11_errors_132 (by decide) (fun h9 => ?_) (fun h9 => ?_)
  · have hw := hw.1 h9
    refine lv_iload_n C.1 C.2.1 dX11_errors_140 rfl (lv_at hl 0 rfl) ?_
    refine lv_iload C.1 C.2.1 dX11_errors_141 (lv_at hl 1 rfl) ?_
    refine lv_isub C.1 C.2.1 dX11_errors_143 ?_
    exact retI (wf := (yw g)) C hP hS hw dX11_errors_144
  · have hw := hw.2 h9
    refine lv_iload C.1 C.2.1 dX11_errors_135 (lv_at hl 1 rfl) ?_
    refine lv_goto (tgt := 144) C.1 C.2.1 dX11_errors_137 (by decide) ?_
    exact retI (wf := (yw g)) C hP hS hw dX11_errors_144
def b_X11_errors_117 (Q : Int32 → Mem → Prop) (k48 : Int32 → Int32 → Int32 → Int32 → Int32 → Mem → Prop) (v1 : Int32) (v2 : Int32) (v3 : Int32) (v5 : Int32) (s0 : Int32) (s1 : Int32) (M : Mem) : Prop := (∀ x17 : Int32, x17 = (s0 + s1) → (∀ x18 : Int32, x18 = (v5 + 1) → (k48 v1 v2 v3 x17 x18 M)))
set_option maxRecDepth 100000 in
set_option maxHeartbeats 4000000 in
theorem k_X11_errors_117 {p : Program} {l : Launch} {e : Env} {s : State} {m : MethodId} {args : Array Value} {below : List Frame} {meth : Method} {c : Code} {g : Geo} (C : CX g p s m args meth c cX11_errors 8 (some .int) RX11) {Q : Int32 → Mem → Prop} {k48 : Int32 → Int32 → Int32 → Int32 → Int32 → Mem → Prop} (hk48 : ∀ (v1 : Int32) (v2 : Int32) (v3 : Int32) (v4 : Int32) (v5 : Int32) (M : Mem), k48 v1 v2 v3 v4 v5 M → ∀ (H : Heap) (locs : List Loc) (ls : Array Slot), lv_has ls 8 [(0, .ref (g.2.1 (138 + 0))), (1, .int v1), (2, .int v2), (3, .int v3), (4, .int v4), (5, .int v5)] → va_P g.1 clz (yw g M) H → va_S (Af 1 g) s.heap H locs → W p l e ({ frames := 3, cells := 0, slots := 0, locals := 71 } : Room) s m args below meth c H locs 0 0 (MQ below (va_Qi Q (PB g (yw g)) (Af 1 g)) args s 0 0 (Af 1 g)) (F0 m 48 ls [])) (v1 : Int32) (v2 : Int32) (v3 : Int32) (v5 : Int32) (s0 : Int32) (s1 : Int32) (M : Mem) (hw : b_X11_errors_117 Q k48 v1 v2 v3 v5 s0 s1 M) {H : Heap} {locs : List Loc} {ls : Array Slot} (hl : lv_has ls 8 [(0, .ref (g.2.1 (138 + 0))), (1, .int v1), (2, .int v2), (3, .int v3), (5, .int v5)]) (hP : va_P g.1 clz (yw g M) H) (hS : va_S (Af 1 g) s.heap H locs) : W p l e ({ frames := 3, cells := 0, slots := 0, locals := 71 } : Room) s m args below meth c H locs 0 0 (MQ below (va_Qi Q (PB g (yw g)) (Af 1 g)) args s 0 0 (Af 1 g)) (F0 m 117 ls [.int s1, .int s0]) := by
  unfold b_X11_errors_117 at hw
  refine lv_iadd C.1 C.2.1 dX11_errors_117 ?_
  refine lv_topi (fun x17 e17 => ?_)
  have hw := hw x17 e17
  refine lv_istore (lv' := [(4, .int x17), (0, .ref (g.2.1 (138 + 0))), (1, .int v1), (2, .int v2), (3, .int v3), (5, .int v5)]) C.1 C.2.1 dX11_errors_118 hl (by decide) rfl (fun ls hl => ?_)
  obtain ⟨x18, e18⟩ : ∃ y : Int32, y = (v5 + 1) := ⟨_, rfl⟩
  have hw := hw x18 e18
  refine lv_iinc (v := x18) (lv' := [(5, .int x18), (4, .int x17), (0, .ref (g.2.1 (138 + 0))), (1, .int v1), (2, .int v2), (3, .int v3)]) C.1 C.2.1 dX11_errors_120 hl (k := 5) rfl (by rw [e18]; rfl) (by decide) rfl (fun ls hl => ?_)
  refine lv_goto (tgt := 48) C.1 C.2.1 dX11_errors_123 (by decide) ?_
  exact hk48 v1 v2 v3 x17 x18  _ hw _ _ _ (lv_sub hl [2, 3, 4, 5, 1, 0] rfl) hP hS
def b_X11_errors_48 (Q : Int32 → Mem → Prop) : Nat → Int32 → Int32 → Int32 → Int32 → Int32 → Mem → Prop
  | 0, _, _, _, _, _, _ => False
  | n + 1, v1, v2, v3, v4, v5, M => ((v3 ≤ v5 → (b_X11_errors_126 Q v3 v4 M)) ∧ (¬ v3 ≤ v5 → (p_X11_at v1 5 M (fun r10 M10 => (∀ x11 : Int32, x11 = ((r10 - v3) + v5) → (p_X11_startIn v2 x11 M10 (fun r12 M12 => (p_X11_quotient (((((62 : Int32) * x11) + 31) - r12)) 62 M12 (fun r13 M13 => (p_X11_sentBit v2 r13 M13 (fun r14 M14 => (p_X11_at v1 (((9 : Int32) + v5)) M14 (fun r15 M15 => ((r14 = r15 → (b_X11_errors_117 Q (fun v1 v2 v3 v4 v5 M => b_X11_errors_48 Q n v1 v2 v3 v4 v5 M) v1 v2 v3 v5 v4 0 M15)) ∧ (¬ r14 = r15 → (b_X11_errors_117 Q (fun v1 v2 v3 v4 v5 M => b_X11_errors_48 Q n v1 v2 v3 v4 v5 M) v1 v2 v3 v5 v4 1 M15))))))))))))))))
set_option maxRecDepth 100000 in
set_option maxHeartbeats 4000000 in
theorem k_X11_errors_48 {p : Program} {l : Launch} {e : Env} {s : State} {m : MethodId} {args : Array Value} {below : List Frame} {meth : Method} {c : Code} {g : Geo} (C : CX g p s m args meth c cX11_errors 8 (some .int) RX11) {Q : Int32 → Mem → Prop} : ∀ (n : Nat) (v1 : Int32) (v2 : Int32) (v3 : Int32) (v4 : Int32) (v5 : Int32) (M : Mem) (hw : b_X11_errors_48 Q n v1 v2 v3 v4 v5 M) {H : Heap} {locs : List Loc} {ls : Array Slot} (hl : lv_has ls 8 [(0, .ref (g.2.1 (138 + 0))), (1, .int v1), (2, .int v2), (3, .int v3), (4, .int v4), (5, .int v5)]) (hP : va_P g.1 clz (yw g M) H) (hS : va_S (Af 1 g) s.heap H locs), W p l e ({ frames := 3, cells := 0, slots := 0, locals := 71 } : Room) s m args below meth c H locs 0 0 (MQ below (va_Qi Q (PB g (yw g)) (Af 1 g)) args s 0 0 (Af 1 g)) (F0 m 48 ls []) := by
  intro n
  induction n with
  | zero => intro v1 v2 v3 v4 v5 M hw H locs ls hl hP hS; exact absurd hw (by rw [b_X11_errors_48]; exact fun h => h)
  | succ n ih =>
    intro v1 v2 v3 v4 v5 M hw H locs ls hl hP hS
    rw [b_X11_errors_48] at hw
    refine lv_iload C.1 C.2.1 dX11_errors_48 (lv_at hl 5 rfl) ?_
    refine lv_iload_n C.1 C.2.1 dX11_errors_50 rfl (lv_at hl 3 rfl) ?_
    refine lv_icmp_ge (tgt := 126) C.1 C.2.1 dX11_errors_51 (by decide) (fun h8 => ?_) (fun h8 => ?_)
    · have hw := hw.1 h8
      exact k_X11_errors_126 (Q := Q) C v3 v4  _ hw (lv_sub hl [3, 4] rfl) hP hS
    · have hw := hw.2 h8
      refine lv_aload_n C.1 C.2.1 dX11_errors_54 rfl (lv_at hl 0 rfl) ?_
      refine lv_iload_n C.1 C.2.1 dX11_errors_55 rfl (lv_at hl 1 rfl) ?_
      refine lv_iconst (v := 5) C.1 C.2.1 dX11_errors_56 (by decide) ?_
      refine goI (wf := (yw g)) (runV (w := yw g M) (As := [.int v1, .int 5]) (rest := []) C lkX11_352 (c_X11_at l g C.2.2.2.2.2.2.2.2.2.2 v1 5  M _ hw) hP hS rfl rfl ⟨Nat.le_of_ble_eq_true rfl, Nat.le_of_ble_eq_true rfl⟩ (xx_40 Nat.zero_lt_one) rfl rfl hl.1 rfl (Nat.le_of_ble_eq_true rfl) dX11_errors_57) hS (fun r10 M10 hw H locs hP hS => ?_)
      refine lv_iload_n C.1 C.2.1 dX11_errors_60 rfl (lv_at hl 3 rfl) ?_
      refine lv_isub C.1 C.2.1 dX11_errors_61 ?_
      refine lv_iload C.1 C.2.1 dX11_errors_62 (lv_at hl 5 rfl) ?_
      refine lv_iadd C.1 C.2.1 dX11_errors_64 ?_
      refine lv_topi (fun x11 e11 => ?_)
      have hw := hw x11 e11
      refine lv_istore (lv' := [(6, .int x11), (0, .ref (g.2.1 (138 + 0))), (1, .int v1), (2, .int v2), (3, .int v3), (4, .int v4), (5, .int v5)]) C.1 C.2.1 dX11_errors_65 hl (by decide) rfl (fun ls hl => ?_)
      refine lv_aload_n C.1 C.2.1 dX11_errors_67 rfl (lv_at hl 1 rfl) ?_
      refine lv_iload_n C.1 C.2.1 dX11_errors_68 rfl (lv_at hl 3 rfl) ?_
      refine lv_bipush (v := 62) C.1 C.2.1 dX11_errors_69 (by decide) ?_
      refine lv_iload C.1 C.2.1 dX11_errors_71 (lv_at hl 0 rfl) ?_
      refine lv_imul C.1 C.2.1 dX11_errors_73 ?_
      refine lv_bipush (v := 31) C.1 C.2.1 dX11_errors_74 (by decide) ?_
      refine lv_iadd C.1 C.2.1 dX11_errors_76 ?_
      refine lv_aload_n C.1 C.2.1 dX11_errors_77 rfl (lv_at hl 1 rfl) ?_
      refine lv_iload_n C.1 C.2.1 dX11_errors_78 rfl (lv_at hl 3 rfl) ?_
      refine lv_iload C.1 C.2.1 dX11_errors_79 (lv_at hl 0 rfl) ?_
      refine goI (wf := (yw g)) (runV (w := yw g M10) (As := [.int v2, .int x11]) (rest := [.int (((62 : Int32) * x11) + 31), .int v2, .ref (g.2.1 (138 + 0))]) C lkX11_277 (c_X11_startIn l g C.2.2.2.2.2.2.2.2.2.2 v2 x11  M10 _ hw) hP hS rfl rfl ⟨Nat.le_of_ble_eq_true rfl, Nat.le_of_ble_eq_true rfl⟩ (xx_40 Nat.zero_lt_one) rfl rfl hl.1 rfl (Nat.le_of_ble_eq_true rfl) dX11_errors_81) hS (fun r12 M12 hw H locs hP hS => ?_)
      refine lv_isub C.1 C.2.1 dX11_errors_84 ?_
      refine lv_bipush (v := 62) C.1 C.2.1 dX11_errors_85 (by decide) ?_
      refine goI (wf := (yw g)) (runS (w := yw g M12) (As := [.int ((((62 : Int32) * x11) + 31) - r12), .int 62]) (rest := [.int v2, .ref (g.2.1 (138 + 0))]) C lkX11_252 (c_X11_quotient l g C.2.2.2.2.2.2.2.2.2.2 (((((62 : Int32) * x11) + 31) - r12)) 62  M12 _ hw) hP hS rfl rfl ⟨Nat.le_of_ble_eq_true rfl, Nat.le_of_ble_eq_true rfl⟩ hl.1 rfl (Nat.le_of_ble_eq_true rfl) dX11_errors_87) hS (fun r13 M13 hw H locs hP hS => ?_)
      refine goI (wf := (yw g)) (runV (w := yw g M13) (As := [.int v2, .int r13]) (rest := []) C lkX11_246 (c_X11_sentBit l g C.2.2.2.2.2.2.2.2.2.2 v2 r13  M13 _ hw) hP hS rfl rfl ⟨Nat.le_of_ble_eq_true rfl, Nat.le_of_ble_eq_true rfl⟩ (xx_40 Nat.zero_lt_one) rfl rfl hl.1 rfl (Nat.le_of_ble_eq_true rfl) dX11_errors_90) hS (fun r14 M14 hw H locs hP hS => ?_)
      refine lv_istore (lv' := [(7, .int r14), (6, .int x11), (0, .ref (g.2.1 (138 + 0))), (1, .int v1), (2, .int v2), (3, .int v3), (4, .int v4), (5, .int v5)]) C.1 C.2.1 dX11_errors_93 hl (by decide) rfl (fun ls hl => ?_)
      refine lv_iload C.1 C.2.1 dX11_errors_95 (lv_at hl 6 rfl) ?_
      refine lv_iload C.1 C.2.1 dX11_errors_97 (lv_at hl 0 rfl) ?_
      refine lv_aload_n C.1 C.2.1 dX11_errors_99 rfl (lv_at hl 2 rfl) ?_
      refine lv_iload_n C.1 C.2.1 dX11_errors_100 rfl (lv_at hl 3 rfl) ?_
      refine lv_bipush (v := 9) C.1 C.2.1 dX11_errors_101 (by decide) ?_
      refine lv_iload C.1 C.2.1 dX11_errors_103 (lv_at hl 7 rfl) ?_
      refine lv_iadd C.1 C.2.1 dX11_errors_105 ?_
      refine goI (wf := (yw g)) (runV (w := yw g M14) (As := [.int v1, .int ((9 : Int32) + v5)]) (rest := [.int r14, .int v4]) C lkX11_352 (c_X11_at l g C.2.2.2.2.2.2.2.2.2.2 v1 (((9 : Int32) + v5))  M14 _ hw) hP hS rfl rfl ⟨Nat.le_of_ble_eq_true rfl, Nat.le_of_ble_eq_true rfl⟩ (xx_40 Nat.zero_lt_one) rfl rfl hl.1 rfl (Nat.le_of_ble_eq_true rfl) dX11_errors_106) hS (fun r15 M15 hw H locs hP hS => ?_)
      refine lv_icmp_eq (tgt := 116) C.1 C.2.1 dX11_errors_109 (by decide) (fun h16 => ?_) (fun h16 => ?_)
      · have hw := hw.1 h16
        refine lv_iconst (v := 0) C.1 C.2.1 dX11_errors_116 (by decide) ?_
        exact k_X11_errors_117 (Q := Q) C (fun v1 v2 v3 v4 v5  M hw H locs ls hl hP hS => ih v1 v2 v3 v4 v5  M hw hl hP hS) v1 v2 v3 v5 v4 0  _ hw (lv_sub hl [2, 3, 4, 5, 7] rfl) hP hS
      · have hw := hw.2 h16
        refine lv_iconst (v := 1) C.1 C.2.1 dX11_errors_112 (by decide) ?_
        refine lv_goto (tgt := 117) C.1 C.2.1 dX11_errors_113 (by decide) ?_
        exact k_X11_errors_117 (Q := Q) C (fun v1 v2 v3 v4 v5  M hw H locs ls hl hP hS => ih v1 v2 v3 v4 v5  M hw hl hP hS) v1 v2 v3 v5 v4 1  _ hw (lv_sub hl [2, 3, 4, 5, 7] rfl) hP hS
def p_X11_errors (a1 : Int32) (M : Mem) (Q : Int32 → Mem → Prop) : Prop := (∀ M1 : Mem, M1 = sI M 40 0 2 0 → (p_X11_isChannel a1 M1 (fun r2 M2 => ((¬ r2 = 0 → (p_X11_at a1 0 M2 (fun r4 M4 => (p_X11_birdOf r4 2 M4 (fun r5 M5 => ((¬ r5 = 0 → (p_X11_at a1 8 M5 (fun r7 M7 => (∃ n48 : Nat, b_X11_errors_48 Q n48 a1 r4 r7 0 0 M7)))) ∧ (r5 = 0 → (Q (-2) M5)))))))) ∧ (r2 = 0 → (Q (-1) M2))))))
set_option maxRecDepth 100000 in
set_option maxHeartbeats 4000000 in
theorem c_X11_errors (l : Launch) (g : Geo) (gi : GI g) (a1 : Int32) (M : Mem) (Q : Int32 → Mem → Prop) (hw : p_X11_errors a1 M Q) : Met l yX11_errors (Cond.code yX11_errors cX11_errors 8 (some .int) :: bg) ({ frames := 3, cells := 0, slots := 0, locals := 71 } : Room) (va_Pc [.ref (g.2.1 (138 + 0)), .int a1] (PW g (yw g M))) (va_Qi Q (PB g (yw g)) (Af 1 g)) 0 0 (Af 1 g) := by
  refine Met.ofW (cc := cX11_errors) (maxL := 8) (ret := (some .int)) (by decide +kernel) rfl ?_
  intro p e s m args below meth c s₁ B hml hv
  obtain ⟨rfl, hv⟩ := hv
  have C := CX.start (own := RX11) B hml rfl gi hv
  have hP := hv.1
  have hS : va_S (Af 1 g) s.heap s.heap [] := va_S.rf
  have hl := lv_entry ([.ref (g.2.1 (138 + 0)), .int a1]) (n := 8) (Nat.le_of_ble_eq_true rfl)
  rw [lg_entry_eq]
  generalize (lg_sl ([.ref (g.2.1 (138 + 0)), .int a1]) ++ List.replicate (8 - (lg_sl ([.ref (g.2.1 (138 + 0)), .int a1])).length) Slot.unset).toArray = ls at hl ⊢
  have hl : lv_has ls 8 [(0, .ref (g.2.1 (138 + 0))), (1, .int a1)] := hl
  unfold p_X11_errors at hw
  refine lv_aload_n C.1 C.2.1 dX11_errors_0 rfl (lv_at hl 0 rfl) ?_
  refine lv_iconst (v := 0) C.1 C.2.1 dX11_errors_1 (by decide) ?_
  refine pX11_76 C hP hS Nat.zero_lt_one dX11_errors_2 (fun M1 e1 H locs hP hS => ?_)
  have hw := hw M1 e1
  refine lv_aload_n C.1 C.2.1 dX11_errors_5 rfl (lv_at hl 0 rfl) ?_
  refine lv_iload_n C.1 C.2.1 dX11_errors_6 rfl (lv_at hl 1 rfl) ?_
  refine goI (wf := (yw g)) (runV (w := yw g M1) (As := [.int a1]) (rest := []) C lkX11_365 (c_X11_isChannel l g C.2.2.2.2.2.2.2.2.2.2 a1  M1 _ hw) hP hS rfl rfl ⟨Nat.le_of_ble_eq_true rfl, Nat.le_of_ble_eq_true rfl⟩ (xx_40 Nat.zero_lt_one) rfl rfl hl.1 rfl (Nat.le_of_ble_eq_true rfl) dX11_errors_7) hS (fun r2 M2 hw H locs hP hS => ?_)
  obtain ⟨hw, hz2⟩ := hw
  refine lv_if_ne (tgt := 15) C.1 C.2.1 dX11_errors_10 (by decide) (fun h3 => ?_) (fun h3 => ?_)
  · have hw := hw.1 h3
    refine lv_aload_n C.1 C.2.1 dX11_errors_15 rfl (lv_at hl 0 rfl) ?_
    refine lv_iload_n C.1 C.2.1 dX11_errors_16 rfl (lv_at hl 1 rfl) ?_
    refine lv_iconst (v := 0) C.1 C.2.1 dX11_errors_17 (by decide) ?_
    refine goI (wf := (yw g)) (runV (w := yw g M2) (As := [.int a1, .int 0]) (rest := []) C lkX11_352 (c_X11_at l g C.2.2.2.2.2.2.2.2.2.2 a1 0  M2 _ hw) hP hS rfl rfl ⟨Nat.le_of_ble_eq_true rfl, Nat.le_of_ble_eq_true rfl⟩ (xx_40 Nat.zero_lt_one) rfl rfl hl.1 rfl (Nat.le_of_ble_eq_true rfl) dX11_errors_18) hS (fun r4 M4 hw H locs hP hS => ?_)
    refine lv_istore_n (lv' := [(2, .int r4), (0, .ref (g.2.1 (138 + 0))), (1, .int a1)]) C.1 C.2.1 dX11_errors_21 rfl hl (by decide) rfl (fun ls hl => ?_)
    refine lv_aload_n C.1 C.2.1 dX11_errors_22 rfl (lv_at hl 1 rfl) ?_
    refine lv_iload_n C.1 C.2.1 dX11_errors_23 rfl (lv_at hl 0 rfl) ?_
    refine lv_iconst (v := 2) C.1 C.2.1 dX11_errors_24 (by decide) ?_
    refine goI (wf := (yw g)) (runV (w := yw g M4) (As := [.int r4, .int 2]) (rest := []) C lkX11_160 (c_X11_birdOf l g C.2.2.2.2.2.2.2.2.2.2 r4 2  M4 _ hw) hP hS rfl rfl ⟨Nat.le_of_ble_eq_true rfl, Nat.le_of_ble_eq_true rfl⟩ (xx_40 Nat.zero_lt_one) rfl rfl hl.1 rfl (Nat.le_of_ble_eq_true rfl) dX11_errors_25) hS (fun r5 M5 hw H locs hP hS => ?_)
    refine lv_if_ne (tgt := 34) C.1 C.2.1 dX11_errors_28 (by decide) (fun h6 => ?_) (fun h6 => ?_)
    · have hw := hw.1 h6
      refine lv_aload_n C.1 C.2.1 dX11_errors_34 rfl (lv_at hl 1 rfl) ?_
      refine lv_iload_n C.1 C.2.1 dX11_errors_35 rfl (lv_at hl 2 rfl) ?_
      refine lv_bipush (v := 8) C.1 C.2.1 dX11_errors_36 (by decide) ?_
      refine goI (wf := (yw g)) (runV (w := yw g M5) (As := [.int a1, .int 8]) (rest := []) C lkX11_352 (c_X11_at l g C.2.2.2.2.2.2.2.2.2.2 a1 8  M5 _ hw) hP hS rfl rfl ⟨Nat.le_of_ble_eq_true rfl, Nat.le_of_ble_eq_true rfl⟩ (xx_40 Nat.zero_lt_one) rfl rfl hl.1 rfl (Nat.le_of_ble_eq_true rfl) dX11_errors_38) hS (fun r7 M7 hw H locs hP hS => ?_)
      refine lv_istore_n (lv' := [(3, .int r7), (2, .int r4), (0, .ref (g.2.1 (138 + 0))), (1, .int a1)]) C.1 C.2.1 dX11_errors_41 rfl hl (by decide) rfl (fun ls hl => ?_)
      refine lv_iconst (v := 0) C.1 C.2.1 dX11_errors_42 (by decide) ?_
      refine lv_istore (lv' := [(4, .int 0), (3, .int r7), (2, .int r4), (0, .ref (g.2.1 (138 + 0))), (1, .int a1)]) C.1 C.2.1 dX11_errors_43 hl (by decide) rfl (fun ls hl => ?_)
      refine lv_iconst (v := 0) C.1 C.2.1 dX11_errors_45 (by decide) ?_
      refine lv_istore (lv' := [(5, .int 0), (4, .int 0), (3, .int r7), (2, .int r4), (0, .ref (g.2.1 (138 + 0))), (1, .int a1)]) C.1 C.2.1 dX11_errors_46 hl (by decide) rfl (fun ls hl => ?_)
      obtain ⟨n9, hw⟩ := hw
      exact k_X11_errors_48 (Q := Q) C n9 a1 r4 r7 0 0  _ hw (lv_sub hl [4, 5, 3, 2, 1, 0] rfl) hP hS
    · have hw := hw.2 h6
      refine lv_bipush (v := (-2)) C.1 C.2.1 dX11_errors_31 (by decide) ?_
      exact retI (wf := (yw g)) C hP hS hw dX11_errors_33
  · have hw := hw.2 h3
    refine lv_iconst (v := (-1)) C.1 C.2.1 dX11_errors_13 (by decide) ?_
    exact retI (wf := (yw g)) C hP hS hw dX11_errors_14
def b_X11_latest_55 (Q : Int32 → Mem → Prop) (v3 : Int32) (M : Mem) : Prop := (vp_in v3 64 ∧ (Q (((M.1 56 0 (v3 : Int32).toNatClampNeg) >>> (4 &&& 31)) &&& 63) M))
set_option maxRecDepth 100000 in
set_option maxHeartbeats 4000000 in
theorem k_X11_latest_55 {p : Program} {l : Launch} {e : Env} {s : State} {m : MethodId} {args : Array Value} {below : List Frame} {meth : Method} {c : Code} {g : Geo} (C : CX g p s m args meth c cX11_latest 4 (some .int) RX11) {Q : Int32 → Mem → Prop} (v3 : Int32) (M : Mem) (hw : b_X11_latest_55 Q v3 M) {H : Heap} {locs : List Loc} {ls : Array Slot} (hl : lv_has ls 4 [(0, .ref (g.2.1 (138 + 0))), (3, .int v3)]) (hP : va_P g.1 clz (yw g M) H) (hS : va_S (Af 1 g) s.heap H locs) : W p l e ({ frames := 4, cells := 0, slots := 0, locals := 93 } : Room) s m args below meth c H locs 0 0 (MQ below (va_Qi Q (PB g (yw g)) (Af 1 g)) args s 0 0 (Af 1 g)) (F0 m 55 ls []) := by
  unfold b_X11_latest_55 at hw
  refine lv_aload_n C.1 C.2.1 dX11_latest_55 rfl (lv_at hl 0 rfl) ?_
  refine gX11_61 C hP Nat.zero_lt_one dX11_latest_56 ?_
  refine lv_iload_n C.1 C.2.1 dX11_latest_59 rfl (lv_at hl 1 rfl) ?_
  obtain ⟨h12, hw⟩ := hw
  refine al_56 C hP Nat.zero_lt_one h12 dX11_latest_60 ?_
  refine lv_iconst (v := 4) C.1 C.2.1 dX11_latest_61 (by decide) ?_
  refine lv_ishr C.1 C.2.1 dX11_latest_62 ?_
  refine lv_bipush (v := 63) C.1 C.2.1 dX11_latest_63 (by decide) ?_
  refine lv_iand C.1 C.2.1 dX11_latest_65 ?_
  exact retI (wf := (yw g)) C hP hS hw dX11_latest_66
def b_X11_latest_36 (Q : Int32 → Mem → Prop) : Nat → Int32 → Int32 → Mem → Prop
  | 0, _, _, _ => False
  | n + 1, v2, v3, M => ((v3 < 0 → (Q (-2) M)) ∧ (¬ v3 < 0 → (vp_in v3 64 ∧ ((¬ (((M.1 56 0 (v3 : Int32).toNatClampNeg) >>> (10 &&& 31)) &&& 3) = v2 → (∀ x11 : Int32, x11 = (v3 + (-1)) → (b_X11_latest_36 Q n v2 x11 M))) ∧ ((((M.1 56 0 (v3 : Int32).toNatClampNeg) >>> (10 &&& 31)) &&& 3) = v2 → (b_X11_latest_55 Q v3 M))))))
set_option maxRecDepth 100000 in
set_option maxHeartbeats 4000000 in
theorem k_X11_latest_36 {p : Program} {l : Launch} {e : Env} {s : State} {m : MethodId} {args : Array Value} {below : List Frame} {meth : Method} {c : Code} {g : Geo} (C : CX g p s m args meth c cX11_latest 4 (some .int) RX11) {Q : Int32 → Mem → Prop} : ∀ (n : Nat) (v2 : Int32) (v3 : Int32) (M : Mem) (hw : b_X11_latest_36 Q n v2 v3 M) {H : Heap} {locs : List Loc} {ls : Array Slot} (hl : lv_has ls 4 [(0, .ref (g.2.1 (138 + 0))), (2, .int v2), (3, .int v3)]) (hP : va_P g.1 clz (yw g M) H) (hS : va_S (Af 1 g) s.heap H locs), W p l e ({ frames := 4, cells := 0, slots := 0, locals := 93 } : Room) s m args below meth c H locs 0 0 (MQ below (va_Qi Q (PB g (yw g)) (Af 1 g)) args s 0 0 (Af 1 g)) (F0 m 36 ls []) := by
  intro n
  induction n with
  | zero => intro v2 v3 M hw H locs ls hl hP hS; exact absurd hw (by rw [b_X11_latest_36]; exact fun h => h)
  | succ n ih =>
    intro v2 v3 M hw H locs ls hl hP hS
    rw [b_X11_latest_36] at hw
    refine lv_iload_n C.1 C.2.1 dX11_latest_36 rfl (lv_at hl 2 rfl) ?_
    refine lv_if_lt (tgt := 73) C.1 C.2.1 dX11_latest_37 (by decide) (fun h8 => ?_) (fun h8 => ?_)
    · have hw := hw.1 h8
      refine lv_bipush (v := (-2)) C.1 C.2.1 dX11_latest_73 (by decide) ?_
      exact retI (wf := (yw g)) C hP hS hw dX11_latest_75
    · have hw := hw.2 h8
      refine lv_aload_n C.1 C.2.1 dX11_latest_40 rfl (lv_at hl 0 rfl) ?_
      refine gX11_61 C hP Nat.zero_lt_one dX11_latest_41 ?_
      refine lv_iload_n C.1 C.2.1 dX11_latest_44 rfl (lv_at hl 2 rfl) ?_
      obtain ⟨h9, hw⟩ := hw
      refine al_56 C hP Nat.zero_lt_one h9 dX11_latest_45 ?_
      refine lv_bipush (v := 10) C.1 C.2.1 dX11_latest_46 (by decide) ?_
      refine lv_ishr C.1 C.2.1 dX11_latest_48 ?_
      refine lv_iconst (v := 3) C.1 C.2.1 dX11_latest_49 (by decide) ?_
      refine lv_iand C.1 C.2.1 dX11_latest_50 ?_
      refine lv_iload_n C.1 C.2.1 dX11_latest_51 rfl (lv_at hl 1 rfl) ?_
      refine lv_icmp_ne (tgt := 67) C.1 C.2.1 dX11_latest_52 (by decide) (fun h10 => ?_) (fun h10 => ?_)
      · have hw := hw.1 h10
        obtain ⟨x11, e11⟩ : ∃ y : Int32, y = (v3 + (-1)) := ⟨_, rfl⟩
        have hw := hw x11 e11
        refine lv_iinc (v := x11) (lv' := [(3, .int x11), (0, .ref (g.2.1 (138 + 0))), (2, .int v2)]) C.1 C.2.1 dX11_latest_67 hl (k := 2) rfl (by rw [e11]; rfl) (by decide) rfl (fun ls hl => ?_)
        refine lv_goto (tgt := 36) C.1 C.2.1 dX11_latest_70 (by decide) ?_
        exact ih v2 x11  _ hw (lv_sub hl [1, 2, 0] rfl) hP hS
      · have hw := hw.2 h10
        exact k_X11_latest_55 (Q := Q) C v3  _ hw (lv_sub hl [0, 2] rfl) hP hS
def p_X11_latest (a1 : Int32) (a2 : Int32) (M : Mem) (Q : Int32 → Mem → Prop) : Prop := (∀ M1 : Mem, M1 = sI M 40 0 2 0 → (p_X11_isChannel a1 M1 (fun r2 M2 => ((r2 = 0 → (Q (-1) M2)) ∧ (¬ r2 = 0 → (p_X11_isIn a2 0 3 M2 (fun r4 M4 => ((¬ r4 = 0 → (p_X11_layFrames a1 M4 (fun M6 => (∀ x7 : Int32, x7 = ((M6.1 40 0 41) - 1) → (∃ n36 : Nat, b_X11_latest_36 Q n36 a2 x7 M6))))) ∧ (r4 = 0 → (Q (-1) M4))))))))))
set_option maxRecDepth 100000 in
set_option maxHeartbeats 4000000 in
theorem c_X11_latest (l : Launch) (g : Geo) (gi : GI g) (a1 : Int32) (a2 : Int32) (M : Mem) (Q : Int32 → Mem → Prop) (hw : p_X11_latest a1 a2 M Q) : Met l yX11_latest (Cond.code yX11_latest cX11_latest 4 (some .int) :: bg) ({ frames := 4, cells := 0, slots := 0, locals := 93 } : Room) (va_Pc [.ref (g.2.1 (138 + 0)), .int a1, .int a2] (PW g (yw g M))) (va_Qi Q (PB g (yw g)) (Af 1 g)) 0 0 (Af 1 g) := by
  refine Met.ofW (cc := cX11_latest) (maxL := 4) (ret := (some .int)) (by decide +kernel) rfl ?_
  intro p e s m args below meth c s₁ B hml hv
  obtain ⟨rfl, hv⟩ := hv
  have C := CX.start (own := RX11) B hml rfl gi hv
  have hP := hv.1
  have hS : va_S (Af 1 g) s.heap s.heap [] := va_S.rf
  have hl := lv_entry ([.ref (g.2.1 (138 + 0)), .int a1, .int a2]) (n := 4) (Nat.le_of_ble_eq_true rfl)
  rw [lg_entry_eq]
  generalize (lg_sl ([.ref (g.2.1 (138 + 0)), .int a1, .int a2]) ++ List.replicate (4 - (lg_sl ([.ref (g.2.1 (138 + 0)), .int a1, .int a2])).length) Slot.unset).toArray = ls at hl ⊢
  have hl : lv_has ls 4 [(0, .ref (g.2.1 (138 + 0))), (1, .int a1), (2, .int a2)] := hl
  unfold p_X11_latest at hw
  refine lv_aload_n C.1 C.2.1 dX11_latest_0 rfl (lv_at hl 0 rfl) ?_
  refine lv_iconst (v := 0) C.1 C.2.1 dX11_latest_1 (by decide) ?_
  refine pX11_76 C hP hS Nat.zero_lt_one dX11_latest_2 (fun M1 e1 H locs hP hS => ?_)
  have hw := hw M1 e1
  refine lv_aload_n C.1 C.2.1 dX11_latest_5 rfl (lv_at hl 0 rfl) ?_
  refine lv_iload_n C.1 C.2.1 dX11_latest_6 rfl (lv_at hl 1 rfl) ?_
  refine goI (wf := (yw g)) (runV (w := yw g M1) (As := [.int a1]) (rest := []) C lkX11_365 (c_X11_isChannel l g C.2.2.2.2.2.2.2.2.2.2 a1  M1 _ hw) hP hS rfl rfl ⟨Nat.le_of_ble_eq_true rfl, Nat.le_of_ble_eq_true rfl⟩ (xx_40 Nat.zero_lt_one) rfl rfl hl.1 rfl (Nat.le_of_ble_eq_true rfl) dX11_latest_7) hS (fun r2 M2 hw H locs hP hS => ?_)
  obtain ⟨hw, hz2⟩ := hw
  refine lv_if_eq (tgt := 22) C.1 C.2.1 dX11_latest_10 (by decide) (fun h3 => ?_) (fun h3 => ?_)
  · have hw := hw.1 h3
    refine lv_iconst (v := (-1)) C.1 C.2.1 dX11_latest_22 (by decide) ?_
    exact retI (wf := (yw g)) C hP hS hw dX11_latest_23
  · have hw := hw.2 h3
    refine lv_iload_n C.1 C.2.1 dX11_latest_13 rfl (lv_at hl 2 rfl) ?_
    refine lv_iconst (v := 0) C.1 C.2.1 dX11_latest_14 (by decide) ?_
    refine lv_iconst (v := 3) C.1 C.2.1 dX11_latest_15 (by decide) ?_
    refine goI (wf := (yw g)) (runS (w := yw g M2) (As := [.int a2, .int 0, .int 3]) (rest := []) C lkX11_166 (c_X11_isIn l g C.2.2.2.2.2.2.2.2.2.2 a2 0 3  M2 _ hw) hP hS rfl rfl ⟨Nat.le_of_ble_eq_true rfl, Nat.le_of_ble_eq_true rfl⟩ hl.1 rfl (Nat.le_of_ble_eq_true rfl) dX11_latest_16) hS (fun r4 M4 hw H locs hP hS => ?_)
    obtain ⟨hw, hz4⟩ := hw
    refine lv_if_ne (tgt := 24) C.1 C.2.1 dX11_latest_19 (by decide) (fun h5 => ?_) (fun h5 => ?_)
    · have hw := hw.1 h5
      refine lv_aload_n C.1 C.2.1 dX11_latest_24 rfl (lv_at hl 0 rfl) ?_
      refine lv_iload_n C.1 C.2.1 dX11_latest_25 rfl (lv_at hl 1 rfl) ?_
      refine goV (wf := (yw g)) (runV (w := yw g M4) (As := [.int a1]) (rest := []) C lkX11_378 (c_X11_layFrames l g C.2.2.2.2.2.2.2.2.2.2 a1  M4 _ hw) hP hS rfl rfl ⟨Nat.le_of_ble_eq_true rfl, Nat.le_of_ble_eq_true rfl⟩ (xx_40 Nat.zero_lt_one) rfl rfl hl.1 rfl (Nat.le_of_ble_eq_true rfl) dX11_latest_26) hS (fun M6 hw H locs hP hS => ?_)
      refine lv_aload_n C.1 C.2.1 dX11_latest_29 rfl (lv_at hl 0 rfl) ?_
      refine gX11_368 C hP Nat.zero_lt_one dX11_latest_30 ?_
      refine lv_iconst (v := 1) C.1 C.2.1 dX11_latest_33 (by decide) ?_
      refine lv_isub C.1 C.2.1 dX11_latest_34 ?_
      refine lv_topi (fun x7 e7 => ?_)
      have hw := hw x7 e7
      refine lv_istore_n (lv' := [(3, .int x7), (0, .ref (g.2.1 (138 + 0))), (1, .int a1), (2, .int a2)]) C.1 C.2.1 dX11_latest_35 rfl hl (by decide) rfl (fun ls hl => ?_)
      obtain ⟨n9, hw⟩ := hw
      exact k_X11_latest_36 (Q := Q) C n9 a2 x7  _ hw (lv_sub hl [1, 3, 0] rfl) hP hS
    · have hw := hw.2 h5
      refine lv_iconst (v := (-1)) C.1 C.2.1 dX11_latest_22 (by decide) ?_
      exact retI (wf := (yw g)) C hP hS hw dX11_latest_23
def b_X11_off_58 (Q : Int32 → Mem → Prop) (v1 : Int32) (v2 : Int32) (s0 : Int32) (M : Mem) : Prop := (p_X11_at v1 1 M (fun r10 M10 => (p_X11_startIn v2 s0 M10 (fun r11 M11 => (p_X11_apart ((r10 / 4)) ((r11 - r11 / 62 * 62)) 62 M11 (fun r12 M12 => (Q r12 M12)))))))
set_option maxRecDepth 100000 in
set_option maxHeartbeats 4000000 in
theorem k_X11_off_58 {p : Program} {l : Launch} {e : Env} {s : State} {m : MethodId} {args : Array Value} {below : List Frame} {meth : Method} {c : Code} {g : Geo} (C : CX g p s m args meth c cX11_off 4 (some .int) RX11) {Q : Int32 → Mem → Prop} (v1 : Int32) (v2 : Int32) (s0 : Int32) (M : Mem) (hw : b_X11_off_58 Q v1 v2 s0 M) {H : Heap} {locs : List Loc} {ls : Array Slot} (hl : lv_has ls 4 [(0, .ref (g.2.1 (138 + 0))), (1, .int v1), (2, .int v2)]) (hP : va_P g.1 clz (yw g M) H) (hS : va_S (Af 1 g) s.heap H locs) : W p l e ({ frames := 2, cells := 0, slots := 0, locals := 44 } : Room) s m args below meth c H locs 0 0 (MQ below (va_Qi Q (PB g (yw g)) (Af 1 g)) args s 0 0 (Af 1 g)) (F0 m 58 ls [.int s0]) := by
  unfold b_X11_off_58 at hw
  refine lv_istore_n (lv' := [(3, .int s0), (0, .ref (g.2.1 (138 + 0))), (1, .int v1), (2, .int v2)]) C.1 C.2.1 dX11_off_58 rfl hl (by decide) rfl (fun ls hl => ?_)
  refine lv_aload_n C.1 C.2.1 dX11_off_59 rfl (lv_at hl 1 rfl) ?_
  refine lv_iload_n C.1 C.2.1 dX11_off_60 rfl (lv_at hl 2 rfl) ?_
  refine lv_iconst (v := 1) C.1 C.2.1 dX11_off_61 (by decide) ?_
  refine goI (wf := (yw g)) (runV (w := yw g M) (As := [.int v1, .int 1]) (rest := []) C lkX11_352 (c_X11_at l g C.2.2.2.2.2.2.2.2.2.2 v1 1  M _ hw) hP hS rfl rfl ⟨Nat.le_of_ble_eq_true rfl, Nat.le_of_ble_eq_true rfl⟩ (xx_40 Nat.zero_lt_one) rfl rfl hl.1 rfl (Nat.le_of_ble_eq_true rfl) dX11_off_62) hS (fun r10 M10 hw H locs hP hS => ?_)
  refine lv_iconst (v := 4) C.1 C.2.1 dX11_off_65 (by decide) ?_
  refine lv_idiv C.1 C.2.1 dX11_off_66 (by decide) ?_
  refine lv_aload_n C.1 C.2.1 dX11_off_67 rfl (lv_at hl 1 rfl) ?_
  refine lv_iload_n C.1 C.2.1 dX11_off_68 rfl (lv_at hl 3 rfl) ?_
  refine lv_iload_n C.1 C.2.1 dX11_off_69 rfl (lv_at hl 0 rfl) ?_
  refine goI (wf := (yw g)) (runV (w := yw g M10) (As := [.int v2, .int s0]) (rest := [.int (r10 / 4)]) C lkX11_277 (c_X11_startIn l g C.2.2.2.2.2.2.2.2.2.2 v2 s0  M10 _ hw) hP hS rfl rfl ⟨Nat.le_of_ble_eq_true rfl, Nat.le_of_ble_eq_true rfl⟩ (xx_40 Nat.zero_lt_one) rfl rfl hl.1 rfl (Nat.le_of_ble_eq_true rfl) dX11_off_70) hS (fun r11 M11 hw H locs hP hS => ?_)
  refine lv_bipush (v := 62) C.1 C.2.1 dX11_off_73 (by decide) ?_
  refine lv_irem C.1 C.2.1 dX11_off_75 (by decide) ?_
  refine lv_bipush (v := 62) C.1 C.2.1 dX11_off_76 (by decide) ?_
  refine goI (wf := (yw g)) (runS (w := yw g M11) (As := [.int (r10 / 4), .int (r11 - r11 / 62 * 62), .int 62]) (rest := []) C lkX11_318 (c_X11_apart l g C.2.2.2.2.2.2.2.2.2.2 ((r10 / 4)) ((r11 - r11 / 62 * 62)) 62  M11 _ hw) hP hS rfl rfl ⟨Nat.le_of_ble_eq_true rfl, Nat.le_of_ble_eq_true rfl⟩ hl.1 rfl (Nat.le_of_ble_eq_true rfl) dX11_off_78) hS (fun r12 M12 hw H locs hP hS => ?_)
  exact retI (wf := (yw g)) C hP hS hw dX11_off_81
def p_X11_off (a1 : Int32) (M : Mem) (Q : Int32 → Mem → Prop) : Prop := (∀ M1 : Mem, M1 = sI M 40 0 2 0 → (p_X11_isChannel a1 M1 (fun r2 M2 => ((¬ r2 = 0 → (p_X11_at a1 0 M2 (fun r4 M4 => (p_X11_birdOf r4 2 M4 (fun r5 M5 => ((¬ r5 = 0 → (p_X11_at a1 5 M5 (fun r7 M7 => ((¬ r7 = 200 → (p_X11_at a1 5 M7 (fun r9 M9 => (b_X11_off_58 Q a1 r4 r9 M9)))) ∧ (r7 = 200 → (b_X11_off_58 Q a1 r4 199 M7)))))) ∧ (r5 = 0 → (Q (-2) M5)))))))) ∧ (r2 = 0 → (Q (-1) M2))))))
set_option maxRecDepth 100000 in
set_option maxHeartbeats 4000000 in
theorem c_X11_off (l : Launch) (g : Geo) (gi : GI g) (a1 : Int32) (M : Mem) (Q : Int32 → Mem → Prop) (hw : p_X11_off a1 M Q) : Met l yX11_off (Cond.code yX11_off cX11_off 4 (some .int) :: bg) ({ frames := 2, cells := 0, slots := 0, locals := 44 } : Room) (va_Pc [.ref (g.2.1 (138 + 0)), .int a1] (PW g (yw g M))) (va_Qi Q (PB g (yw g)) (Af 1 g)) 0 0 (Af 1 g) := by
  refine Met.ofW (cc := cX11_off) (maxL := 4) (ret := (some .int)) (by decide +kernel) rfl ?_
  intro p e s m args below meth c s₁ B hml hv
  obtain ⟨rfl, hv⟩ := hv
  have C := CX.start (own := RX11) B hml rfl gi hv
  have hP := hv.1
  have hS : va_S (Af 1 g) s.heap s.heap [] := va_S.rf
  have hl := lv_entry ([.ref (g.2.1 (138 + 0)), .int a1]) (n := 4) (Nat.le_of_ble_eq_true rfl)
  rw [lg_entry_eq]
  generalize (lg_sl ([.ref (g.2.1 (138 + 0)), .int a1]) ++ List.replicate (4 - (lg_sl ([.ref (g.2.1 (138 + 0)), .int a1])).length) Slot.unset).toArray = ls at hl ⊢
  have hl : lv_has ls 4 [(0, .ref (g.2.1 (138 + 0))), (1, .int a1)] := hl
  unfold p_X11_off at hw
  refine lv_aload_n C.1 C.2.1 dX11_off_0 rfl (lv_at hl 0 rfl) ?_
  refine lv_iconst (v := 0) C.1 C.2.1 dX11_off_1 (by decide) ?_
  refine pX11_76 C hP hS Nat.zero_lt_one dX11_off_2 (fun M1 e1 H locs hP hS => ?_)
  have hw := hw M1 e1
  refine lv_aload_n C.1 C.2.1 dX11_off_5 rfl (lv_at hl 0 rfl) ?_
  refine lv_iload_n C.1 C.2.1 dX11_off_6 rfl (lv_at hl 1 rfl) ?_
  refine goI (wf := (yw g)) (runV (w := yw g M1) (As := [.int a1]) (rest := []) C lkX11_365 (c_X11_isChannel l g C.2.2.2.2.2.2.2.2.2.2 a1  M1 _ hw) hP hS rfl rfl ⟨Nat.le_of_ble_eq_true rfl, Nat.le_of_ble_eq_true rfl⟩ (xx_40 Nat.zero_lt_one) rfl rfl hl.1 rfl (Nat.le_of_ble_eq_true rfl) dX11_off_7) hS (fun r2 M2 hw H locs hP hS => ?_)
  obtain ⟨hw, hz2⟩ := hw
  refine lv_if_ne (tgt := 15) C.1 C.2.1 dX11_off_10 (by decide) (fun h3 => ?_) (fun h3 => ?_)
  · have hw := hw.1 h3
    refine lv_aload_n C.1 C.2.1 dX11_off_15 rfl (lv_at hl 0 rfl) ?_
    refine lv_iload_n C.1 C.2.1 dX11_off_16 rfl (lv_at hl 1 rfl) ?_
    refine lv_iconst (v := 0) C.1 C.2.1 dX11_off_17 (by decide) ?_
    refine goI (wf := (yw g)) (runV (w := yw g M2) (As := [.int a1, .int 0]) (rest := []) C lkX11_352 (c_X11_at l g C.2.2.2.2.2.2.2.2.2.2 a1 0  M2 _ hw) hP hS rfl rfl ⟨Nat.le_of_ble_eq_true rfl, Nat.le_of_ble_eq_true rfl⟩ (xx_40 Nat.zero_lt_one) rfl rfl hl.1 rfl (Nat.le_of_ble_eq_true rfl) dX11_off_18) hS (fun r4 M4 hw H locs hP hS => ?_)
    refine lv_istore_n (lv' := [(2, .int r4), (0, .ref (g.2.1 (138 + 0))), (1, .int a1)]) C.1 C.2.1 dX11_off_21 rfl hl (by decide) rfl (fun ls hl => ?_)
    refine lv_aload_n C.1 C.2.1 dX11_off_22 rfl (lv_at hl 1 rfl) ?_
    refine lv_iload_n C.1 C.2.1 dX11_off_23 rfl (lv_at hl 0 rfl) ?_
    refine lv_iconst (v := 2) C.1 C.2.1 dX11_off_24 (by decide) ?_
    refine goI (wf := (yw g)) (runV (w := yw g M4) (As := [.int r4, .int 2]) (rest := []) C lkX11_160 (c_X11_birdOf l g C.2.2.2.2.2.2.2.2.2.2 r4 2  M4 _ hw) hP hS rfl rfl ⟨Nat.le_of_ble_eq_true rfl, Nat.le_of_ble_eq_true rfl⟩ (xx_40 Nat.zero_lt_one) rfl rfl hl.1 rfl (Nat.le_of_ble_eq_true rfl) dX11_off_25) hS (fun r5 M5 hw H locs hP hS => ?_)
    refine lv_if_ne (tgt := 34) C.1 C.2.1 dX11_off_28 (by decide) (fun h6 => ?_) (fun h6 => ?_)
    · have hw := hw.1 h6
      refine lv_aload_n C.1 C.2.1 dX11_off_34 rfl (lv_at hl 1 rfl) ?_
      refine lv_iload_n C.1 C.2.1 dX11_off_35 rfl (lv_at hl 2 rfl) ?_
      refine lv_iconst (v := 5) C.1 C.2.1 dX11_off_36 (by decide) ?_
      refine goI (wf := (yw g)) (runV (w := yw g M5) (As := [.int a1, .int 5]) (rest := []) C lkX11_352 (c_X11_at l g C.2.2.2.2.2.2.2.2.2.2 a1 5  M5 _ hw) hP hS rfl rfl ⟨Nat.le_of_ble_eq_true rfl, Nat.le_of_ble_eq_true rfl⟩ (xx_40 Nat.zero_lt_one) rfl rfl hl.1 rfl (Nat.le_of_ble_eq_true rfl) dX11_off_37) hS (fun r7 M7 hw H locs hP hS => ?_)
      refine lv_sipush (v := 200) C.1 C.2.1 dX11_off_40 (by decide) ?_
      refine lv_icmp_ne (tgt := 52) C.1 C.2.1 dX11_off_43 (by decide) (fun h8 => ?_) (fun h8 => ?_)
      · have hw := hw.1 h8
        refine lv_aload_n C.1 C.2.1 dX11_off_52 rfl (lv_at hl 1 rfl) ?_
        refine lv_iload_n C.1 C.2.1 dX11_off_53 rfl (lv_at hl 2 rfl) ?_
        refine lv_iconst (v := 5) C.1 C.2.1 dX11_off_54 (by decide) ?_
        refine goI (wf := (yw g)) (runV (w := yw g M7) (As := [.int a1, .int 5]) (rest := []) C lkX11_352 (c_X11_at l g C.2.2.2.2.2.2.2.2.2.2 a1 5  M7 _ hw) hP hS rfl rfl ⟨Nat.le_of_ble_eq_true rfl, Nat.le_of_ble_eq_true rfl⟩ (xx_40 Nat.zero_lt_one) rfl rfl hl.1 rfl (Nat.le_of_ble_eq_true rfl) dX11_off_55) hS (fun r9 M9 hw H locs hP hS => ?_)
        exact k_X11_off_58 (Q := Q) C a1 r4 r9  _ hw (lv_sub hl [1, 2, 0] rfl) hP hS
      · have hw := hw.2 h8
        refine lv_sipush (v := 199) C.1 C.2.1 dX11_off_46 (by decide) ?_
        refine lv_goto (tgt := 58) C.1 C.2.1 dX11_off_49 (by decide) ?_
        exact k_X11_off_58 (Q := Q) C a1 r4 199  _ hw (lv_sub hl [1, 2, 0] rfl) hP hS
    · have hw := hw.2 h6
      refine lv_bipush (v := (-2)) C.1 C.2.1 dX11_off_31 (by decide) ?_
      exact retI (wf := (yw g)) C hP hS hw dX11_off_33
  · have hw := hw.2 h3
    refine lv_iconst (v := (-1)) C.1 C.2.1 dX11_off_13 (by decide) ?_
    exact retI (wf := (yw g)) C hP hS hw dX11_off_14
def b_X11_rootOf_2 (Q : Int32 → Mem → Prop) : Nat → Int32 → Int32 → Mem → Prop
  | 0, _, _, _ => False
  | n + 1, v0, v1, M => ((v0 < ((v1 + 1) * (v1 + 1)) → (Q v1 M)) ∧ (¬ v0 < ((v1 + 1) * (v1 + 1)) → (∀ x2 : Int32, x2 = (v1 + 1) → (b_X11_rootOf_2 Q n v0 x2 M))))
set_option maxRecDepth 100000 in
set_option maxHeartbeats 4000000 in
theorem k_X11_rootOf_2 {p : Program} {l : Launch} {e : Env} {s : State} {m : MethodId} {args : Array Value} {below : List Frame} {meth : Method} {c : Code} {g : Geo} (C : CX g p s m args meth c cX11_rootOf 2 (some .int) RX11) {Q : Int32 → Mem → Prop} : ∀ (n : Nat) (v0 : Int32) (v1 : Int32) (M : Mem) (hw : b_X11_rootOf_2 Q n v0 v1 M) {H : Heap} {locs : List Loc} {ls : Array Slot} (hl : lv_has ls 2 [(0, .int v0), (1, .int v1)]) (hP : va_P g.1 clz (yw g M) H) (hS : va_S (Af 1 g) s.heap H locs), W p l e ({ frames := 0, cells := 0, slots := 0, locals := 0 } : Room) s m args below meth c H locs 0 0 (MQ below (va_Qi Q (PB g (yw g)) (Af 1 g)) args s 0 0 (Af 1 g)) (F0 m 2 ls []) := by
  intro n
  induction n with
  | zero => intro v0 v1 M hw H locs ls hl hP hS; exact absurd hw (by rw [b_X11_rootOf_2]; exact fun h => h)
  | succ n ih =>
    intro v0 v1 M hw H locs ls hl hP hS
    rw [b_X11_rootOf_2] at hw
    refine lv_iload_n C.1 C.2.1 dX11_rootOf_2 rfl (lv_at hl 1 rfl) ?_
    refine lv_iconst (v := 1) C.1 C.2.1 dX11_rootOf_3 (by decide) ?_
    refine lv_iadd C.1 C.2.1 dX11_rootOf_4 ?_
    refine lv_iload_n C.1 C.2.1 dX11_rootOf_5 rfl (lv_at hl 1 rfl) ?_
    refine lv_iconst (v := 1) C.1 C.2.1 dX11_rootOf_6 (by decide) ?_
    refine lv_iadd C.1 C.2.1 dX11_rootOf_7 ?_
    refine lv_imul C.1 C.2.1 dX11_rootOf_8 ?_
    refine lv_iload_n C.1 C.2.1 dX11_rootOf_9 rfl (lv_at hl 0 rfl) ?_
    refine lv_icmp_gt (tgt := 19) C.1 C.2.1 dX11_rootOf_10 (by decide) (fun h1 => ?_) (fun h1 => ?_)
    · have hw := hw.1 h1
      refine lv_iload_n C.1 C.2.1 dX11_rootOf_19 rfl (lv_at hl 1 rfl) ?_
      exact retI (wf := (yw g)) C hP hS hw dX11_rootOf_20
    · have hw := hw.2 h1
      obtain ⟨x2, e2⟩ : ∃ y : Int32, y = (v1 + 1) := ⟨_, rfl⟩
      have hw := hw x2 e2
      refine lv_iinc (v := x2) (lv' := [(1, .int x2), (0, .int v0)]) C.1 C.2.1 dX11_rootOf_13 hl (k := 1) rfl (by rw [e2]; rfl) (by decide) rfl (fun ls hl => ?_)
      refine lv_goto (tgt := 2) C.1 C.2.1 dX11_rootOf_16 (by decide) ?_
      exact ih v0 x2  _ hw (lv_sub hl [1, 0] rfl) hP hS
def p_X11_rootOf (a0 : Int32) (M : Mem) (Q : Int32 → Mem → Prop) : Prop := (∃ n2 : Nat, b_X11_rootOf_2 Q n2 a0 0 M)
set_option maxRecDepth 100000 in
set_option maxHeartbeats 4000000 in
theorem c_X11_rootOf (l : Launch) (g : Geo) (gi : GI g) (a0 : Int32) (M : Mem) (Q : Int32 → Mem → Prop) (hw : p_X11_rootOf a0 M Q) : Met l yX11_rootOf (Cond.code yX11_rootOf cX11_rootOf 2 (some .int) :: bg) ({ frames := 0, cells := 0, slots := 0, locals := 0 } : Room) (va_Pc [.int a0] (PW g (yw g M))) (va_Qi Q (PB g (yw g)) (Af 1 g)) 0 0 (Af 1 g) := by
  refine Met.ofW (cc := cX11_rootOf) (maxL := 2) (ret := (some .int)) (by decide +kernel) rfl ?_
  intro p e s m args below meth c s₁ B hml hv
  obtain ⟨rfl, hv⟩ := hv
  have C := CX.start (own := RX11) B hml rfl gi hv
  have hP := hv.1
  have hS : va_S (Af 1 g) s.heap s.heap [] := va_S.rf
  have hl := lv_entry ([.int a0]) (n := 2) (Nat.le_of_ble_eq_true rfl)
  rw [lg_entry_eq]
  generalize (lg_sl ([.int a0]) ++ List.replicate (2 - (lg_sl ([.int a0])).length) Slot.unset).toArray = ls at hl ⊢
  have hl : lv_has ls 2 [(0, .int a0)] := hl
  unfold p_X11_rootOf at hw
  refine lv_iconst (v := 0) C.1 C.2.1 dX11_rootOf_0 (by decide) ?_
  refine lv_istore_n (lv' := [(1, .int 0), (0, .int a0)]) C.1 C.2.1 dX11_rootOf_1 rfl hl (by decide) rfl (fun ls hl => ?_)
  obtain ⟨n9, hw⟩ := hw
  exact k_X11_rootOf_2 (Q := Q) C n9 a0 0  _ hw (lv_sub hl [1, 0] rfl) hP hS
def p_X11_far (a0 : Int32) (a1 : Int32) (a2 : Int32) (M : Mem) (Q : Int32 → Mem → Prop) : Prop := (p_X11_rootOf (((16 : Int32) * (((a0 * a0) + (a1 * a1)) + (a2 * a2)))) M (fun r1 M1 => (Q r1 M1)))
set_option maxRecDepth 100000 in
set_option maxHeartbeats 4000000 in
theorem c_X11_far (l : Launch) (g : Geo) (gi : GI g) (a0 : Int32) (a1 : Int32) (a2 : Int32) (M : Mem) (Q : Int32 → Mem → Prop) (hw : p_X11_far a0 a1 a2 M Q) : Met l yX11_far (Cond.code yX11_far cX11_far 3 (some .int) :: bg) ({ frames := 1, cells := 0, slots := 0, locals := 21 } : Room) (va_Pc [.int a0, .int a1, .int a2] (PW g (yw g M))) (va_Qi Q (PB g (yw g)) (Af 1 g)) 0 0 (Af 1 g) := by
  refine Met.ofW (cc := cX11_far) (maxL := 3) (ret := (some .int)) (by decide +kernel) rfl ?_
  intro p e s m args below meth c s₁ B hml hv
  obtain ⟨rfl, hv⟩ := hv
  have C := CX.start (own := RX11) B hml rfl gi hv
  have hP := hv.1
  have hS : va_S (Af 1 g) s.heap s.heap [] := va_S.rf
  have hl := lv_entry ([.int a0, .int a1, .int a2]) (n := 3) (Nat.le_of_ble_eq_true rfl)
  rw [lg_entry_eq]
  generalize (lg_sl ([.int a0, .int a1, .int a2]) ++ List.replicate (3 - (lg_sl ([.int a0, .int a1, .int a2])).length) Slot.unset).toArray = ls at hl ⊢
  have hl : lv_has ls 3 [(0, .int a0), (1, .int a1), (2, .int a2)] := hl
  unfold p_X11_far at hw
  refine lv_bipush (v := 16) C.1 C.2.1 dX11_far_0 (by decide) ?_
  refine lv_iload_n C.1 C.2.1 dX11_far_2 rfl (lv_at hl 0 rfl) ?_
  refine lv_iload_n C.1 C.2.1 dX11_far_3 rfl (lv_at hl 0 rfl) ?_
  refine lv_imul C.1 C.2.1 dX11_far_4 ?_
  refine lv_iload_n C.1 C.2.1 dX11_far_5 rfl (lv_at hl 1 rfl) ?_
  refine lv_iload_n C.1 C.2.1 dX11_far_6 rfl (lv_at hl 1 rfl) ?_
  refine lv_imul C.1 C.2.1 dX11_far_7 ?_
  refine lv_iadd C.1 C.2.1 dX11_far_8 ?_
  refine lv_iload_n C.1 C.2.1 dX11_far_9 rfl (lv_at hl 2 rfl) ?_
  refine lv_iload_n C.1 C.2.1 dX11_far_10 rfl (lv_at hl 2 rfl) ?_
  refine lv_imul C.1 C.2.1 dX11_far_11 ?_
  refine lv_iadd C.1 C.2.1 dX11_far_12 ?_
  refine lv_imul C.1 C.2.1 dX11_far_13 ?_
  refine goI (wf := (yw g)) (runS (w := yw g M) (As := [.int ((16 : Int32) * (((a0 * a0) + (a1 * a1)) + (a2 * a2)))]) (rest := []) C lkX11_381 (c_X11_rootOf l g C.2.2.2.2.2.2.2.2.2.2 (((16 : Int32) * (((a0 * a0) + (a1 * a1)) + (a2 * a2))))  M _ hw) hP hS rfl rfl ⟨Nat.le_of_ble_eq_true rfl, Nat.le_of_ble_eq_true rfl⟩ hl.1 rfl (Nat.le_of_ble_eq_true rfl) dX11_far_14) hS (fun r1 M1 hw H locs hP hS => ?_)
  exact retI (wf := (yw g)) C hP hS hw dX11_far_17
def p_X11_farFrom (a1 : Int32) (a2 : Int32) (a3 : Int32) (a4 : Int32) (M : Mem) (Q : Int32 → Mem → Prop) : Prop := (p_X11_birdOf a1 11 M (fun r1 M1 => (p_X11_birdOf a1 12 M1 (fun r2 M2 => (p_X11_birdOf a1 13 M2 (fun r3 M3 => (p_X11_far ((r1 - a2)) ((r2 - a3)) ((r3 - a4)) M3 (fun r4 M4 => (Q r4 M4)))))))))
set_option maxRecDepth 100000 in
set_option maxHeartbeats 4000000 in
theorem c_X11_farFrom (l : Launch) (g : Geo) (gi : GI g) (a1 : Int32) (a2 : Int32) (a3 : Int32) (a4 : Int32) (M : Mem) (Q : Int32 → Mem → Prop) (hw : p_X11_farFrom a1 a2 a3 a4 M Q) : Met l yX11_farFrom (Cond.code yX11_farFrom cX11_farFrom 5 (some .int) :: bg) ({ frames := 2, cells := 0, slots := 0, locals := 43 } : Room) (va_Pc [.ref (g.2.1 (138 + 0)), .int a1, .int a2, .int a3, .int a4] (PW g (yw g M))) (va_Qi Q (PB g (yw g)) (Af 1 g)) 0 0 (Af 1 g) := by
  refine Met.ofW (cc := cX11_farFrom) (maxL := 5) (ret := (some .int)) (by decide +kernel) rfl ?_
  intro p e s m args below meth c s₁ B hml hv
  obtain ⟨rfl, hv⟩ := hv
  have C := CX.start (own := RX11) B hml rfl gi hv
  have hP := hv.1
  have hS : va_S (Af 1 g) s.heap s.heap [] := va_S.rf
  have hl := lv_entry ([.ref (g.2.1 (138 + 0)), .int a1, .int a2, .int a3, .int a4]) (n := 5) (Nat.le_of_ble_eq_true rfl)
  rw [lg_entry_eq]
  generalize (lg_sl ([.ref (g.2.1 (138 + 0)), .int a1, .int a2, .int a3, .int a4]) ++ List.replicate (5 - (lg_sl ([.ref (g.2.1 (138 + 0)), .int a1, .int a2, .int a3, .int a4])).length) Slot.unset).toArray = ls at hl ⊢
  have hl : lv_has ls 5 [(0, .ref (g.2.1 (138 + 0))), (1, .int a1), (2, .int a2), (3, .int a3), (4, .int a4)] := hl
  unfold p_X11_farFrom at hw
  refine lv_aload_n C.1 C.2.1 dX11_farFrom_0 rfl (lv_at hl 0 rfl) ?_
  refine lv_iload_n C.1 C.2.1 dX11_farFrom_1 rfl (lv_at hl 1 rfl) ?_
  refine lv_bipush (v := 11) C.1 C.2.1 dX11_farFrom_2 (by decide) ?_
  refine goI (wf := (yw g)) (runV (w := yw g M) (As := [.int a1, .int 11]) (rest := []) C lkX11_160 (c_X11_birdOf l g C.2.2.2.2.2.2.2.2.2.2 a1 11  M _ hw) hP hS rfl rfl ⟨Nat.le_of_ble_eq_true rfl, Nat.le_of_ble_eq_true rfl⟩ (xx_40 Nat.zero_lt_one) rfl rfl hl.1 rfl (Nat.le_of_ble_eq_true rfl) dX11_farFrom_4) hS (fun r1 M1 hw H locs hP hS => ?_)
  refine lv_iload_n C.1 C.2.1 dX11_farFrom_7 rfl (lv_at hl 2 rfl) ?_
  refine lv_isub C.1 C.2.1 dX11_farFrom_8 ?_
  refine lv_aload_n C.1 C.2.1 dX11_farFrom_9 rfl (lv_at hl 0 rfl) ?_
  refine lv_iload_n C.1 C.2.1 dX11_farFrom_10 rfl (lv_at hl 1 rfl) ?_
  refine lv_bipush (v := 12) C.1 C.2.1 dX11_farFrom_11 (by decide) ?_
  refine goI (wf := (yw g)) (runV (w := yw g M1) (As := [.int a1, .int 12]) (rest := [.int (r1 - a2)]) C lkX11_160 (c_X11_birdOf l g C.2.2.2.2.2.2.2.2.2.2 a1 12  M1 _ hw) hP hS rfl rfl ⟨Nat.le_of_ble_eq_true rfl, Nat.le_of_ble_eq_true rfl⟩ (xx_40 Nat.zero_lt_one) rfl rfl hl.1 rfl (Nat.le_of_ble_eq_true rfl) dX11_farFrom_13) hS (fun r2 M2 hw H locs hP hS => ?_)
  refine lv_iload_n C.1 C.2.1 dX11_farFrom_16 rfl (lv_at hl 3 rfl) ?_
  refine lv_isub C.1 C.2.1 dX11_farFrom_17 ?_
  refine lv_aload_n C.1 C.2.1 dX11_farFrom_18 rfl (lv_at hl 0 rfl) ?_
  refine lv_iload_n C.1 C.2.1 dX11_farFrom_19 rfl (lv_at hl 1 rfl) ?_
  refine lv_bipush (v := 13) C.1 C.2.1 dX11_farFrom_20 (by decide) ?_
  refine goI (wf := (yw g)) (runV (w := yw g M2) (As := [.int a1, .int 13]) (rest := [.int (r2 - a3), .int (r1 - a2)]) C lkX11_160 (c_X11_birdOf l g C.2.2.2.2.2.2.2.2.2.2 a1 13  M2 _ hw) hP hS rfl rfl ⟨Nat.le_of_ble_eq_true rfl, Nat.le_of_ble_eq_true rfl⟩ (xx_40 Nat.zero_lt_one) rfl rfl hl.1 rfl (Nat.le_of_ble_eq_true rfl) dX11_farFrom_22) hS (fun r3 M3 hw H locs hP hS => ?_)
  refine lv_iload C.1 C.2.1 dX11_farFrom_25 (lv_at hl 4 rfl) ?_
  refine lv_isub C.1 C.2.1 dX11_farFrom_27 ?_
  refine goI (wf := (yw g)) (runS (w := yw g M3) (As := [.int (r1 - a2), .int (r2 - a3), .int (r3 - a4)]) (rest := []) C lkX11_384 (c_X11_far l g C.2.2.2.2.2.2.2.2.2.2 ((r1 - a2)) ((r2 - a3)) ((r3 - a4))  M3 _ hw) hP hS rfl rfl ⟨Nat.le_of_ble_eq_true rfl, Nat.le_of_ble_eq_true rfl⟩ hl.1 rfl (Nat.le_of_ble_eq_true rfl) dX11_farFrom_28) hS (fun r4 M4 hw H locs hP hS => ?_)
  exact retI (wf := (yw g)) C hP hS hw dX11_farFrom_31
def p_X11_range (a1 : Int32) (a2 : Int32) (M : Mem) (Q : Int32 → Mem → Prop) : Prop := (∀ M1 : Mem, M1 = sI M 40 0 2 0 → (p_X11_isBird a1 M1 (fun r2 M2 => ((r2 = 0 → (Q (-2) M2)) ∧ (¬ r2 = 0 → (p_X11_isIn a2 (-1) 400 M2 (fun r4 M4 => ((¬ r4 = 0 → (p_X11_canUndo  M4 (fun M6 => (p_X11_of (((293 : Int32) + a1)) M6 (fun r7 M7 => (p_X11_lay (((293 : Int32) + a1)) a2 M7 (fun M8 => (Q r7 M8)))))))) ∧ (r4 = 0 → (Q (-2) M4))))))))))
set_option maxRecDepth 100000 in
set_option maxHeartbeats 4000000 in
theorem c_X11_range (l : Launch) (g : Geo) (gi : GI g) (a1 : Int32) (a2 : Int32) (M : Mem) (Q : Int32 → Mem → Prop) (hw : p_X11_range a1 a2 M Q) : Met l yX11_range (Cond.code yX11_range cX11_range 4 (some .int) :: bg) ({ frames := 2, cells := 0, slots := 0, locals := 44 } : Room) (va_Pc [.ref (g.2.1 (138 + 0)), .int a1, .int a2] (PW g (yw g M))) (va_Qi Q (PB g (yw g)) (Af 1 g)) 0 0 (Af 1 g) := by
  refine Met.ofW (cc := cX11_range) (maxL := 4) (ret := (some .int)) (by decide +kernel) rfl ?_
  intro p e s m args below meth c s₁ B hml hv
  obtain ⟨rfl, hv⟩ := hv
  have C := CX.start (own := RX11) B hml rfl gi hv
  have hP := hv.1
  have hS : va_S (Af 1 g) s.heap s.heap [] := va_S.rf
  have hl := lv_entry ([.ref (g.2.1 (138 + 0)), .int a1, .int a2]) (n := 4) (Nat.le_of_ble_eq_true rfl)
  rw [lg_entry_eq]
  generalize (lg_sl ([.ref (g.2.1 (138 + 0)), .int a1, .int a2]) ++ List.replicate (4 - (lg_sl ([.ref (g.2.1 (138 + 0)), .int a1, .int a2])).length) Slot.unset).toArray = ls at hl ⊢
  have hl : lv_has ls 4 [(0, .ref (g.2.1 (138 + 0))), (1, .int a1), (2, .int a2)] := hl
  unfold p_X11_range at hw
  refine lv_aload_n C.1 C.2.1 dX11_range_0 rfl (lv_at hl 0 rfl) ?_
  refine lv_iconst (v := 0) C.1 C.2.1 dX11_range_1 (by decide) ?_
  refine pX11_76 C hP hS Nat.zero_lt_one dX11_range_2 (fun M1 e1 H locs hP hS => ?_)
  have hw := hw M1 e1
  refine lv_aload_n C.1 C.2.1 dX11_range_5 rfl (lv_at hl 0 rfl) ?_
  refine lv_iload_n C.1 C.2.1 dX11_range_6 rfl (lv_at hl 1 rfl) ?_
  refine goI (wf := (yw g)) (runV (w := yw g M1) (As := [.int a1]) (rest := []) C lkX11_216 (c_X11_isBird l g C.2.2.2.2.2.2.2.2.2.2 a1  M1 _ hw) hP hS rfl rfl ⟨Nat.le_of_ble_eq_true rfl, Nat.le_of_ble_eq_true rfl⟩ (xx_40 Nat.zero_lt_one) rfl rfl hl.1 rfl (Nat.le_of_ble_eq_true rfl) dX11_range_7) hS (fun r2 M2 hw H locs hP hS => ?_)
  obtain ⟨hw, hz2⟩ := hw
  refine lv_if_eq (tgt := 24) C.1 C.2.1 dX11_range_10 (by decide) (fun h3 => ?_) (fun h3 => ?_)
  · have hw := hw.1 h3
    refine lv_bipush (v := (-2)) C.1 C.2.1 dX11_range_24 (by decide) ?_
    exact retI (wf := (yw g)) C hP hS hw dX11_range_26
  · have hw := hw.2 h3
    refine lv_iload_n C.1 C.2.1 dX11_range_13 rfl (lv_at hl 2 rfl) ?_
    refine lv_iconst (v := (-1)) C.1 C.2.1 dX11_range_14 (by decide) ?_
    refine lv_sipush (v := 400) C.1 C.2.1 dX11_range_15 (by decide) ?_
    refine goI (wf := (yw g)) (runS (w := yw g M2) (As := [.int a2, .int (-1), .int 400]) (rest := []) C lkX11_166 (c_X11_isIn l g C.2.2.2.2.2.2.2.2.2.2 a2 (-1) 400  M2 _ hw) hP hS rfl rfl ⟨Nat.le_of_ble_eq_true rfl, Nat.le_of_ble_eq_true rfl⟩ hl.1 rfl (Nat.le_of_ble_eq_true rfl) dX11_range_18) hS (fun r4 M4 hw H locs hP hS => ?_)
    obtain ⟨hw, hz4⟩ := hw
    refine lv_if_ne (tgt := 27) C.1 C.2.1 dX11_range_21 (by decide) (fun h5 => ?_) (fun h5 => ?_)
    · have hw := hw.1 h5
      refine lv_aload_n C.1 C.2.1 dX11_range_27 rfl (lv_at hl 0 rfl) ?_
      refine goV (wf := (yw g)) (runV (w := yw g M4) (As := []) (rest := []) C lkX11_346 (c_X11_canUndo l g C.2.2.2.2.2.2.2.2.2.2   M4 _ hw) hP hS rfl rfl ⟨Nat.le_of_ble_eq_true rfl, Nat.le_of_ble_eq_true rfl⟩ (xx_40 Nat.zero_lt_one) rfl rfl hl.1 rfl (Nat.le_of_ble_eq_true rfl) dX11_range_28) hS (fun M6 hw H locs hP hS => ?_)
      refine lv_aload_n C.1 C.2.1 dX11_range_31 rfl (lv_at hl 0 rfl) ?_
      refine lv_sipush (v := 293) C.1 C.2.1 dX11_range_32 (by decide) ?_
      refine lv_iload_n C.1 C.2.1 dX11_range_35 rfl (lv_at hl 1 rfl) ?_
      refine lv_iadd C.1 C.2.1 dX11_range_36 ?_
      refine goI (wf := (yw g)) (runV (w := yw g M6) (As := [.int ((293 : Int32) + a1)]) (rest := []) C lkX11_340 (c_X11_of l g C.2.2.2.2.2.2.2.2.2.2 (((293 : Int32) + a1))  M6 _ hw) hP hS rfl rfl ⟨Nat.le_of_ble_eq_true rfl, Nat.le_of_ble_eq_true rfl⟩ (xx_40 Nat.zero_lt_one) rfl rfl hl.1 rfl (Nat.le_of_ble_eq_true rfl) dX11_range_37) hS (fun r7 M7 hw H locs hP hS => ?_)
      refine lv_istore_n (lv' := [(3, .int r7), (0, .ref (g.2.1 (138 + 0))), (1, .int a1), (2, .int a2)]) C.1 C.2.1 dX11_range_40 rfl hl (by decide) rfl (fun ls hl => ?_)
      refine lv_aload_n C.1 C.2.1 dX11_range_41 rfl (lv_at hl 1 rfl) ?_
      refine lv_sipush (v := 293) C.1 C.2.1 dX11_range_42 (by decide) ?_
      refine lv_iload_n C.1 C.2.1 dX11_range_45 rfl (lv_at hl 2 rfl) ?_
      refine lv_iadd C.1 C.2.1 dX11_range_46 ?_
      refine lv_iload_n C.1 C.2.1 dX11_range_47 rfl (lv_at hl 3 rfl) ?_
      refine goV (wf := (yw g)) (runV (w := yw g M7) (As := [.int ((293 : Int32) + a1), .int a2]) (rest := []) C lkX11_153 (c_X11_lay l g C.2.2.2.2.2.2.2.2.2.2 (((293 : Int32) + a1)) a2  M7 _ hw) hP hS rfl rfl ⟨Nat.le_of_ble_eq_true rfl, Nat.le_of_ble_eq_true rfl⟩ (xx_40 Nat.zero_lt_one) rfl rfl hl.1 rfl (Nat.le_of_ble_eq_true rfl) dX11_range_48) hS (fun M8 hw H locs hP hS => ?_)
      refine lv_iload_n C.1 C.2.1 dX11_range_51 rfl (lv_at hl 0 rfl) ?_
      exact retI (wf := (yw g)) C hP hS hw dX11_range_52
    · have hw := hw.2 h5
      refine lv_bipush (v := (-2)) C.1 C.2.1 dX11_range_24 (by decide) ?_
      exact retI (wf := (yw g)) C hP hS hw dX11_range_26
def b_X11_measure_151 (Q : Int32 → Mem → Prop) (k157 : Int32 → Int32 → Int32 → Mem → Prop) (v1 : Int32) (v2 : Int32) (v3 : Int32) (s1 : Int32) (s2 : Int32) (M : Mem) : Prop := (p_X11_lay s1 s2 M (fun M21 => (∀ x22 : Int32, x22 = (v2 + 1) → (k157 v1 x22 v3 M21))))
set_option maxRecDepth 100000 in
set_option maxHeartbeats 4000000 in
theorem k_X11_measure_151 {p : Program} {l : Launch} {e : Env} {s : State} {m : MethodId} {args : Array Value} {below : List Frame} {meth : Method} {c : Code} {g : Geo} (C : CX g p s m args meth c cX11_measure 5 (some .int) RX11) {Q : Int32 → Mem → Prop} {k157 : Int32 → Int32 → Int32 → Mem → Prop} (hk157 : ∀ (v1 : Int32) (v2 : Int32) (v3 : Int32) (M : Mem), k157 v1 v2 v3 M → ∀ (H : Heap) (locs : List Loc) (ls : Array Slot), lv_has ls 5 [(0, .ref (g.2.1 (138 + 0))), (1, .int v1), (2, .int v2), (3, .int v3)] → va_P g.1 clz (yw g M) H → va_S (Af 1 g) s.heap H locs → W p l e ({ frames := 3, cells := 0, slots := 0, locals := 67 } : Room) s m args below meth c H locs 0 0 (MQ below (va_Qi Q (PB g (yw g)) (Af 1 g)) args s 0 0 (Af 1 g)) (F0 m 157 ls [])) (v1 : Int32) (v2 : Int32) (v3 : Int32) (s1 : Int32) (s2 : Int32) (M : Mem) (hw : b_X11_measure_151 Q k157 v1 v2 v3 s1 s2 M) {H : Heap} {locs : List Loc} {ls : Array Slot} (hl : lv_has ls 5 [(0, .ref (g.2.1 (138 + 0))), (1, .int v1), (2, .int v2), (3, .int v3)]) (hP : va_P g.1 clz (yw g M) H) (hS : va_S (Af 1 g) s.heap H locs) : W p l e ({ frames := 3, cells := 0, slots := 0, locals := 67 } : Room) s m args below meth c H locs 0 0 (MQ below (va_Qi Q (PB g (yw g)) (Af 1 g)) args s 0 0 (Af 1 g)) (F0 m 151 ls [.int s2, .int s1, .ref (g.2.1 (138 + 0))]) := by
  unfold b_X11_measure_151 at hw
  refine goV (wf := (yw g)) (runV (w := yw g M) (As := [.int s1, .int s2]) (rest := []) C lkX11_153 (c_X11_lay l g C.2.2.2.2.2.2.2.2.2.2 s1 s2  M _ hw) hP hS rfl rfl ⟨Nat.le_of_ble_eq_true rfl, Nat.le_of_ble_eq_true rfl⟩ (xx_40 Nat.zero_lt_one) rfl rfl hl.1 rfl (Nat.le_of_ble_eq_true rfl) dX11_measure_151) hS (fun M21 hw H locs hP hS => ?_)
  obtain ⟨x22, e22⟩ : ∃ y : Int32, y = (v2 + 1) := ⟨_, rfl⟩
  have hw := hw x22 e22
  refine lv_iinc (v := x22) (lv' := [(2, .int x22), (0, .ref (g.2.1 (138 + 0))), (1, .int v1), (3, .int v3)]) C.1 C.2.1 dX11_measure_154 hl (k := 2) rfl (by rw [e22]; rfl) (by decide) rfl (fun ls hl => ?_)
  exact hk157 v1 x22 v3  _ hw _ _ _ (lv_sub hl [1, 2, 0, 3] rfl) hP hS
def b_X11_measure_157 (Q : Int32 → Mem → Prop) (k38 : Int32 → Int32 → Int32 → Mem → Prop) (v1 : Int32) (v2 : Int32) (v3 : Int32) (M : Mem) : Prop := (∀ x23 : Int32, x23 = (v3 + 1) → (k38 v1 v2 x23 M))
set_option maxRecDepth 100000 in
set_option maxHeartbeats 4000000 in
theorem k_X11_measure_157 {p : Program} {l : Launch} {e : Env} {s : State} {m : MethodId} {args : Array Value} {below : List Frame} {meth : Method} {c : Code} {g : Geo} (C : CX g p s m args meth c cX11_measure 5 (some .int) RX11) {Q : Int32 → Mem → Prop} {k38 : Int32 → Int32 → Int32 → Mem → Prop} (hk38 : ∀ (v1 : Int32) (v2 : Int32) (v3 : Int32) (M : Mem), k38 v1 v2 v3 M → ∀ (H : Heap) (locs : List Loc) (ls : Array Slot), lv_has ls 5 [(0, .ref (g.2.1 (138 + 0))), (1, .int v1), (2, .int v2), (3, .int v3)] → va_P g.1 clz (yw g M) H → va_S (Af 1 g) s.heap H locs → W p l e ({ frames := 3, cells := 0, slots := 0, locals := 67 } : Room) s m args below meth c H locs 0 0 (MQ below (va_Qi Q (PB g (yw g)) (Af 1 g)) args s 0 0 (Af 1 g)) (F0 m 38 ls [])) (v1 : Int32) (v2 : Int32) (v3 : Int32) (M : Mem) (hw : b_X11_measure_157 Q k38 v1 v2 v3 M) {H : Heap} {locs : List Loc} {ls : Array Slot} (hl : lv_has ls 5 [(0, .ref (g.2.1 (138 + 0))), (1, .int v1), (2, .int v2), (3, .int v3)]) (hP : va_P g.1 clz (yw g M) H) (hS : va_S (Af 1 g) s.heap H locs) : W p l e ({ frames := 3, cells := 0, slots := 0, locals := 67 } : Room) s m args below meth c H locs 0 0 (MQ below (va_Qi Q (PB g (yw g)) (Af 1 g)) args s 0 0 (Af 1 g)) (F0 m 157 ls []) := by
  unfold b_X11_measure_157 at hw
  obtain ⟨x23, e23⟩ : ∃ y : Int32, y = (v3 + 1) := ⟨_, rfl⟩
  have hw := hw x23 e23
  refine lv_iinc (v := x23) (lv' := [(3, .int x23), (0, .ref (g.2.1 (138 + 0))), (1, .int v1), (2, .int v2)]) C.1 C.2.1 dX11_measure_157 hl (k := 3) rfl (by rw [e23]; rfl) (by decide) rfl (fun ls hl => ?_)
  refine lv_goto (tgt := 38) C.1 C.2.1 dX11_measure_160 (by decide) ?_
  exact hk38 v1 v2 x23  _ hw _ _ _ (lv_sub hl [1, 2, 3, 0] rfl) hP hS
def b_X11_measure_38 (Q : Int32 → Mem → Prop) : Nat → Int32 → Int32 → Int32 → Mem → Prop
  | 0, _, _, _, _ => False
  | n + 1, v1, v2, v3, M => (((M.1 40 0 11) ≤ v3 → (Q v2 M)) ∧ (¬ (M.1 40 0 11) ≤ v3 → (p_X11_birdOf v3 10 M (fun r8 M8 => ((¬ r8 = 0 → (vp_in 13 34 ∧ (vp_in 14 34 ∧ (vp_in 15 34 ∧ (p_X11_farFrom v3 ((M8.1 45 0 (13 : Int32).toNatClampNeg)) ((M8.1 45 0 (14 : Int32).toNatClampNeg)) ((M8.1 45 0 (15 : Int32).toNatClampNeg)) M8 (fun r13 M13 => (vp_in 16 34 ∧ (vp_in 10 34 ∧ (p_X11_made (((((M13.1 45 0 (10 : Int32).toNatClampNeg) : Int32).toInt64 + (v3 : Int32).toInt64) + 1000)) M13 (fun r16 M16 => (p_X11_errorOf r16 v1 M16 (fun r17 M17 => (∀ x18 : Int32, x18 = ((r13 + ((4 : Int32) * (M13.1 45 0 (16 : Int32).toNatClampNeg))) + r17) → ((0 ≤ x18 → ((x18 ≤ 400 → (b_X11_measure_151 Q (fun v1 v2 v3 M => b_X11_measure_157 Q (fun v1 v2 v3 M => b_X11_measure_38 Q n v1 v2 v3 M) v1 v2 v3 M) v1 v2 v3 (((293 : Int32) + v3)) x18 M17)) ∧ (¬ x18 ≤ 400 → (b_X11_measure_151 Q (fun v1 v2 v3 M => b_X11_measure_157 Q (fun v1 v2 v3 M => b_X11_measure_38 Q n v1 v2 v3 M) v1 v2 v3 M) v1 v2 v3 (((293 : Int32) + v3)) 400 M17)))) ∧ (¬ 0 ≤ x18 → (b_X11_measure_151 Q (fun v1 v2 v3 M => b_X11_measure_157 Q (fun v1 v2 v3 M => b_X11_measure_38 Q n v1 v2 v3 M) v1 v2 v3 M) v1 v2 v3 (((293 : Int32) + v3)) 0 M17)))))))))))))))) ∧ (r8 = 0 → (b_X11_measure_157 Q (fun v1 v2 v3 M => b_X11_measure_38 Q n v1 v2 v3 M) v1 v2 v3 M8)))))))
set_option maxRecDepth 100000 in
set_option maxHeartbeats 4000000 in
theorem k_X11_measure_38 {p : Program} {l : Launch} {e : Env} {s : State} {m : MethodId} {args : Array Value} {below : List Frame} {meth : Method} {c : Code} {g : Geo} (C : CX g p s m args meth c cX11_measure 5 (some .int) RX11) {Q : Int32 → Mem → Prop} : ∀ (n : Nat) (v1 : Int32) (v2 : Int32) (v3 : Int32) (M : Mem) (hw : b_X11_measure_38 Q n v1 v2 v3 M) {H : Heap} {locs : List Loc} {ls : Array Slot} (hl : lv_has ls 5 [(0, .ref (g.2.1 (138 + 0))), (1, .int v1), (2, .int v2), (3, .int v3)]) (hP : va_P g.1 clz (yw g M) H) (hS : va_S (Af 1 g) s.heap H locs), W p l e ({ frames := 3, cells := 0, slots := 0, locals := 67 } : Room) s m args below meth c H locs 0 0 (MQ below (va_Qi Q (PB g (yw g)) (Af 1 g)) args s 0 0 (Af 1 g)) (F0 m 38 ls []) := by
  intro n
  induction n with
  | zero => intro v1 v2 v3 M hw H locs ls hl hP hS; exact absurd hw (by rw [b_X11_measure_38]; exact fun h => h)
  | succ n ih =>
    intro v1 v2 v3 M hw H locs ls hl hP hS
    rw [b_X11_measure_38] at hw
    refine lv_iload_n C.1 C.2.1 dX11_measure_38 rfl (lv_at hl 3 rfl) ?_
    refine lv_aload_n C.1 C.2.1 dX11_measure_39 rfl (lv_at hl 0 rfl) ?_
    refine gX11_121 C hP Nat.zero_lt_one dX11_measure_40 ?_
    refine lv_icmp_ge (tgt := 163) C.1 C.2.1 dX11_measure_43 (by decide) (fun h7 => ?_) (fun h7 => ?_)
    · have hw := hw.1 h7
      refine lv_iload_n C.1 C.2.1 dX11_measure_163 rfl (lv_at hl 2 rfl) ?_
      exact retI (wf := (yw g)) C hP hS hw dX11_measure_164
    · have hw := hw.2 h7
      refine lv_aload_n C.1 C.2.1 dX11_measure_46 rfl (lv_at hl 0 rfl) ?_
      refine lv_iload_n C.1 C.2.1 dX11_measure_47 rfl (lv_at hl 3 rfl) ?_
      refine lv_bipush (v := 10) C.1 C.2.1 dX11_measure_48 (by decide) ?_
      refine goI (wf := (yw g)) (runV (w := yw g M) (As := [.int v3, .int 10]) (rest := []) C lkX11_160 (c_X11_birdOf l g C.2.2.2.2.2.2.2.2.2.2 v3 10  M _ hw) hP hS rfl rfl ⟨Nat.le_of_ble_eq_true rfl, Nat.le_of_ble_eq_true rfl⟩ (xx_40 Nat.zero_lt_one) rfl rfl hl.1 rfl (Nat.le_of_ble_eq_true rfl) dX11_measure_50) hS (fun r8 M8 hw H locs hP hS => ?_)
      refine lv_if_ne (tgt := 59) C.1 C.2.1 dX11_measure_53 (by decide) (fun h9 => ?_) (fun h9 => ?_)
      · have hw := hw.1 h9
        refine lv_aload_n C.1 C.2.1 dX11_measure_59 rfl (lv_at hl 0 rfl) ?_
        refine lv_iload_n C.1 C.2.1 dX11_measure_60 rfl (lv_at hl 3 rfl) ?_
        refine lv_aload_n C.1 C.2.1 dX11_measure_61 rfl (lv_at hl 0 rfl) ?_
        refine gX11_26 C hP Nat.zero_lt_one dX11_measure_62 ?_
        refine lv_bipush (v := 13) C.1 C.2.1 dX11_measure_65 (by decide) ?_
        obtain ⟨h10, hw⟩ := hw
        refine al_45 C hP Nat.zero_lt_one h10 dX11_measure_67 ?_
        refine lv_aload_n C.1 C.2.1 dX11_measure_68 rfl (lv_at hl 0 rfl) ?_
        refine gX11_26 C hP Nat.zero_lt_one dX11_measure_69 ?_
        refine lv_bipush (v := 14) C.1 C.2.1 dX11_measure_72 (by decide) ?_
        obtain ⟨h11, hw⟩ := hw
        refine al_45 C hP Nat.zero_lt_one h11 dX11_measure_74 ?_
        refine lv_aload_n C.1 C.2.1 dX11_measure_75 rfl (lv_at hl 0 rfl) ?_
        refine gX11_26 C hP Nat.zero_lt_one dX11_measure_76 ?_
        refine lv_bipush (v := 15) C.1 C.2.1 dX11_measure_79 (by decide) ?_
        obtain ⟨h12, hw⟩ := hw
        refine al_45 C hP Nat.zero_lt_one h12 dX11_measure_81 ?_
        refine goI (wf := (yw g)) (runV (w := yw g M8) (As := [.int v3, .int (M8.1 45 0 (13 : Int32).toNatClampNeg), .int (M8.1 45 0 (14 : Int32).toNatClampNeg), .int (M8.1 45 0 (15 : Int32).toNatClampNeg)]) (rest := []) C lkX11_387 (c_X11_farFrom l g C.2.2.2.2.2.2.2.2.2.2 v3 ((M8.1 45 0 (13 : Int32).toNatClampNeg)) ((M8.1 45 0 (14 : Int32).toNatClampNeg)) ((M8.1 45 0 (15 : Int32).toNatClampNeg))  M8 _ hw) hP hS rfl rfl ⟨Nat.le_of_ble_eq_true rfl, Nat.le_of_ble_eq_true rfl⟩ (xx_40 Nat.zero_lt_one) rfl rfl hl.1 rfl (Nat.le_of_ble_eq_true rfl) dX11_measure_82) hS (fun r13 M13 hw H locs hP hS => ?_)
        refine lv_iconst (v := 4) C.1 C.2.1 dX11_measure_85 (by decide) ?_
        refine lv_aload_n C.1 C.2.1 dX11_measure_86 rfl (lv_at hl 0 rfl) ?_
        refine gX11_26 C hP Nat.zero_lt_one dX11_measure_87 ?_
        refine lv_bipush (v := 16) C.1 C.2.1 dX11_measure_90 (by decide) ?_
        obtain ⟨h14, hw⟩ := hw
        refine al_45 C hP Nat.zero_lt_one h14 dX11_measure_92 ?_
        refine lv_imul C.1 C.2.1 dX11_measure_93 ?_
        refine lv_iadd C.1 C.2.1 dX11_measure_94 ?_
        refine lv_aload_n C.1 C.2.1 dX11_measure_95 rfl (lv_at hl 0 rfl) ?_
        refine gX11_26 C hP Nat.zero_lt_one dX11_measure_96 ?_
        refine lv_bipush (v := 10) C.1 C.2.1 dX11_measure_99 (by decide) ?_
        obtain ⟨h15, hw⟩ := hw
        refine al_45 C hP Nat.zero_lt_one h15 dX11_measure_101 ?_
        refine lv_i2l C.1 C.2.1 dX11_measure_102 rfl ?_
        refine lv_iload_n C.1 C.2.1 dX11_measure_103 rfl (lv_at hl 3 rfl) ?_
        refine lv_i2l C.1 C.2.1 dX11_measure_104 rfl ?_
        refine lv_ladd C.1 C.2.1 dX11_measure_105 ?_
        refine lv_ldc2 (v := 1000) C.1 C.2.1 C.2.2.2.2.1 (C.2.2.2.2.2.1 _ (bg_of 1857 (by decide +kernel) rfl)) dX11_measure_106 ?_
        refine lv_ladd C.1 C.2.1 dX11_measure_109 ?_
        refine goL (wf := (yw g)) (runS (w := yw g M13) (As := [.long ((((M13.1 45 0 (10 : Int32).toNatClampNeg) : Int32).toInt64 + (v3 : Int32).toInt64) + 1000)]) (rest := [.int (r13 + ((4 : Int32) * (M13.1 45 0 (16 : Int32).toNatClampNeg)))]) C lkX11_263 (c_X11_made l g C.2.2.2.2.2.2.2.2.2.2 (((((M13.1 45 0 (10 : Int32).toNatClampNeg) : Int32).toInt64 + (v3 : Int32).toInt64) + 1000))  M13 _ hw) hP hS rfl rfl ⟨Nat.le_of_ble_eq_true rfl, Nat.le_of_ble_eq_true rfl⟩ hl.1 rfl (Nat.le_of_ble_eq_true rfl) dX11_measure_110) hS (fun r16 M16 hw H locs hP hS => ?_)
        refine lv_iload_n C.1 C.2.1 dX11_measure_113 rfl (lv_at hl 1 rfl) ?_
        refine goI (wf := (yw g)) (runS (w := yw g M16) (As := [.long r16, .int v1]) (rest := [.int (r13 + ((4 : Int32) * (M13.1 45 0 (16 : Int32).toNatClampNeg)))]) C lkX11_267 (c_X11_errorOf l g C.2.2.2.2.2.2.2.2.2.2 r16 v1  M16 _ hw) hP hS rfl rfl ⟨Nat.le_of_ble_eq_true rfl, Nat.le_of_ble_eq_true rfl⟩ hl.1 rfl (Nat.le_of_ble_eq_true rfl) dX11_measure_114) hS (fun r17 M17 hw H locs hP hS => ?_)
        refine lv_iadd C.1 C.2.1 dX11_measure_117 ?_
        refine lv_topi (fun x18 e18 => ?_)
        have hw := hw x18 e18
        refine lv_istore (lv' := [(4, .int x18), (0, .ref (g.2.1 (138 + 0))), (1, .int v1), (2, .int v2), (3, .int v3)]) C.1 C.2.1 dX11_measure_118 hl (by decide) rfl (fun ls hl => ?_)
        refine lv_aload_n C.1 C.2.1 dX11_measure_120 rfl (lv_at hl 1 rfl) ?_
        refine lv_sipush (v := 293) C.1 C.2.1 dX11_measure_121 (by decide) ?_
        refine lv_iload_n C.1 C.2.1 dX11_measure_124 rfl (lv_at hl 4 rfl) ?_
        refine lv_iadd C.1 C.2.1 dX11_measure_125 ?_
        refine lv_iload C.1 C.2.1 dX11_measure_126 (lv_at hl 0 rfl) ?_
        refine lv_if_ge (tgt := 135) C.1 C.2.1 dX11_measure_128 (by decide) (fun h19 => ?_) (fun h19 => ?_)
        · have hw := hw.1 h19
          refine lv_iload C.1 C.2.1 dX11_measure_135 (lv_at hl 0 rfl) ?_
          refine lv_sipush (v := 400) C.1 C.2.1 dX11_measure_137 (by decide) ?_
          refine lv_icmp_le (tgt := 149) C.1 C.2.1 dX11_measure_140 (by decide) (fun h20 => ?_) (fun h20 => ?_)
          · have hw := hw.1 h20
            refine lv_iload C.1 C.2.1 dX11_measure_149 (lv_at hl 0 rfl) ?_
            exact k_X11_measure_151 (Q := Q) C (fun v1 v2 v3  M hw H locs ls hl hP hS => k_X11_measure_157 (Q := Q) C (fun v1 v2 v3  M hw H locs ls hl hP hS => ih v1 v2 v3  M hw hl hP hS) v1 v2 v3  M hw hl hP hS) v1 v2 v3 (((293 : Int32) + v3)) x18  _ hw (lv_sub hl [1, 2, 3, 4] rfl) hP hS
          · have hw := hw.2 h20
            refine lv_sipush (v := 400) C.1 C.2.1 dX11_measure_143 (by decide) ?_
            refine lv_goto (tgt := 151) C.1 C.2.1 dX11_measure_146 (by decide) ?_
            exact k_X11_measure_151 (Q := Q) C (fun v1 v2 v3  M hw H locs ls hl hP hS => k_X11_measure_157 (Q := Q) C (fun v1 v2 v3  M hw H locs ls hl hP hS => ih v1 v2 v3  M hw hl hP hS) v1 v2 v3  M hw hl hP hS) v1 v2 v3 (((293 : Int32) + v3)) 400  _ hw (lv_sub hl [1, 2, 3, 4] rfl) hP hS
        · have hw := hw.2 h19
          refine lv_iconst (v := 0) C.1 C.2.1 dX11_measure_131 (by decide) ?_
          refine lv_goto (tgt := 151) C.1 C.2.1 dX11_measure_132 (by decide) ?_
          exact k_X11_measure_151 (Q := Q) C (fun v1 v2 v3  M hw H locs ls hl hP hS => k_X11_measure_157 (Q := Q) C (fun v1 v2 v3  M hw H locs ls hl hP hS => ih v1 v2 v3  M hw hl hP hS) v1 v2 v3  M hw hl hP hS) v1 v2 v3 (((293 : Int32) + v3)) 0  _ hw (lv_sub hl [1, 2, 3, 4] rfl) hP hS
      · have hw := hw.2 h9
        refine lv_goto (tgt := 157) C.1 C.2.1 dX11_measure_56 (by decide) ?_
        exact k_X11_measure_157 (Q := Q) C (fun v1 v2 v3  M hw H locs ls hl hP hS => ih v1 v2 v3  M hw hl hP hS) v1 v2 v3  _ hw (lv_sub hl [0, 1, 2, 3] rfl) hP hS
def p_X11_measure (a1 : Int32) (M : Mem) (Q : Int32 → Mem → Prop) : Prop := (∀ M1 : Mem, M1 = sI M 40 0 2 0 → (p_X11_isIn a1 0 20 M1 (fun r2 M2 => ((¬ r2 = 0 → (vp_in 12 34 ∧ ((¬ (M2.1 45 0 (12 : Int32).toNatClampNeg) = 0 → (p_X11_canUndo  M2 (fun M6 => (∃ n38 : Nat, b_X11_measure_38 Q n38 a1 0 0 M6)))) ∧ ((M2.1 45 0 (12 : Int32).toNatClampNeg) = 0 → (Q (-2) M2))))) ∧ (r2 = 0 → (Q (-1) M2))))))
set_option maxRecDepth 100000 in
set_option maxHeartbeats 4000000 in
theorem c_X11_measure (l : Launch) (g : Geo) (gi : GI g) (a1 : Int32) (M : Mem) (Q : Int32 → Mem → Prop) (hw : p_X11_measure a1 M Q) : Met l yX11_measure (Cond.code yX11_measure cX11_measure 5 (some .int) :: bg) ({ frames := 3, cells := 0, slots := 0, locals := 67 } : Room) (va_Pc [.ref (g.2.1 (138 + 0)), .int a1] (PW g (yw g M))) (va_Qi Q (PB g (yw g)) (Af 1 g)) 0 0 (Af 1 g) := by
  refine Met.ofW (cc := cX11_measure) (maxL := 5) (ret := (some .int)) (by decide +kernel) rfl ?_
  intro p e s m args below meth c s₁ B hml hv
  obtain ⟨rfl, hv⟩ := hv
  have C := CX.start (own := RX11) B hml rfl gi hv
  have hP := hv.1
  have hS : va_S (Af 1 g) s.heap s.heap [] := va_S.rf
  have hl := lv_entry ([.ref (g.2.1 (138 + 0)), .int a1]) (n := 5) (Nat.le_of_ble_eq_true rfl)
  rw [lg_entry_eq]
  generalize (lg_sl ([.ref (g.2.1 (138 + 0)), .int a1]) ++ List.replicate (5 - (lg_sl ([.ref (g.2.1 (138 + 0)), .int a1])).length) Slot.unset).toArray = ls at hl ⊢
  have hl : lv_has ls 5 [(0, .ref (g.2.1 (138 + 0))), (1, .int a1)] := hl
  unfold p_X11_measure at hw
  refine lv_aload_n C.1 C.2.1 dX11_measure_0 rfl (lv_at hl 0 rfl) ?_
  refine lv_iconst (v := 0) C.1 C.2.1 dX11_measure_1 (by decide) ?_
  refine pX11_76 C hP hS Nat.zero_lt_one dX11_measure_2 (fun M1 e1 H locs hP hS => ?_)
  have hw := hw M1 e1
  refine lv_iload_n C.1 C.2.1 dX11_measure_5 rfl (lv_at hl 1 rfl) ?_
  refine lv_iconst (v := 0) C.1 C.2.1 dX11_measure_6 (by decide) ?_
  refine lv_bipush (v := 20) C.1 C.2.1 dX11_measure_7 (by decide) ?_
  refine goI (wf := (yw g)) (runS (w := yw g M1) (As := [.int a1, .int 0, .int 20]) (rest := []) C lkX11_166 (c_X11_isIn l g C.2.2.2.2.2.2.2.2.2.2 a1 0 20  M1 _ hw) hP hS rfl rfl ⟨Nat.le_of_ble_eq_true rfl, Nat.le_of_ble_eq_true rfl⟩ hl.1 rfl (Nat.le_of_ble_eq_true rfl) dX11_measure_9) hS (fun r2 M2 hw H locs hP hS => ?_)
  obtain ⟨hw, hz2⟩ := hw
  refine lv_if_ne (tgt := 17) C.1 C.2.1 dX11_measure_12 (by decide) (fun h3 => ?_) (fun h3 => ?_)
  · have hw := hw.1 h3
    refine lv_aload_n C.1 C.2.1 dX11_measure_17 rfl (lv_at hl 0 rfl) ?_
    refine gX11_26 C hP Nat.zero_lt_one dX11_measure_18 ?_
    refine lv_bipush (v := 12) C.1 C.2.1 dX11_measure_21 (by decide) ?_
    obtain ⟨h4, hw⟩ := hw
    refine al_45 C hP Nat.zero_lt_one h4 dX11_measure_23 ?_
    refine lv_if_ne (tgt := 30) C.1 C.2.1 dX11_measure_24 (by decide) (fun h5 => ?_) (fun h5 => ?_)
    · have hw := hw.1 h5
      refine lv_aload_n C.1 C.2.1 dX11_measure_30 rfl (lv_at hl 0 rfl) ?_
      refine goV (wf := (yw g)) (runV (w := yw g M2) (As := []) (rest := []) C lkX11_346 (c_X11_canUndo l g C.2.2.2.2.2.2.2.2.2.2   M2 _ hw) hP hS rfl rfl ⟨Nat.le_of_ble_eq_true rfl, Nat.le_of_ble_eq_true rfl⟩ (xx_40 Nat.zero_lt_one) rfl rfl hl.1 rfl (Nat.le_of_ble_eq_true rfl) dX11_measure_31) hS (fun M6 hw H locs hP hS => ?_)
      refine lv_iconst (v := 0) C.1 C.2.1 dX11_measure_34 (by decide) ?_
      refine lv_istore_n (lv' := [(2, .int 0), (0, .ref (g.2.1 (138 + 0))), (1, .int a1)]) C.1 C.2.1 dX11_measure_35 rfl hl (by decide) rfl (fun ls hl => ?_)
      refine lv_iconst (v := 0) C.1 C.2.1 dX11_measure_36 (by decide) ?_
      refine lv_istore_n (lv' := [(3, .int 0), (2, .int 0), (0, .ref (g.2.1 (138 + 0))), (1, .int a1)]) C.1 C.2.1 dX11_measure_37 rfl hl (by decide) rfl (fun ls hl => ?_)
      obtain ⟨n9, hw⟩ := hw
      exact k_X11_measure_38 (Q := Q) C n9 a1 0 0  _ hw (lv_sub hl [2, 3, 1, 0] rfl) hP hS
    · have hw := hw.2 h5
      refine lv_bipush (v := (-2)) C.1 C.2.1 dX11_measure_27 (by decide) ?_
      exact retI (wf := (yw g)) C hP hS hw dX11_measure_29
  · have hw := hw.2 h3
    refine lv_iconst (v := (-1)) C.1 C.2.1 dX11_measure_15 (by decide) ?_
    exact retI (wf := (yw g)) C hP hS hw dX11_measure_16
def p_X11_isRanged (a1 : Int32) (M : Mem) (Q : Int32 → Mem → Prop) : Prop := (p_X11_birdOf a1 10 M (fun r1 M1 => ((¬ r1 = 1 → (Q 0 M1)) ∧ (r1 = 1 → (p_X11_of (((293 : Int32) + a1)) M1 (fun r3 M3 => ((r3 < 0 → (Q 0 M3)) ∧ (¬ r3 < 0 → (Q 1 M3)))))))))
set_option maxRecDepth 100000 in
set_option maxHeartbeats 4000000 in
theorem c_X11_isRanged (l : Launch) (g : Geo) (gi : GI g) (a1 : Int32) (M : Mem) (Q : Int32 → Mem → Prop) (hw : p_X11_isRanged a1 M Q) : Met l yX11_isRanged (Cond.code yX11_isRanged cX11_isRanged 2 (some .boolean) :: bg) ({ frames := 1, cells := 0, slots := 0, locals := 22 } : Room) (va_Pc [.ref (g.2.1 (138 + 0)), .int a1] (PW g (yw g M))) (va_Qi (fun r M => Q r M ∧ narrow .boolean (.int r) = .int r) (PB g (yw g)) (Af 1 g)) 0 0 (Af 1 g) := by
  refine Met.ofW (cc := cX11_isRanged) (maxL := 2) (ret := (some .boolean)) (by decide +kernel) rfl ?_
  intro p e s m args below meth c s₁ B hml hv
  obtain ⟨rfl, hv⟩ := hv
  have C := CX.start (own := RX11) B hml rfl gi hv
  have hP := hv.1
  have hS : va_S (Af 1 g) s.heap s.heap [] := va_S.rf
  have hl := lv_entry ([.ref (g.2.1 (138 + 0)), .int a1]) (n := 2) (Nat.le_of_ble_eq_true rfl)
  rw [lg_entry_eq]
  generalize (lg_sl ([.ref (g.2.1 (138 + 0)), .int a1]) ++ List.replicate (2 - (lg_sl ([.ref (g.2.1 (138 + 0)), .int a1])).length) Slot.unset).toArray = ls at hl ⊢
  have hl : lv_has ls 2 [(0, .ref (g.2.1 (138 + 0))), (1, .int a1)] := hl
  unfold p_X11_isRanged at hw
  refine lv_aload_n C.1 C.2.1 dX11_isRanged_0 rfl (lv_at hl 0 rfl) ?_
  refine lv_iload_n C.1 C.2.1 dX11_isRanged_1 rfl (lv_at hl 1 rfl) ?_
  refine lv_bipush (v := 10) C.1 C.2.1 dX11_isRanged_2 (by decide) ?_
  refine goI (wf := (yw g)) (runV (w := yw g M) (As := [.int a1, .int 10]) (rest := []) C lkX11_160 (c_X11_birdOf l g C.2.2.2.2.2.2.2.2.2.2 a1 10  M _ hw) hP hS rfl rfl ⟨Nat.le_of_ble_eq_true rfl, Nat.le_of_ble_eq_true rfl⟩ (xx_40 Nat.zero_lt_one) rfl rfl hl.1 rfl (Nat.le_of_ble_eq_true rfl) dX11_isRanged_4) hS (fun r1 M1 hw H locs hP hS => ?_)
  refine lv_iconst (v := 1) C.1 C.2.1 dX11_isRanged_7 (by decide) ?_
  refine lv_icmp_ne (tgt := 27) C.1 C.2.1 dX11_isRanged_8 (by decide) (fun h2 => ?_) (fun h2 => ?_)
  · have hw := hw.1 h2
    refine lv_iconst (v := 0) C.1 C.2.1 dX11_isRanged_27 (by decide) ?_
    exact retZ (wf := (yw g)) C hP hS rfl hw dX11_isRanged_28
  · have hw := hw.2 h2
    refine lv_aload_n C.1 C.2.1 dX11_isRanged_11 rfl (lv_at hl 0 rfl) ?_
    refine lv_sipush (v := 293) C.1 C.2.1 dX11_isRanged_12 (by decide) ?_
    refine lv_iload_n C.1 C.2.1 dX11_isRanged_15 rfl (lv_at hl 1 rfl) ?_
    refine lv_iadd C.1 C.2.1 dX11_isRanged_16 ?_
    refine goI (wf := (yw g)) (runV (w := yw g M1) (As := [.int ((293 : Int32) + a1)]) (rest := []) C lkX11_340 (c_X11_of l g C.2.2.2.2.2.2.2.2.2.2 (((293 : Int32) + a1))  M1 _ hw) hP hS rfl rfl ⟨Nat.le_of_ble_eq_true rfl, Nat.le_of_ble_eq_true rfl⟩ (xx_40 Nat.zero_lt_one) rfl rfl hl.1 rfl (Nat.le_of_ble_eq_true rfl) dX11_isRanged_17) hS (fun r3 M3 hw H locs hP hS => ?_)
    refine lv_if_lt (tgt := 27) C.1 C.2.1 dX11_isRanged_20 (by decide) (fun h4 => ?_) (fun h4 => ?_)
    · have hw := hw.1 h4
      refine lv_iconst (v := 0) C.1 C.2.1 dX11_isRanged_27 (by decide) ?_
      exact retZ (wf := (yw g)) C hP hS rfl hw dX11_isRanged_28
    · have hw := hw.2 h4
      refine lv_iconst (v := 1) C.1 C.2.1 dX11_isRanged_23 (by decide) ?_
      refine lv_goto (tgt := 28) C.1 C.2.1 dX11_isRanged_24 (by decide) ?_
      exact retZ (wf := (yw g)) C hP hS rfl hw dX11_isRanged_28
def b_X11_ranged_26 (Q : Int32 → Mem → Prop) (k4 : Int32 → Int32 → Mem → Prop) (v2 : Int32) (s0 : Int32) (s1 : Int32) (M : Mem) : Prop := (∀ x4 : Int32, x4 = (s0 + s1) → (∀ x5 : Int32, x5 = (v2 + 1) → (k4 x4 x5 M)))
set_option maxRecDepth 100000 in
set_option maxHeartbeats 4000000 in
theorem k_X11_ranged_26 {p : Program} {l : Launch} {e : Env} {s : State} {m : MethodId} {args : Array Value} {below : List Frame} {meth : Method} {c : Code} {g : Geo} (C : CX g p s m args meth c cX11_ranged 3 (some .int) RX11) {Q : Int32 → Mem → Prop} {k4 : Int32 → Int32 → Mem → Prop} (hk4 : ∀ (v1 : Int32) (v2 : Int32) (M : Mem), k4 v1 v2 M → ∀ (H : Heap) (locs : List Loc) (ls : Array Slot), lv_has ls 3 [(0, .ref (g.2.1 (138 + 0))), (1, .int v1), (2, .int v2)] → va_P g.1 clz (yw g M) H → va_S (Af 1 g) s.heap H locs → W p l e ({ frames := 2, cells := 0, slots := 0, locals := 43 } : Room) s m args below meth c H locs 0 0 (MQ below (va_Qi Q (PB g (yw g)) (Af 1 g)) args s 0 0 (Af 1 g)) (F0 m 4 ls [])) (v2 : Int32) (s0 : Int32) (s1 : Int32) (M : Mem) (hw : b_X11_ranged_26 Q k4 v2 s0 s1 M) {H : Heap} {locs : List Loc} {ls : Array Slot} (hl : lv_has ls 3 [(0, .ref (g.2.1 (138 + 0))), (2, .int v2)]) (hP : va_P g.1 clz (yw g M) H) (hS : va_S (Af 1 g) s.heap H locs) : W p l e ({ frames := 2, cells := 0, slots := 0, locals := 43 } : Room) s m args below meth c H locs 0 0 (MQ below (va_Qi Q (PB g (yw g)) (Af 1 g)) args s 0 0 (Af 1 g)) (F0 m 26 ls [.int s1, .int s0]) := by
  unfold b_X11_ranged_26 at hw
  refine lv_iadd C.1 C.2.1 dX11_ranged_26 ?_
  refine lv_topi (fun x4 e4 => ?_)
  have hw := hw x4 e4
  refine lv_istore_n (lv' := [(1, .int x4), (0, .ref (g.2.1 (138 + 0))), (2, .int v2)]) C.1 C.2.1 dX11_ranged_27 rfl hl (by decide) rfl (fun ls hl => ?_)
  obtain ⟨x5, e5⟩ : ∃ y : Int32, y = (v2 + 1) := ⟨_, rfl⟩
  have hw := hw x5 e5
  refine lv_iinc (v := x5) (lv' := [(2, .int x5), (1, .int x4), (0, .ref (g.2.1 (138 + 0)))]) C.1 C.2.1 dX11_ranged_28 hl (k := 2) rfl (by rw [e5]; rfl) (by decide) rfl (fun ls hl => ?_)
  refine lv_goto (tgt := 4) C.1 C.2.1 dX11_ranged_31 (by decide) ?_
  exact hk4 x4 x5  _ hw _ _ _ (lv_sub hl [2, 1, 0] rfl) hP hS
def b_X11_ranged_4 (Q : Int32 → Mem → Prop) : Nat → Int32 → Int32 → Mem → Prop
  | 0, _, _, _ => False
  | n + 1, v1, v2, M => (((M.1 40 0 11) ≤ v2 → (Q v1 M)) ∧ (¬ (M.1 40 0 11) ≤ v2 → (p_X11_isRanged v2 M (fun r2 M2 => ((r2 = 0 → (b_X11_ranged_26 Q (fun v1 v2 M => b_X11_ranged_4 Q n v1 v2 M) v2 v1 0 M2)) ∧ (¬ r2 = 0 → (b_X11_ranged_26 Q (fun v1 v2 M => b_X11_ranged_4 Q n v1 v2 M) v2 v1 1 M2)))))))
set_option maxRecDepth 100000 in
set_option maxHeartbeats 4000000 in
theorem k_X11_ranged_4 {p : Program} {l : Launch} {e : Env} {s : State} {m : MethodId} {args : Array Value} {below : List Frame} {meth : Method} {c : Code} {g : Geo} (C : CX g p s m args meth c cX11_ranged 3 (some .int) RX11) {Q : Int32 → Mem → Prop} : ∀ (n : Nat) (v1 : Int32) (v2 : Int32) (M : Mem) (hw : b_X11_ranged_4 Q n v1 v2 M) {H : Heap} {locs : List Loc} {ls : Array Slot} (hl : lv_has ls 3 [(0, .ref (g.2.1 (138 + 0))), (1, .int v1), (2, .int v2)]) (hP : va_P g.1 clz (yw g M) H) (hS : va_S (Af 1 g) s.heap H locs), W p l e ({ frames := 2, cells := 0, slots := 0, locals := 43 } : Room) s m args below meth c H locs 0 0 (MQ below (va_Qi Q (PB g (yw g)) (Af 1 g)) args s 0 0 (Af 1 g)) (F0 m 4 ls []) := by
  intro n
  induction n with
  | zero => intro v1 v2 M hw H locs ls hl hP hS; exact absurd hw (by rw [b_X11_ranged_4]; exact fun h => h)
  | succ n ih =>
    intro v1 v2 M hw H locs ls hl hP hS
    rw [b_X11_ranged_4] at hw
    refine lv_iload_n C.1 C.2.1 dX11_ranged_4 rfl (lv_at hl 2 rfl) ?_
    refine lv_aload_n C.1 C.2.1 dX11_ranged_5 rfl (lv_at hl 0 rfl) ?_
    refine gX11_121 C hP Nat.zero_lt_one dX11_ranged_6 ?_
    refine lv_icmp_ge (tgt := 34) C.1 C.2.1 dX11_ranged_9 (by decide) (fun h1 => ?_) (fun h1 => ?_)
    · have hw := hw.1 h1
      refine lv_iload_n C.1 C.2.1 dX11_ranged_34 rfl (lv_at hl 1 rfl) ?_
      exact retI (wf := (yw g)) C hP hS hw dX11_ranged_35
    · have hw := hw.2 h1
      refine lv_iload_n C.1 C.2.1 dX11_ranged_12 rfl (lv_at hl 1 rfl) ?_
      refine lv_aload_n C.1 C.2.1 dX11_ranged_13 rfl (lv_at hl 0 rfl) ?_
      refine lv_iload_n C.1 C.2.1 dX11_ranged_14 rfl (lv_at hl 2 rfl) ?_
      refine goI (wf := (yw g)) (runV (w := yw g M) (As := [.int v2]) (rest := [.int v1]) C lkX11_393 (c_X11_isRanged l g C.2.2.2.2.2.2.2.2.2.2 v2  M _ hw) hP hS rfl rfl ⟨Nat.le_of_ble_eq_true rfl, Nat.le_of_ble_eq_true rfl⟩ (xx_40 Nat.zero_lt_one) rfl rfl hl.1 rfl (Nat.le_of_ble_eq_true rfl) dX11_ranged_15) hS (fun r2 M2 hw H locs hP hS => ?_)
      obtain ⟨hw, hz2⟩ := hw
      refine lv_if_eq (tgt := 25) C.1 C.2.1 dX11_ranged_18 (by decide) (fun h3 => ?_) (fun h3 => ?_)
      · have hw := hw.1 h3
        refine lv_iconst (v := 0) C.1 C.2.1 dX11_ranged_25 (by decide) ?_
        exact k_X11_ranged_26 (Q := Q) C (fun v1 v2  M hw H locs ls hl hP hS => ih v1 v2  M hw hl hP hS) v2 v1 0  _ hw (lv_sub hl [0, 2] rfl) hP hS
      · have hw := hw.2 h3
        refine lv_iconst (v := 1) C.1 C.2.1 dX11_ranged_21 (by decide) ?_
        refine lv_goto (tgt := 26) C.1 C.2.1 dX11_ranged_22 (by decide) ?_
        exact k_X11_ranged_26 (Q := Q) C (fun v1 v2  M hw H locs ls hl hP hS => ih v1 v2  M hw hl hP hS) v2 v1 1  _ hw (lv_sub hl [0, 2] rfl) hP hS
def p_X11_ranged (M : Mem) (Q : Int32 → Mem → Prop) : Prop := (∃ n4 : Nat, b_X11_ranged_4 Q n4 0 0 M)
set_option maxRecDepth 100000 in
set_option maxHeartbeats 4000000 in
theorem c_X11_ranged (l : Launch) (g : Geo) (gi : GI g) (M : Mem) (Q : Int32 → Mem → Prop) (hw : p_X11_ranged  M Q) : Met l yX11_ranged (Cond.code yX11_ranged cX11_ranged 3 (some .int) :: bg) ({ frames := 2, cells := 0, slots := 0, locals := 43 } : Room) (va_Pc [.ref (g.2.1 (138 + 0))] (PW g (yw g M))) (va_Qi Q (PB g (yw g)) (Af 1 g)) 0 0 (Af 1 g) := by
  refine Met.ofW (cc := cX11_ranged) (maxL := 3) (ret := (some .int)) (by decide +kernel) rfl ?_
  intro p e s m args below meth c s₁ B hml hv
  obtain ⟨rfl, hv⟩ := hv
  have C := CX.start (own := RX11) B hml rfl gi hv
  have hP := hv.1
  have hS : va_S (Af 1 g) s.heap s.heap [] := va_S.rf
  have hl := lv_entry ([.ref (g.2.1 (138 + 0))]) (n := 3) (Nat.le_of_ble_eq_true rfl)
  rw [lg_entry_eq]
  generalize (lg_sl ([.ref (g.2.1 (138 + 0))]) ++ List.replicate (3 - (lg_sl ([.ref (g.2.1 (138 + 0))])).length) Slot.unset).toArray = ls at hl ⊢
  have hl : lv_has ls 3 [(0, .ref (g.2.1 (138 + 0)))] := hl
  unfold p_X11_ranged at hw
  refine lv_iconst (v := 0) C.1 C.2.1 dX11_ranged_0 (by decide) ?_
  refine lv_istore_n (lv' := [(1, .int 0), (0, .ref (g.2.1 (138 + 0)))]) C.1 C.2.1 dX11_ranged_1 rfl hl (by decide) rfl (fun ls hl => ?_)
  refine lv_iconst (v := 0) C.1 C.2.1 dX11_ranged_2 (by decide) ?_
  refine lv_istore_n (lv' := [(2, .int 0), (1, .int 0), (0, .ref (g.2.1 (138 + 0)))]) C.1 C.2.1 dX11_ranged_3 rfl hl (by decide) rfl (fun ls hl => ?_)
  obtain ⟨n9, hw⟩ := hw
  exact k_X11_ranged_4 (Q := Q) C n9 0 0  _ hw (lv_sub hl [2, 1, 0] rfl) hP hS
def b_X11_restAt_137 (Q : Int32 → Mem → Prop) (v5 : Int32) (v6 : Int32) (v7 : Int32) (s1 : Int32) (M : Mem) : Prop := (∀ M6 : Mem, M6 = sI M 40 0 44 s1 → (Q ((v7 - (((2 : Int32) * (M6.1 40 0 44)) * v6)) + ((v5 * (M6.1 40 0 44)) * (M6.1 40 0 44))) M6))
set_option maxRecDepth 100000 in
set_option maxHeartbeats 4000000 in
theorem k_X11_restAt_137 {p : Program} {l : Launch} {e : Env} {s : State} {m : MethodId} {args : Array Value} {below : List Frame} {meth : Method} {c : Code} {g : Geo} (C : CX g p s m args meth c cX11_restAt 10 (some .int) RX11) {Q : Int32 → Mem → Prop} (v5 : Int32) (v6 : Int32) (v7 : Int32) (s1 : Int32) (M : Mem) (hw : b_X11_restAt_137 Q v5 v6 v7 s1 M) {H : Heap} {locs : List Loc} {ls : Array Slot} (hl : lv_has ls 10 [(0, .ref (g.2.1 (138 + 0))), (5, .int v5), (6, .int v6), (7, .int v7)]) (hP : va_P g.1 clz (yw g M) H) (hS : va_S (Af 1 g) s.heap H locs) : W p l e ({ frames := 3, cells := 0, slots := 0, locals := 67 } : Room) s m args below meth c H locs 0 0 (MQ below (va_Qi Q (PB g (yw g)) (Af 1 g)) args s 0 0 (Af 1 g)) (F0 m 137 ls [.int s1, .ref (g.2.1 (138 + 0))]) := by
  unfold b_X11_restAt_137 at hw
  refine pX11_396 C hP hS Nat.zero_lt_one dX11_restAt_137 (fun M6 e6 H locs hP hS => ?_)
  have hw := hw M6 e6
  refine lv_iload C.1 C.2.1 dX11_restAt_140 (lv_at hl 3 rfl) ?_
  refine lv_iconst (v := 2) C.1 C.2.1 dX11_restAt_142 (by decide) ?_
  refine lv_aload_n C.1 C.2.1 dX11_restAt_143 rfl (lv_at hl 0 rfl) ?_
  refine gX11_396 C hP Nat.zero_lt_one dX11_restAt_144 ?_
  refine lv_imul C.1 C.2.1 dX11_restAt_147 ?_
  refine lv_iload C.1 C.2.1 dX11_restAt_148 (lv_at hl 2 rfl) ?_
  refine lv_imul C.1 C.2.1 dX11_restAt_150 ?_
  refine lv_isub C.1 C.2.1 dX11_restAt_151 ?_
  refine lv_iload C.1 C.2.1 dX11_restAt_152 (lv_at hl 1 rfl) ?_
  refine lv_aload_n C.1 C.2.1 dX11_restAt_154 rfl (lv_at hl 0 rfl) ?_
  refine gX11_396 C hP Nat.zero_lt_one dX11_restAt_155 ?_
  refine lv_imul C.1 C.2.1 dX11_restAt_158 ?_
  refine lv_aload_n C.1 C.2.1 dX11_restAt_159 rfl (lv_at hl 0 rfl) ?_
  refine gX11_396 C hP Nat.zero_lt_one dX11_restAt_160 ?_
  refine lv_imul C.1 C.2.1 dX11_restAt_163 ?_
  refine lv_iadd C.1 C.2.1 dX11_restAt_164 ?_
  exact retI (wf := (yw g)) C hP hS hw dX11_restAt_165
def b_X11_restAt_88 (Q : Int32 → Mem → Prop) (v5 : Int32) (v6 : Int32) (v7 : Int32) (M : Mem) : Prop := (p_X11_quotient ((v5 - ((2 : Int32) * v6))) (((2 : Int32) * v5)) M (fun r2 M2 => (∀ M3 : Mem, M3 = sI M2 40 0 44 (-r2) → ((0 ≤ (M3.1 40 0 44) → (((M3.1 40 0 44) ≤ 99 → (b_X11_restAt_137 Q v5 v6 v7 ((M3.1 40 0 44)) M3)) ∧ (¬ (M3.1 40 0 44) ≤ 99 → (b_X11_restAt_137 Q v5 v6 v7 99 M3)))) ∧ (¬ 0 ≤ (M3.1 40 0 44) → (b_X11_restAt_137 Q v5 v6 v7 0 M3))))))
set_option maxRecDepth 100000 in
set_option maxHeartbeats 4000000 in
theorem k_X11_restAt_88 {p : Program} {l : Launch} {e : Env} {s : State} {m : MethodId} {args : Array Value} {below : List Frame} {meth : Method} {c : Code} {g : Geo} (C : CX g p s m args meth c cX11_restAt 10 (some .int) RX11) {Q : Int32 → Mem → Prop} (v5 : Int32) (v6 : Int32) (v7 : Int32) (M : Mem) (hw : b_X11_restAt_88 Q v5 v6 v7 M) {H : Heap} {locs : List Loc} {ls : Array Slot} (hl : lv_has ls 10 [(0, .ref (g.2.1 (138 + 0))), (5, .int v5), (6, .int v6), (7, .int v7)]) (hP : va_P g.1 clz (yw g M) H) (hS : va_S (Af 1 g) s.heap H locs) : W p l e ({ frames := 3, cells := 0, slots := 0, locals := 67 } : Room) s m args below meth c H locs 0 0 (MQ below (va_Qi Q (PB g (yw g)) (Af 1 g)) args s 0 0 (Af 1 g)) (F0 m 88 ls []) := by
  unfold b_X11_restAt_88 at hw
  refine lv_aload_n C.1 C.2.1 dX11_restAt_88 rfl (lv_at hl 0 rfl) ?_
  refine lv_iload C.1 C.2.1 dX11_restAt_89 (lv_at hl 1 rfl) ?_
  refine lv_iconst (v := 2) C.1 C.2.1 dX11_restAt_91 (by decide) ?_
  refine lv_iload C.1 C.2.1 dX11_restAt_92 (lv_at hl 2 rfl) ?_
  refine lv_imul C.1 C.2.1 dX11_restAt_94 ?_
  refine lv_isub C.1 C.2.1 dX11_restAt_95 ?_
  refine lv_iconst (v := 2) C.1 C.2.1 dX11_restAt_96 (by decide) ?_
  refine lv_iload C.1 C.2.1 dX11_restAt_97 (lv_at hl 1 rfl) ?_
  refine lv_imul C.1 C.2.1 dX11_restAt_99 ?_
  refine goI (wf := (yw g)) (runS (w := yw g M) (As := [.int (v5 - ((2 : Int32) * v6)), .int ((2 : Int32) * v5)]) (rest := [.ref (g.2.1 (138 + 0))]) C lkX11_252 (c_X11_quotient l g C.2.2.2.2.2.2.2.2.2.2 ((v5 - ((2 : Int32) * v6))) (((2 : Int32) * v5))  M _ hw) hP hS rfl rfl ⟨Nat.le_of_ble_eq_true rfl, Nat.le_of_ble_eq_true rfl⟩ hl.1 rfl (Nat.le_of_ble_eq_true rfl) dX11_restAt_100) hS (fun r2 M2 hw H locs hP hS => ?_)
  refine lv_ineg C.1 C.2.1 dX11_restAt_103 ?_
  refine pX11_396 C hP hS Nat.zero_lt_one dX11_restAt_104 (fun M3 e3 H locs hP hS => ?_)
  have hw := hw M3 e3
  refine lv_aload_n C.1 C.2.1 dX11_restAt_107 rfl (lv_at hl 0 rfl) ?_
  refine lv_aload_n C.1 C.2.1 dX11_restAt_108 rfl (lv_at hl 0 rfl) ?_
  refine gX11_396 C hP Nat.zero_lt_one dX11_restAt_109 ?_
  refine lv_if_ge (tgt := 119) C.1 C.2.1 dX11_restAt_112 (by decide) (fun h4 => ?_) (fun h4 => ?_)
  · have hw := hw.1 h4
    refine lv_aload_n C.1 C.2.1 dX11_restAt_119 rfl (lv_at hl 0 rfl) ?_
    refine gX11_396 C hP Nat.zero_lt_one dX11_restAt_120 ?_
    refine lv_bipush (v := 99) C.1 C.2.1 dX11_restAt_123 (by decide) ?_
    refine lv_icmp_le (tgt := 133) C.1 C.2.1 dX11_restAt_125 (by decide) (fun h5 => ?_) (fun h5 => ?_)
    · have hw := hw.1 h5
      refine lv_aload_n C.1 C.2.1 dX11_restAt_133 rfl (lv_at hl 0 rfl) ?_
      refine gX11_396 C hP Nat.zero_lt_one dX11_restAt_134 ?_
      exact k_X11_restAt_137 (Q := Q) C v5 v6 v7 ((M3.1 40 0 44))  _ hw (lv_sub hl [0, 1, 2, 3] rfl) hP hS
    · have hw := hw.2 h5
      refine lv_bipush (v := 99) C.1 C.2.1 dX11_restAt_128 (by decide) ?_
      refine lv_goto (tgt := 137) C.1 C.2.1 dX11_restAt_130 (by decide) ?_
      exact k_X11_restAt_137 (Q := Q) C v5 v6 v7 99  _ hw (lv_sub hl [0, 1, 2, 3] rfl) hP hS
  · have hw := hw.2 h4
    refine lv_iconst (v := 0) C.1 C.2.1 dX11_restAt_115 (by decide) ?_
    refine lv_goto (tgt := 137) C.1 C.2.1 dX11_restAt_116 (by decide) ?_
    exact k_X11_restAt_137 (Q := Q) C v5 v6 v7 0  _ hw (lv_sub hl [0, 1, 2, 3] rfl) hP hS
def b_X11_restAt_82 (Q : Int32 → Mem → Prop) (k12 : Int32 → Int32 → Int32 → Int32 → Int32 → Int32 → Int32 → Int32 → Mem → Prop) (v1 : Int32) (v2 : Int32) (v3 : Int32) (v4 : Int32) (v5 : Int32) (v6 : Int32) (v7 : Int32) (v8 : Int32) (M : Mem) : Prop := (∀ x8 : Int32, x8 = (v8 + 1) → (k12 v1 v2 v3 v4 v5 v6 v7 x8 M))
set_option maxRecDepth 100000 in
set_option maxHeartbeats 4000000 in
theorem k_X11_restAt_82 {p : Program} {l : Launch} {e : Env} {s : State} {m : MethodId} {args : Array Value} {below : List Frame} {meth : Method} {c : Code} {g : Geo} (C : CX g p s m args meth c cX11_restAt 10 (some .int) RX11) {Q : Int32 → Mem → Prop} {k12 : Int32 → Int32 → Int32 → Int32 → Int32 → Int32 → Int32 → Int32 → Mem → Prop} (hk12 : ∀ (v1 : Int32) (v2 : Int32) (v3 : Int32) (v4 : Int32) (v5 : Int32) (v6 : Int32) (v7 : Int32) (v8 : Int32) (M : Mem), k12 v1 v2 v3 v4 v5 v6 v7 v8 M → ∀ (H : Heap) (locs : List Loc) (ls : Array Slot), lv_has ls 10 [(0, .ref (g.2.1 (138 + 0))), (1, .int v1), (2, .int v2), (3, .int v3), (4, .int v4), (5, .int v5), (6, .int v6), (7, .int v7), (8, .int v8)] → va_P g.1 clz (yw g M) H → va_S (Af 1 g) s.heap H locs → W p l e ({ frames := 3, cells := 0, slots := 0, locals := 67 } : Room) s m args below meth c H locs 0 0 (MQ below (va_Qi Q (PB g (yw g)) (Af 1 g)) args s 0 0 (Af 1 g)) (F0 m 12 ls [])) (v1 : Int32) (v2 : Int32) (v3 : Int32) (v4 : Int32) (v5 : Int32) (v6 : Int32) (v7 : Int32) (v8 : Int32) (M : Mem) (hw : b_X11_restAt_82 Q k12 v1 v2 v3 v4 v5 v6 v7 v8 M) {H : Heap} {locs : List Loc} {ls : Array Slot} (hl : lv_has ls 10 [(0, .ref (g.2.1 (138 + 0))), (1, .int v1), (2, .int v2), (3, .int v3), (4, .int v4), (5, .int v5), (6, .int v6), (7, .int v7), (8, .int v8)]) (hP : va_P g.1 clz (yw g M) H) (hS : va_S (Af 1 g) s.heap H locs) : W p l e ({ frames := 3, cells := 0, slots := 0, locals := 67 } : Room) s m args below meth c H locs 0 0 (MQ below (va_Qi Q (PB g (yw g)) (Af 1 g)) args s 0 0 (Af 1 g)) (F0 m 82 ls []) := by
  unfold b_X11_restAt_82 at hw
  obtain ⟨x8, e8⟩ : ∃ y : Int32, y = (v8 + 1) := ⟨_, rfl⟩
  have hw := hw x8 e8
  refine lv_iinc (v := x8) (lv' := [(8, .int x8), (0, .ref (g.2.1 (138 + 0))), (1, .int v1), (2, .int v2), (3, .int v3), (4, .int v4), (5, .int v5), (6, .int v6), (7, .int v7)]) C.1 C.2.1 dX11_restAt_82 hl (k := 8) rfl (by rw [e8]; rfl) (by decide) rfl (fun ls hl => ?_)
  refine lv_goto (tgt := 12) C.1 C.2.1 dX11_restAt_85 (by decide) ?_
  exact hk12 v1 v2 v3 v4 v5 v6 v7 x8  _ hw _ _ _ (lv_sub hl [1, 2, 3, 4, 5, 6, 7, 8, 0] rfl) hP hS
def b_X11_restAt_12 (Q : Int32 → Mem → Prop) : Nat → Int32 → Int32 → Int32 → Int32 → Int32 → Int32 → Int32 → Int32 → Mem → Prop
  | 0, _, _, _, _, _, _, _, _, _ => False
  | n + 1, v1, v2, v3, v4, v5, v6, v7, v8, M => (((M.1 40 0 11) ≤ v8 → (b_X11_restAt_88 Q v5 v6 v7 M)) ∧ (¬ (M.1 40 0 11) ≤ v8 → ((v8 = v4 → (b_X11_restAt_82 Q (fun v1 v2 v3 v4 v5 v6 v7 v8 M => b_X11_restAt_12 Q n v1 v2 v3 v4 v5 v6 v7 v8 M) v1 v2 v3 v4 v5 v6 v7 v8 M)) ∧ (¬ v8 = v4 → (p_X11_isRanged v8 M (fun r9 M9 => ((¬ r9 = 0 → (p_X11_of (((293 : Int32) + v8)) M9 (fun r11 M11 => (p_X11_farFrom v8 v1 v2 v3 M11 (fun r12 M12 => (∀ x13 : Int32, x13 = (r11 - r12) → (∀ x14 : Int32, x14 = (v5 + 1) → (∀ x15 : Int32, x15 = (v6 + x13) → (∀ x16 : Int32, x16 = (v7 + (x13 * x13)) → (b_X11_restAt_82 Q (fun v1 v2 v3 v4 v5 v6 v7 v8 M => b_X11_restAt_12 Q n v1 v2 v3 v4 v5 v6 v7 v8 M) v1 v2 v3 v4 x14 x15 x16 v8 M12)))))))))) ∧ (r9 = 0 → (b_X11_restAt_82 Q (fun v1 v2 v3 v4 v5 v6 v7 v8 M => b_X11_restAt_12 Q n v1 v2 v3 v4 v5 v6 v7 v8 M) v1 v2 v3 v4 v5 v6 v7 v8 M9)))))))))
set_option maxRecDepth 100000 in
set_option maxHeartbeats 4000000 in
theorem k_X11_restAt_12 {p : Program} {l : Launch} {e : Env} {s : State} {m : MethodId} {args : Array Value} {below : List Frame} {meth : Method} {c : Code} {g : Geo} (C : CX g p s m args meth c cX11_restAt 10 (some .int) RX11) {Q : Int32 → Mem → Prop} : ∀ (n : Nat) (v1 : Int32) (v2 : Int32) (v3 : Int32) (v4 : Int32) (v5 : Int32) (v6 : Int32) (v7 : Int32) (v8 : Int32) (M : Mem) (hw : b_X11_restAt_12 Q n v1 v2 v3 v4 v5 v6 v7 v8 M) {H : Heap} {locs : List Loc} {ls : Array Slot} (hl : lv_has ls 10 [(0, .ref (g.2.1 (138 + 0))), (1, .int v1), (2, .int v2), (3, .int v3), (4, .int v4), (5, .int v5), (6, .int v6), (7, .int v7), (8, .int v8)]) (hP : va_P g.1 clz (yw g M) H) (hS : va_S (Af 1 g) s.heap H locs), W p l e ({ frames := 3, cells := 0, slots := 0, locals := 67 } : Room) s m args below meth c H locs 0 0 (MQ below (va_Qi Q (PB g (yw g)) (Af 1 g)) args s 0 0 (Af 1 g)) (F0 m 12 ls []) := by
  intro n
  induction n with
  | zero => intro v1 v2 v3 v4 v5 v6 v7 v8 M hw H locs ls hl hP hS; exact absurd hw (by rw [b_X11_restAt_12]; exact fun h => h)
  | succ n ih =>
    intro v1 v2 v3 v4 v5 v6 v7 v8 M hw H locs ls hl hP hS
    rw [b_X11_restAt_12] at hw
    refine lv_iload C.1 C.2.1 dX11_restAt_12 (lv_at hl 8 rfl) ?_
    refine lv_aload_n C.1 C.2.1 dX11_restAt_14 rfl (lv_at hl 0 rfl) ?_
    refine gX11_121 C hP Nat.zero_lt_one dX11_restAt_15 ?_
    refine lv_icmp_ge (tgt := 88) C.1 C.2.1 dX11_restAt_18 (by decide) (fun h1 => ?_) (fun h1 => ?_)
    · have hw := hw.1 h1
      exact k_X11_restAt_88 (Q := Q) C v5 v6 v7  _ hw (lv_sub hl [0, 5, 6, 7] rfl) hP hS
    · have hw := hw.2 h1
      refine lv_iload C.1 C.2.1 dX11_restAt_21 (lv_at hl 8 rfl) ?_
      refine lv_iload C.1 C.2.1 dX11_restAt_23 (lv_at hl 4 rfl) ?_
      refine lv_icmp_eq (tgt := 82) C.1 C.2.1 dX11_restAt_25 (by decide) (fun h7 => ?_) (fun h7 => ?_)
      · have hw := hw.1 h7
        exact k_X11_restAt_82 (Q := Q) C (fun v1 v2 v3 v4 v5 v6 v7 v8  M hw H locs ls hl hP hS => ih v1 v2 v3 v4 v5 v6 v7 v8  M hw hl hP hS) v1 v2 v3 v4 v5 v6 v7 v8  _ hw (lv_sub hl [0, 1, 2, 3, 4, 5, 6, 7, 8] rfl) hP hS
      · have hw := hw.2 h7
        refine lv_aload_n C.1 C.2.1 dX11_restAt_28 rfl (lv_at hl 0 rfl) ?_
        refine lv_iload C.1 C.2.1 dX11_restAt_29 (lv_at hl 8 rfl) ?_
        refine goI (wf := (yw g)) (runV (w := yw g M) (As := [.int v8]) (rest := []) C lkX11_393 (c_X11_isRanged l g C.2.2.2.2.2.2.2.2.2.2 v8  M _ hw) hP hS rfl rfl ⟨Nat.le_of_ble_eq_true rfl, Nat.le_of_ble_eq_true rfl⟩ (xx_40 Nat.zero_lt_one) rfl rfl hl.1 rfl (Nat.le_of_ble_eq_true rfl) dX11_restAt_31) hS (fun r9 M9 hw H locs hP hS => ?_)
        obtain ⟨hw, hz9⟩ := hw
        refine lv_if_ne (tgt := 40) C.1 C.2.1 dX11_restAt_34 (by decide) (fun h10 => ?_) (fun h10 => ?_)
        · have hw := hw.1 h10
          refine lv_aload_n C.1 C.2.1 dX11_restAt_40 rfl (lv_at hl 0 rfl) ?_
          refine lv_sipush (v := 293) C.1 C.2.1 dX11_restAt_41 (by decide) ?_
          refine lv_iload C.1 C.2.1 dX11_restAt_44 (lv_at hl 8 rfl) ?_
          refine lv_iadd C.1 C.2.1 dX11_restAt_46 ?_
          refine goI (wf := (yw g)) (runV (w := yw g M9) (As := [.int ((293 : Int32) + v8)]) (rest := []) C lkX11_340 (c_X11_of l g C.2.2.2.2.2.2.2.2.2.2 (((293 : Int32) + v8))  M9 _ hw) hP hS rfl rfl ⟨Nat.le_of_ble_eq_true rfl, Nat.le_of_ble_eq_true rfl⟩ (xx_40 Nat.zero_lt_one) rfl rfl hl.1 rfl (Nat.le_of_ble_eq_true rfl) dX11_restAt_47) hS (fun r11 M11 hw H locs hP hS => ?_)
          refine lv_aload_n C.1 C.2.1 dX11_restAt_50 rfl (lv_at hl 0 rfl) ?_
          refine lv_iload C.1 C.2.1 dX11_restAt_51 (lv_at hl 8 rfl) ?_
          refine lv_iload_n C.1 C.2.1 dX11_restAt_53 rfl (lv_at hl 1 rfl) ?_
          refine lv_iload_n C.1 C.2.1 dX11_restAt_54 rfl (lv_at hl 2 rfl) ?_
          refine lv_iload_n C.1 C.2.1 dX11_restAt_55 rfl (lv_at hl 3 rfl) ?_
          refine goI (wf := (yw g)) (runV (w := yw g M11) (As := [.int v8, .int v1, .int v2, .int v3]) (rest := [.int r11]) C lkX11_387 (c_X11_farFrom l g C.2.2.2.2.2.2.2.2.2.2 v8 v1 v2 v3  M11 _ hw) hP hS rfl rfl ⟨Nat.le_of_ble_eq_true rfl, Nat.le_of_ble_eq_true rfl⟩ (xx_40 Nat.zero_lt_one) rfl rfl hl.1 rfl (Nat.le_of_ble_eq_true rfl) dX11_restAt_56) hS (fun r12 M12 hw H locs hP hS => ?_)
          refine lv_isub C.1 C.2.1 dX11_restAt_59 ?_
          refine lv_topi (fun x13 e13 => ?_)
          have hw := hw x13 e13
          refine lv_istore (lv' := [(9, .int x13), (0, .ref (g.2.1 (138 + 0))), (1, .int v1), (2, .int v2), (3, .int v3), (4, .int v4), (5, .int v5), (6, .int v6), (7, .int v7), (8, .int v8)]) C.1 C.2.1 dX11_restAt_60 hl (by decide) rfl (fun ls hl => ?_)
          obtain ⟨x14, e14⟩ : ∃ y : Int32, y = (v5 + 1) := ⟨_, rfl⟩
          have hw := hw x14 e14
          refine lv_iinc (v := x14) (lv' := [(5, .int x14), (9, .int x13), (0, .ref (g.2.1 (138 + 0))), (1, .int v1), (2, .int v2), (3, .int v3), (4, .int v4), (6, .int v6), (7, .int v7), (8, .int v8)]) C.1 C.2.1 dX11_restAt_62 hl (k := 6) rfl (by rw [e14]; rfl) (by decide) rfl (fun ls hl => ?_)
          refine lv_iload C.1 C.2.1 dX11_restAt_65 (lv_at hl 7 rfl) ?_
          refine lv_iload C.1 C.2.1 dX11_restAt_67 (lv_at hl 1 rfl) ?_
          refine lv_iadd C.1 C.2.1 dX11_restAt_69 ?_
          refine lv_topi (fun x15 e15 => ?_)
          have hw := hw x15 e15
          refine lv_istore (lv' := [(6, .int x15), (5, .int x14), (9, .int x13), (0, .ref (g.2.1 (138 + 0))), (1, .int v1), (2, .int v2), (3, .int v3), (4, .int v4), (7, .int v7), (8, .int v8)]) C.1 C.2.1 dX11_restAt_70 hl (by decide) rfl (fun ls hl => ?_)
          refine lv_iload C.1 C.2.1 dX11_restAt_72 (lv_at hl 8 rfl) ?_
          refine lv_iload C.1 C.2.1 dX11_restAt_74 (lv_at hl 2 rfl) ?_
          refine lv_iload C.1 C.2.1 dX11_restAt_76 (lv_at hl 2 rfl) ?_
          refine lv_imul C.1 C.2.1 dX11_restAt_78 ?_
          refine lv_iadd C.1 C.2.1 dX11_restAt_79 ?_
          refine lv_topi (fun x16 e16 => ?_)
          have hw := hw x16 e16
          refine lv_istore (lv' := [(7, .int x16), (6, .int x15), (5, .int x14), (9, .int x13), (0, .ref (g.2.1 (138 + 0))), (1, .int v1), (2, .int v2), (3, .int v3), (4, .int v4), (8, .int v8)]) C.1 C.2.1 dX11_restAt_80 hl (by decide) rfl (fun ls hl => ?_)
          exact k_X11_restAt_82 (Q := Q) C (fun v1 v2 v3 v4 v5 v6 v7 v8  M hw H locs ls hl hP hS => ih v1 v2 v3 v4 v5 v6 v7 v8  M hw hl hP hS) v1 v2 v3 v4 x14 x15 x16 v8  _ hw (lv_sub hl [4, 5, 6, 7, 8, 2, 1, 0, 9] rfl) hP hS
        · have hw := hw.2 h10
          refine lv_goto (tgt := 82) C.1 C.2.1 dX11_restAt_37 (by decide) ?_
          exact k_X11_restAt_82 (Q := Q) C (fun v1 v2 v3 v4 v5 v6 v7 v8  M hw H locs ls hl hP hS => ih v1 v2 v3 v4 v5 v6 v7 v8  M hw hl hP hS) v1 v2 v3 v4 v5 v6 v7 v8  _ hw (lv_sub hl [0, 1, 2, 3, 4, 5, 6, 7, 8] rfl) hP hS
def p_X11_restAt (a1 : Int32) (a2 : Int32) (a3 : Int32) (a4 : Int32) (M : Mem) (Q : Int32 → Mem → Prop) : Prop := (∃ n12 : Nat, b_X11_restAt_12 Q n12 a1 a2 a3 a4 0 0 0 0 M)
set_option maxRecDepth 100000 in
set_option maxHeartbeats 4000000 in
theorem c_X11_restAt (l : Launch) (g : Geo) (gi : GI g) (a1 : Int32) (a2 : Int32) (a3 : Int32) (a4 : Int32) (M : Mem) (Q : Int32 → Mem → Prop) (hw : p_X11_restAt a1 a2 a3 a4 M Q) : Met l yX11_restAt (Cond.code yX11_restAt cX11_restAt 10 (some .int) :: bg) ({ frames := 3, cells := 0, slots := 0, locals := 67 } : Room) (va_Pc [.ref (g.2.1 (138 + 0)), .int a1, .int a2, .int a3, .int a4] (PW g (yw g M))) (va_Qi Q (PB g (yw g)) (Af 1 g)) 0 0 (Af 1 g) := by
  refine Met.ofW (cc := cX11_restAt) (maxL := 10) (ret := (some .int)) (by decide +kernel) rfl ?_
  intro p e s m args below meth c s₁ B hml hv
  obtain ⟨rfl, hv⟩ := hv
  have C := CX.start (own := RX11) B hml rfl gi hv
  have hP := hv.1
  have hS : va_S (Af 1 g) s.heap s.heap [] := va_S.rf
  have hl := lv_entry ([.ref (g.2.1 (138 + 0)), .int a1, .int a2, .int a3, .int a4]) (n := 10) (Nat.le_of_ble_eq_true rfl)
  rw [lg_entry_eq]
  generalize (lg_sl ([.ref (g.2.1 (138 + 0)), .int a1, .int a2, .int a3, .int a4]) ++ List.replicate (10 - (lg_sl ([.ref (g.2.1 (138 + 0)), .int a1, .int a2, .int a3, .int a4])).length) Slot.unset).toArray = ls at hl ⊢
  have hl : lv_has ls 10 [(0, .ref (g.2.1 (138 + 0))), (1, .int a1), (2, .int a2), (3, .int a3), (4, .int a4)] := hl
  unfold p_X11_restAt at hw
  refine lv_iconst (v := 0) C.1 C.2.1 dX11_restAt_0 (by decide) ?_
  refine lv_istore (lv' := [(5, .int 0), (0, .ref (g.2.1 (138 + 0))), (1, .int a1), (2, .int a2), (3, .int a3), (4, .int a4)]) C.1 C.2.1 dX11_restAt_1 hl (by decide) rfl (fun ls hl => ?_)
  refine lv_iconst (v := 0) C.1 C.2.1 dX11_restAt_3 (by decide) ?_
  refine lv_istore (lv' := [(6, .int 0), (5, .int 0), (0, .ref (g.2.1 (138 + 0))), (1, .int a1), (2, .int a2), (3, .int a3), (4, .int a4)]) C.1 C.2.1 dX11_restAt_4 hl (by decide) rfl (fun ls hl => ?_)
  refine lv_iconst (v := 0) C.1 C.2.1 dX11_restAt_6 (by decide) ?_
  refine lv_istore (lv' := [(7, .int 0), (6, .int 0), (5, .int 0), (0, .ref (g.2.1 (138 + 0))), (1, .int a1), (2, .int a2), (3, .int a3), (4, .int a4)]) C.1 C.2.1 dX11_restAt_7 hl (by decide) rfl (fun ls hl => ?_)
  refine lv_iconst (v := 0) C.1 C.2.1 dX11_restAt_9 (by decide) ?_
  refine lv_istore (lv' := [(8, .int 0), (7, .int 0), (6, .int 0), (5, .int 0), (0, .ref (g.2.1 (138 + 0))), (1, .int a1), (2, .int a2), (3, .int a3), (4, .int a4)]) C.1 C.2.1 dX11_restAt_10 hl (by decide) rfl (fun ls hl => ?_)
  obtain ⟨n9, hw⟩ := hw
  exact k_X11_restAt_12 (Q := Q) C n9 a1 a2 a3 a4 0 0 0 0  _ hw (lv_sub hl [4, 5, 6, 7, 8, 3, 2, 1, 0] rfl) hP hS
def b_X11_layFix_60 (Q : Mem → Prop) (k111 : Int32 → Int32 → Mem → Prop) (v1 : Int32) (v2 : Int32) (v3 : Int32) (M : Mem) : Prop := (vp_in 0 5 ∧ (∀ M6 : Mem, M6 = sI M 58 0 (0 : Int32).toNatClampNeg (v2 / 256) → (vp_in 1 5 ∧ (∀ M7 : Mem, M7 = sI M6 58 0 (1 : Int32).toNatClampNeg ((v2 / 16) - (v2 / 16) / 16 * 16) → (vp_in 2 5 ∧ (∀ M8 : Mem, M8 = sI M7 58 0 (2 : Int32).toNatClampNeg (v2 - v2 / 16 * 16) → (vp_in 3 5 ∧ (∀ M9 : Mem, M9 = sI M8 58 0 (3 : Int32).toNatClampNeg (M8.1 40 0 44) → (vp_in 4 5 ∧ (∀ M10 : Mem, M10 = sI M9 58 0 (4 : Int32).toNatClampNeg v3 → (k111 v1 v2 M10)))))))))))
set_option maxRecDepth 100000 in
set_option maxHeartbeats 4000000 in
theorem k_X11_layFix_60 {p : Program} {l : Launch} {e : Env} {s : State} {m : MethodId} {args : Array Value} {below : List Frame} {meth : Method} {c : Code} {g : Geo} (C : CX g p s m args meth c cX11_layFix 4 none RX11) {Q : Mem → Prop} {k111 : Int32 → Int32 → Mem → Prop} (hk111 : ∀ (v1 : Int32) (v2 : Int32) (M : Mem), k111 v1 v2 M → ∀ (H : Heap) (locs : List Loc) (ls : Array Slot), lv_has ls 4 [(0, .ref (g.2.1 (138 + 0))), (1, .int v1), (2, .int v2)] → va_P g.1 clz (yw g M) H → va_S (Af 1 g) s.heap H locs → W p l e ({ frames := 4, cells := 0, slots := 0, locals := 96 } : Room) s m args below meth c H locs 0 0 (MQ below (va_Qv Q (PB g (yw g)) (Af 1 g)) args s 0 0 (Af 1 g)) (F0 m 111 ls [])) (v1 : Int32) (v2 : Int32) (v3 : Int32) (M : Mem) (hw : b_X11_layFix_60 Q k111 v1 v2 v3 M) {H : Heap} {locs : List Loc} {ls : Array Slot} (hl : lv_has ls 4 [(0, .ref (g.2.1 (138 + 0))), (1, .int v1), (2, .int v2), (3, .int v3)]) (hP : va_P g.1 clz (yw g M) H) (hS : va_S (Af 1 g) s.heap H locs) : W p l e ({ frames := 4, cells := 0, slots := 0, locals := 96 } : Room) s m args below meth c H locs 0 0 (MQ below (va_Qv Q (PB g (yw g)) (Af 1 g)) args s 0 0 (Af 1 g)) (F0 m 60 ls []) := by
  unfold b_X11_layFix_60 at hw
  refine lv_aload_n C.1 C.2.1 dX11_layFix_60 rfl (lv_at hl 0 rfl) ?_
  refine gX11_67 C hP Nat.zero_lt_one dX11_layFix_61 ?_
  refine lv_iconst (v := 0) C.1 C.2.1 dX11_layFix_64 (by decide) ?_
  refine lv_iload_n C.1 C.2.1 dX11_layFix_65 rfl (lv_at hl 2 rfl) ?_
  refine lv_sipush (v := 256) C.1 C.2.1 dX11_layFix_66 (by decide) ?_
  refine lv_idiv C.1 C.2.1 dX11_layFix_69 (by decide) ?_
  obtain ⟨h6, hw⟩ := hw
  refine as_58 C hP hS Nat.zero_lt_one h6 dX11_layFix_70 (fun M6 e6 H locs hP hS => ?_)
  have hw := hw M6 e6
  refine lv_aload_n C.1 C.2.1 dX11_layFix_71 rfl (lv_at hl 0 rfl) ?_
  refine gX11_67 C hP Nat.zero_lt_one dX11_layFix_72 ?_
  refine lv_iconst (v := 1) C.1 C.2.1 dX11_layFix_75 (by decide) ?_
  refine lv_iload_n C.1 C.2.1 dX11_layFix_76 rfl (lv_at hl 2 rfl) ?_
  refine lv_bipush (v := 16) C.1 C.2.1 dX11_layFix_77 (by decide) ?_
  refine lv_idiv C.1 C.2.1 dX11_layFix_79 (by decide) ?_
  refine lv_bipush (v := 16) C.1 C.2.1 dX11_layFix_80 (by decide) ?_
  refine lv_irem C.1 C.2.1 dX11_layFix_82 (by decide) ?_
  obtain ⟨h7, hw⟩ := hw
  refine as_58 C hP hS Nat.zero_lt_one h7 dX11_layFix_83 (fun M7 e7 H locs hP hS => ?_)
  have hw := hw M7 e7
  refine lv_aload_n C.1 C.2.1 dX11_layFix_84 rfl (lv_at hl 0 rfl) ?_
  refine gX11_67 C hP Nat.zero_lt_one dX11_layFix_85 ?_
  refine lv_iconst (v := 2) C.1 C.2.1 dX11_layFix_88 (by decide) ?_
  refine lv_iload_n C.1 C.2.1 dX11_layFix_89 rfl (lv_at hl 2 rfl) ?_
  refine lv_bipush (v := 16) C.1 C.2.1 dX11_layFix_90 (by decide) ?_
  refine lv_irem C.1 C.2.1 dX11_layFix_92 (by decide) ?_
  obtain ⟨h8, hw⟩ := hw
  refine as_58 C hP hS Nat.zero_lt_one h8 dX11_layFix_93 (fun M8 e8 H locs hP hS => ?_)
  have hw := hw M8 e8
  refine lv_aload_n C.1 C.2.1 dX11_layFix_94 rfl (lv_at hl 0 rfl) ?_
  refine gX11_67 C hP Nat.zero_lt_one dX11_layFix_95 ?_
  refine lv_iconst (v := 3) C.1 C.2.1 dX11_layFix_98 (by decide) ?_
  refine lv_aload_n C.1 C.2.1 dX11_layFix_99 rfl (lv_at hl 0 rfl) ?_
  refine gX11_396 C hP Nat.zero_lt_one dX11_layFix_100 ?_
  obtain ⟨h9, hw⟩ := hw
  refine as_58 C hP hS Nat.zero_lt_one h9 dX11_layFix_103 (fun M9 e9 H locs hP hS => ?_)
  have hw := hw M9 e9
  refine lv_aload_n C.1 C.2.1 dX11_layFix_104 rfl (lv_at hl 0 rfl) ?_
  refine gX11_67 C hP Nat.zero_lt_one dX11_layFix_105 ?_
  refine lv_iconst (v := 4) C.1 C.2.1 dX11_layFix_108 (by decide) ?_
  refine lv_iload_n C.1 C.2.1 dX11_layFix_109 rfl (lv_at hl 3 rfl) ?_
  obtain ⟨h10, hw⟩ := hw
  refine as_58 C hP hS Nat.zero_lt_one h10 dX11_layFix_110 (fun M10 e10 H locs hP hS => ?_)
  have hw := hw M10 e10
  exact hk111 v1 v2  _ hw _ _ _ (lv_sub hl [0, 1, 2] rfl) hP hS
def b_X11_layFix_111 (Q : Mem → Prop) (k9 : Int32 → Int32 → Mem → Prop) (v1 : Int32) (v2 : Int32) (M : Mem) : Prop := (∀ x11 : Int32, x11 = (v2 + 1) → (k9 v1 x11 M))
set_option maxRecDepth 100000 in
set_option maxHeartbeats 4000000 in
theorem k_X11_layFix_111 {p : Program} {l : Launch} {e : Env} {s : State} {m : MethodId} {args : Array Value} {below : List Frame} {meth : Method} {c : Code} {g : Geo} (C : CX g p s m args meth c cX11_layFix 4 none RX11) {Q : Mem → Prop} {k9 : Int32 → Int32 → Mem → Prop} (hk9 : ∀ (v1 : Int32) (v2 : Int32) (M : Mem), k9 v1 v2 M → ∀ (H : Heap) (locs : List Loc) (ls : Array Slot), lv_has ls 4 [(0, .ref (g.2.1 (138 + 0))), (1, .int v1), (2, .int v2)] → va_P g.1 clz (yw g M) H → va_S (Af 1 g) s.heap H locs → W p l e ({ frames := 4, cells := 0, slots := 0, locals := 96 } : Room) s m args below meth c H locs 0 0 (MQ below (va_Qv Q (PB g (yw g)) (Af 1 g)) args s 0 0 (Af 1 g)) (F0 m 9 ls [])) (v1 : Int32) (v2 : Int32) (M : Mem) (hw : b_X11_layFix_111 Q k9 v1 v2 M) {H : Heap} {locs : List Loc} {ls : Array Slot} (hl : lv_has ls 4 [(0, .ref (g.2.1 (138 + 0))), (1, .int v1), (2, .int v2)]) (hP : va_P g.1 clz (yw g M) H) (hS : va_S (Af 1 g) s.heap H locs) : W p l e ({ frames := 4, cells := 0, slots := 0, locals := 96 } : Room) s m args below meth c H locs 0 0 (MQ below (va_Qv Q (PB g (yw g)) (Af 1 g)) args s 0 0 (Af 1 g)) (F0 m 111 ls []) := by
  unfold b_X11_layFix_111 at hw
  obtain ⟨x11, e11⟩ : ∃ y : Int32, y = (v2 + 1) := ⟨_, rfl⟩
  have hw := hw x11 e11
  refine lv_iinc (v := x11) (lv' := [(2, .int x11), (0, .ref (g.2.1 (138 + 0))), (1, .int v1)]) C.1 C.2.1 dX11_layFix_111 hl (k := 2) rfl (by rw [e11]; rfl) (by decide) rfl (fun ls hl => ?_)
  refine lv_goto (tgt := 9) C.1 C.2.1 dX11_layFix_114 (by decide) ?_
  exact hk9 v1 x11  _ hw _ _ _ (lv_sub hl [1, 2, 0] rfl) hP hS
def b_X11_layFix_9 (Q : Mem → Prop) : Nat → Int32 → Int32 → Mem → Prop
  | 0, _, _, _ => False
  | n + 1, v1, v2, M => ((4096 ≤ v2 → (Q M)) ∧ (¬ 4096 ≤ v2 → (p_X11_restAt ((v2 / 256)) (((v2 / 16) - (v2 / 16) / 16 * 16)) ((v2 - v2 / 16 * 16)) v1 M (fun r3 M3 => (vp_in 4 5 ∧ (((M3.1 58 0 (4 : Int32).toNatClampNeg) < 0 → (b_X11_layFix_60 Q (fun v1 v2 M => b_X11_layFix_111 Q (fun v1 v2 M => b_X11_layFix_9 Q n v1 v2 M) v1 v2 M) v1 v2 r3 M3)) ∧ (¬ (M3.1 58 0 (4 : Int32).toNatClampNeg) < 0 → (vp_in 4 5 ∧ ((r3 < (M3.1 58 0 (4 : Int32).toNatClampNeg) → (b_X11_layFix_60 Q (fun v1 v2 M => b_X11_layFix_111 Q (fun v1 v2 M => b_X11_layFix_9 Q n v1 v2 M) v1 v2 M) v1 v2 r3 M3)) ∧ (¬ r3 < (M3.1 58 0 (4 : Int32).toNatClampNeg) → (b_X11_layFix_111 Q (fun v1 v2 M => b_X11_layFix_9 Q n v1 v2 M) v1 v2 M3)))))))))))
set_option maxRecDepth 100000 in
set_option maxHeartbeats 4000000 in
theorem k_X11_layFix_9 {p : Program} {l : Launch} {e : Env} {s : State} {m : MethodId} {args : Array Value} {below : List Frame} {meth : Method} {c : Code} {g : Geo} (C : CX g p s m args meth c cX11_layFix 4 none RX11) {Q : Mem → Prop} : ∀ (n : Nat) (v1 : Int32) (v2 : Int32) (M : Mem) (hw : b_X11_layFix_9 Q n v1 v2 M) {H : Heap} {locs : List Loc} {ls : Array Slot} (hl : lv_has ls 4 [(0, .ref (g.2.1 (138 + 0))), (1, .int v1), (2, .int v2)]) (hP : va_P g.1 clz (yw g M) H) (hS : va_S (Af 1 g) s.heap H locs), W p l e ({ frames := 4, cells := 0, slots := 0, locals := 96 } : Room) s m args below meth c H locs 0 0 (MQ below (va_Qv Q (PB g (yw g)) (Af 1 g)) args s 0 0 (Af 1 g)) (F0 m 9 ls []) := by
  intro n
  induction n with
  | zero => intro v1 v2 M hw H locs ls hl hP hS; exact absurd hw (by rw [b_X11_layFix_9]; exact fun h => h)
  | succ n ih =>
    intro v1 v2 M hw H locs ls hl hP hS
    rw [b_X11_layFix_9] at hw
    refine lv_iload_n C.1 C.2.1 dX11_layFix_9 rfl (lv_at hl 2 rfl) ?_
    refine lv_sipush (v := 4096) C.1 C.2.1 dX11_layFix_10 (by decide) ?_
    refine lv_icmp_ge (tgt := 117) C.1 C.2.1 dX11_layFix_13 (by decide) (fun h2 => ?_) (fun h2 => ?_)
    · have hw := hw.1 h2
      exact retV (wf := (yw g)) C hP hS hw dX11_layFix_117
    · have hw := hw.2 h2
      refine lv_aload_n C.1 C.2.1 dX11_layFix_16 rfl (lv_at hl 0 rfl) ?_
      refine lv_iload_n C.1 C.2.1 dX11_layFix_17 rfl (lv_at hl 2 rfl) ?_
      refine lv_sipush (v := 256) C.1 C.2.1 dX11_layFix_18 (by decide) ?_
      refine lv_idiv C.1 C.2.1 dX11_layFix_21 (by decide) ?_
      refine lv_iload_n C.1 C.2.1 dX11_layFix_22 rfl (lv_at hl 2 rfl) ?_
      refine lv_bipush (v := 16) C.1 C.2.1 dX11_layFix_23 (by decide) ?_
      refine lv_idiv C.1 C.2.1 dX11_layFix_25 (by decide) ?_
      refine lv_bipush (v := 16) C.1 C.2.1 dX11_layFix_26 (by decide) ?_
      refine lv_irem C.1 C.2.1 dX11_layFix_28 (by decide) ?_
      refine lv_iload_n C.1 C.2.1 dX11_layFix_29 rfl (lv_at hl 2 rfl) ?_
      refine lv_bipush (v := 16) C.1 C.2.1 dX11_layFix_30 (by decide) ?_
      refine lv_irem C.1 C.2.1 dX11_layFix_32 (by decide) ?_
      refine lv_iload_n C.1 C.2.1 dX11_layFix_33 rfl (lv_at hl 1 rfl) ?_
      refine goI (wf := (yw g)) (runV (w := yw g M) (As := [.int (v2 / 256), .int ((v2 / 16) - (v2 / 16) / 16 * 16), .int (v2 - v2 / 16 * 16), .int v1]) (rest := []) C lkX11_399 (c_X11_restAt l g C.2.2.2.2.2.2.2.2.2.2 ((v2 / 256)) (((v2 / 16) - (v2 / 16) / 16 * 16)) ((v2 - v2 / 16 * 16)) v1  M _ hw) hP hS rfl rfl ⟨Nat.le_of_ble_eq_true rfl, Nat.le_of_ble_eq_true rfl⟩ (xx_40 Nat.zero_lt_one) rfl rfl hl.1 rfl (Nat.le_of_ble_eq_true rfl) dX11_layFix_34) hS (fun r3 M3 hw H locs hP hS => ?_)
      refine lv_istore_n (lv' := [(3, .int r3), (0, .ref (g.2.1 (138 + 0))), (1, .int v1), (2, .int v2)]) C.1 C.2.1 dX11_layFix_37 rfl hl (by decide) rfl (fun ls hl => ?_)
      refine lv_aload_n C.1 C.2.1 dX11_layFix_38 rfl (lv_at hl 1 rfl) ?_
      refine gX11_67 C hP Nat.zero_lt_one dX11_layFix_39 ?_
      refine lv_iconst (v := 4) C.1 C.2.1 dX11_layFix_42 (by decide) ?_
      obtain ⟨h4, hw⟩ := hw
      refine al_58 C hP Nat.zero_lt_one h4 dX11_layFix_43 ?_
      refine lv_if_lt (tgt := 60) C.1 C.2.1 dX11_layFix_44 (by decide) (fun h5 => ?_) (fun h5 => ?_)
      · have hw := hw.1 h5
        exact k_X11_layFix_60 (Q := Q) C (fun v1 v2  M hw H locs ls hl hP hS => k_X11_layFix_111 (Q := Q) C (fun v1 v2  M hw H locs ls hl hP hS => ih v1 v2  M hw hl hP hS) v1 v2  M hw hl hP hS) v1 v2 r3  _ hw (lv_sub hl [1, 2, 3, 0] rfl) hP hS
      · have hw := hw.2 h5
        refine lv_iload_n C.1 C.2.1 dX11_layFix_47 rfl (lv_at hl 0 rfl) ?_
        refine lv_aload_n C.1 C.2.1 dX11_layFix_48 rfl (lv_at hl 1 rfl) ?_
        refine gX11_67 C hP Nat.zero_lt_one dX11_layFix_49 ?_
        refine lv_iconst (v := 4) C.1 C.2.1 dX11_layFix_52 (by decide) ?_
        obtain ⟨h12, hw⟩ := hw
        refine al_58 C hP Nat.zero_lt_one h12 dX11_layFix_53 ?_
        refine lv_icmp_lt (tgt := 60) C.1 C.2.1 dX11_layFix_54 (by decide) (fun h13 => ?_) (fun h13 => ?_)
        · have hw := hw.1 h13
          exact k_X11_layFix_60 (Q := Q) C (fun v1 v2  M hw H locs ls hl hP hS => k_X11_layFix_111 (Q := Q) C (fun v1 v2  M hw H locs ls hl hP hS => ih v1 v2  M hw hl hP hS) v1 v2  M hw hl hP hS) v1 v2 r3  _ hw (lv_sub hl [1, 2, 3, 0] rfl) hP hS
        · have hw := hw.2 h13
          refine lv_goto (tgt := 111) C.1 C.2.1 dX11_layFix_57 (by decide) ?_
          exact k_X11_layFix_111 (Q := Q) C (fun v1 v2  M hw H locs ls hl hP hS => ih v1 v2  M hw hl hP hS) v1 v2  _ hw (lv_sub hl [1, 2, 3] rfl) hP hS
def p_X11_layFix (a1 : Int32) (M : Mem) (Q : Mem → Prop) : Prop := (vp_in 4 5 ∧ (∀ M1 : Mem, M1 = sI M 58 0 (4 : Int32).toNatClampNeg (-1) → (∃ n9 : Nat, b_X11_layFix_9 Q n9 a1 0 M1)))
set_option maxRecDepth 100000 in
set_option maxHeartbeats 4000000 in
theorem c_X11_layFix (l : Launch) (g : Geo) (gi : GI g) (a1 : Int32) (M : Mem) (Q : Mem → Prop) (hw : p_X11_layFix a1 M Q) : Met l yX11_layFix (Cond.code yX11_layFix cX11_layFix 4 none :: bg) ({ frames := 4, cells := 0, slots := 0, locals := 96 } : Room) (va_Pc [.ref (g.2.1 (138 + 0)), .int a1] (PW g (yw g M))) (va_Qv Q (PB g (yw g)) (Af 1 g)) 0 0 (Af 1 g) := by
  refine Met.ofW (cc := cX11_layFix) (maxL := 4) (ret := none) (by decide +kernel) rfl ?_
  intro p e s m args below meth c s₁ B hml hv
  obtain ⟨rfl, hv⟩ := hv
  have C := CX.start (own := RX11) B hml rfl gi hv
  have hP := hv.1
  have hS : va_S (Af 1 g) s.heap s.heap [] := va_S.rf
  have hl := lv_entry ([.ref (g.2.1 (138 + 0)), .int a1]) (n := 4) (Nat.le_of_ble_eq_true rfl)
  rw [lg_entry_eq]
  generalize (lg_sl ([.ref (g.2.1 (138 + 0)), .int a1]) ++ List.replicate (4 - (lg_sl ([.ref (g.2.1 (138 + 0)), .int a1])).length) Slot.unset).toArray = ls at hl ⊢
  have hl : lv_has ls 4 [(0, .ref (g.2.1 (138 + 0))), (1, .int a1)] := hl
  unfold p_X11_layFix at hw
  refine lv_aload_n C.1 C.2.1 dX11_layFix_0 rfl (lv_at hl 0 rfl) ?_
  refine gX11_67 C hP Nat.zero_lt_one dX11_layFix_1 ?_
  refine lv_iconst (v := 4) C.1 C.2.1 dX11_layFix_4 (by decide) ?_
  refine lv_iconst (v := (-1)) C.1 C.2.1 dX11_layFix_5 (by decide) ?_
  obtain ⟨h1, hw⟩ := hw
  refine as_58 C hP hS Nat.zero_lt_one h1 dX11_layFix_6 (fun M1 e1 H locs hP hS => ?_)
  have hw := hw M1 e1
  refine lv_iconst (v := 0) C.1 C.2.1 dX11_layFix_7 (by decide) ?_
  refine lv_istore_n (lv' := [(2, .int 0), (0, .ref (g.2.1 (138 + 0))), (1, .int a1)]) C.1 C.2.1 dX11_layFix_8 rfl hl (by decide) rfl (fun ls hl => ?_)
  obtain ⟨n9, hw⟩ := hw
  exact k_X11_layFix_9 (Q := Q) C n9 a1 0  _ hw (lv_sub hl [1, 2, 0] rfl) hP hS
