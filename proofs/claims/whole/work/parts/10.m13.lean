def p_X11_drop (M : Mem) (Q : Int32 → Mem → Prop) : Prop := (∀ M1 : Mem, M1 = sI M 40 0 2 0 → (p_X11_of 292 M1 (fun r2 M2 => ((¬ r2 = 0 → (p_X11_canUndo  M2 (fun M4 => (p_X11_of 292 M4 (fun r5 M5 => (p_X11_lay 292 ((r5 - 1)) M5 (fun M6 => (p_X11_of 292 M6 (fun r7 M7 => (Q r7 M7)))))))))) ∧ (r2 = 0 → (Q (-1) M2))))))
set_option maxRecDepth 100000 in
set_option maxHeartbeats 4000000 in
theorem c_X11_drop (l : Launch) (g : Geo) (gi : GI g) (M : Mem) (Q : Int32 → Mem → Prop) (hw : p_X11_drop  M Q) : Met l yX11_drop (Cond.code yX11_drop cX11_drop 1 (some .int) :: bg) ({ frames := 2, cells := 0, slots := 0, locals := 44 } : Room) (va_Pc [.ref (g.2.1 (138 + 0))] (PW g (yw g M))) (va_Qi Q (PB g (yw g)) (Af 1 g)) 0 0 (Af 1 g) := by
  refine Met.ofW (cc := cX11_drop) (maxL := 1) (ret := (some .int)) (by decide +kernel) rfl ?_
  intro p e s m args below meth c s₁ B hml hv
  obtain ⟨rfl, hv⟩ := hv
  have C := CX.start (own := RX11) B hml rfl gi hv
  have hP := hv.1
  have hS : va_S (Af 1 g) s.heap s.heap [] := va_S.rf
  have hl := lv_entry ([.ref (g.2.1 (138 + 0))]) (n := 1) (Nat.le_of_ble_eq_true rfl)
  rw [lg_entry_eq]
  generalize (lg_sl ([.ref (g.2.1 (138 + 0))]) ++ List.replicate (1 - (lg_sl ([.ref (g.2.1 (138 + 0))])).length) Slot.unset).toArray = ls at hl ⊢
  have hl : lv_has ls 1 [(0, .ref (g.2.1 (138 + 0)))] := hl
  unfold p_X11_drop at hw
  refine lv_aload_n C.1 C.2.1 dX11_drop_0 rfl (lv_at hl 0 rfl) ?_
  refine lv_iconst (v := 0) C.1 C.2.1 dX11_drop_1 (by decide) ?_
  refine pX11_76 C hP hS Nat.zero_lt_one dX11_drop_2 (fun M1 e1 H locs hP hS => ?_)
  have hw := hw M1 e1
  refine lv_aload_n C.1 C.2.1 dX11_drop_5 rfl (lv_at hl 0 rfl) ?_
  refine lv_sipush (v := 292) C.1 C.2.1 dX11_drop_6 (by decide) ?_
  refine goI (wf := (yw g)) (runV (w := yw g M1) (As := [.int 292]) (rest := []) C lkX11_340 (c_X11_of l g C.2.2.2.2.2.2.2.2.2.2 292  M1 _ hw) hP hS rfl rfl ⟨Nat.le_of_ble_eq_true rfl, Nat.le_of_ble_eq_true rfl⟩ (xx_40 Nat.zero_lt_one) rfl rfl hl.1 rfl (Nat.le_of_ble_eq_true rfl) dX11_drop_9) hS (fun r2 M2 hw H locs hP hS => ?_)
  refine lv_if_ne (tgt := 17) C.1 C.2.1 dX11_drop_12 (by decide) (fun h3 => ?_) (fun h3 => ?_)
  · have hw := hw.1 h3
    refine lv_aload_n C.1 C.2.1 dX11_drop_17 rfl (lv_at hl 0 rfl) ?_
    refine goV (wf := (yw g)) (runV (w := yw g M2) (As := []) (rest := []) C lkX11_346 (c_X11_canUndo l g C.2.2.2.2.2.2.2.2.2.2   M2 _ hw) hP hS rfl rfl ⟨Nat.le_of_ble_eq_true rfl, Nat.le_of_ble_eq_true rfl⟩ (xx_40 Nat.zero_lt_one) rfl rfl hl.1 rfl (Nat.le_of_ble_eq_true rfl) dX11_drop_18) hS (fun M4 hw H locs hP hS => ?_)
    refine lv_aload_n C.1 C.2.1 dX11_drop_21 rfl (lv_at hl 0 rfl) ?_
    refine lv_sipush (v := 292) C.1 C.2.1 dX11_drop_22 (by decide) ?_
    refine lv_aload_n C.1 C.2.1 dX11_drop_25 rfl (lv_at hl 0 rfl) ?_
    refine lv_sipush (v := 292) C.1 C.2.1 dX11_drop_26 (by decide) ?_
    refine goI (wf := (yw g)) (runV (w := yw g M4) (As := [.int 292]) (rest := [.int 292, .ref (g.2.1 (138 + 0))]) C lkX11_340 (c_X11_of l g C.2.2.2.2.2.2.2.2.2.2 292  M4 _ hw) hP hS rfl rfl ⟨Nat.le_of_ble_eq_true rfl, Nat.le_of_ble_eq_true rfl⟩ (xx_40 Nat.zero_lt_one) rfl rfl hl.1 rfl (Nat.le_of_ble_eq_true rfl) dX11_drop_29) hS (fun r5 M5 hw H locs hP hS => ?_)
    refine lv_iconst (v := 1) C.1 C.2.1 dX11_drop_32 (by decide) ?_
    refine lv_isub C.1 C.2.1 dX11_drop_33 ?_
    refine goV (wf := (yw g)) (runV (w := yw g M5) (As := [.int 292, .int (r5 - 1)]) (rest := []) C lkX11_153 (c_X11_lay l g C.2.2.2.2.2.2.2.2.2.2 292 ((r5 - 1))  M5 _ hw) hP hS rfl rfl ⟨Nat.le_of_ble_eq_true rfl, Nat.le_of_ble_eq_true rfl⟩ (xx_40 Nat.zero_lt_one) rfl rfl hl.1 rfl (Nat.le_of_ble_eq_true rfl) dX11_drop_34) hS (fun M6 hw H locs hP hS => ?_)
    refine lv_aload_n C.1 C.2.1 dX11_drop_37 rfl (lv_at hl 0 rfl) ?_
    refine lv_sipush (v := 292) C.1 C.2.1 dX11_drop_38 (by decide) ?_
    refine goI (wf := (yw g)) (runV (w := yw g M6) (As := [.int 292]) (rest := []) C lkX11_340 (c_X11_of l g C.2.2.2.2.2.2.2.2.2.2 292  M6 _ hw) hP hS rfl rfl ⟨Nat.le_of_ble_eq_true rfl, Nat.le_of_ble_eq_true rfl⟩ (xx_40 Nat.zero_lt_one) rfl rfl hl.1 rfl (Nat.le_of_ble_eq_true rfl) dX11_drop_41) hS (fun r7 M7 hw H locs hP hS => ?_)
    exact retI (wf := (yw g)) C hP hS hw dX11_drop_44
  · have hw := hw.2 h3
    refine lv_iconst (v := (-1)) C.1 C.2.1 dX11_drop_15 (by decide) ?_
    exact retI (wf := (yw g)) C hP hS hw dX11_drop_16
def b_X11_logs_55 (Q : Mem → Prop) (v1 : Int32) (v2 : Int32) (v3 : Int32) (M : Mem) : Prop := (p_X11_put v1 (((9 : Int32) + v3)) v2 M (fun M3 => (p_X11_put v1 8 ((v3 + 1)) M3 (fun M4 => (Q M4)))))
set_option maxRecDepth 100000 in
set_option maxHeartbeats 4000000 in
theorem k_X11_logs_55 {p : Program} {l : Launch} {e : Env} {s : State} {m : MethodId} {args : Array Value} {below : List Frame} {meth : Method} {c : Code} {g : Geo} (C : CX g p s m args meth c cX11_logs 5 none RX11) {Q : Mem → Prop} (v1 : Int32) (v2 : Int32) (v3 : Int32) (M : Mem) (hw : b_X11_logs_55 Q v1 v2 v3 M) {H : Heap} {locs : List Loc} {ls : Array Slot} (hl : lv_has ls 5 [(0, .ref (g.2.1 (138 + 0))), (1, .int v1), (2, .int v2), (3, .int v3)]) (hP : va_P g.1 clz (yw g M) H) (hS : va_S (Af 1 g) s.heap H locs) : W p l e ({ frames := 2, cells := 0, slots := 0, locals := 45 } : Room) s m args below meth c H locs 0 0 (MQ below (va_Qv Q (PB g (yw g)) (Af 1 g)) args s 0 0 (Af 1 g)) (F0 m 55 ls []) := by
  unfold b_X11_logs_55 at hw
  refine lv_aload_n C.1 C.2.1 dX11_logs_55 rfl (lv_at hl 0 rfl) ?_
  refine lv_iload_n C.1 C.2.1 dX11_logs_56 rfl (lv_at hl 1 rfl) ?_
  refine lv_bipush (v := 9) C.1 C.2.1 dX11_logs_57 (by decide) ?_
  refine lv_iload_n C.1 C.2.1 dX11_logs_59 rfl (lv_at hl 3 rfl) ?_
  refine lv_iadd C.1 C.2.1 dX11_logs_60 ?_
  refine lv_iload_n C.1 C.2.1 dX11_logs_61 rfl (lv_at hl 2 rfl) ?_
  refine goV (wf := (yw g)) (runV (w := yw g M) (As := [.int v1, .int ((9 : Int32) + v3), .int v2]) (rest := []) C lkX11_349 (c_X11_put l g C.2.2.2.2.2.2.2.2.2.2 v1 (((9 : Int32) + v3)) v2  M _ hw) hP hS rfl rfl ⟨Nat.le_of_ble_eq_true rfl, Nat.le_of_ble_eq_true rfl⟩ (xx_40 Nat.zero_lt_one) rfl rfl hl.1 rfl (Nat.le_of_ble_eq_true rfl) dX11_logs_62) hS (fun M3 hw H locs hP hS => ?_)
  refine lv_aload_n C.1 C.2.1 dX11_logs_65 rfl (lv_at hl 0 rfl) ?_
  refine lv_iload_n C.1 C.2.1 dX11_logs_66 rfl (lv_at hl 1 rfl) ?_
  refine lv_bipush (v := 8) C.1 C.2.1 dX11_logs_67 (by decide) ?_
  refine lv_iload_n C.1 C.2.1 dX11_logs_69 rfl (lv_at hl 3 rfl) ?_
  refine lv_iconst (v := 1) C.1 C.2.1 dX11_logs_70 (by decide) ?_
  refine lv_iadd C.1 C.2.1 dX11_logs_71 ?_
  refine goV (wf := (yw g)) (runV (w := yw g M3) (As := [.int v1, .int 8, .int (v3 + 1)]) (rest := []) C lkX11_349 (c_X11_put l g C.2.2.2.2.2.2.2.2.2.2 v1 8 ((v3 + 1))  M3 _ hw) hP hS rfl rfl ⟨Nat.le_of_ble_eq_true rfl, Nat.le_of_ble_eq_true rfl⟩ (xx_40 Nat.zero_lt_one) rfl rfl hl.1 rfl (Nat.le_of_ble_eq_true rfl) dX11_logs_72) hS (fun M4 hw H locs hP hS => ?_)
  exact retV (wf := (yw g)) C hP hS hw dX11_logs_75
def b_X11_logs_52 (Q : Mem → Prop) (k55 : Int32 → Int32 → Int32 → Mem → Prop) (v1 : Int32) (v2 : Int32) (M : Mem) : Prop := (k55 v1 v2 63 M)
set_option maxRecDepth 100000 in
set_option maxHeartbeats 4000000 in
theorem k_X11_logs_52 {p : Program} {l : Launch} {e : Env} {s : State} {m : MethodId} {args : Array Value} {below : List Frame} {meth : Method} {c : Code} {g : Geo} (C : CX g p s m args meth c cX11_logs 5 none RX11) {Q : Mem → Prop} {k55 : Int32 → Int32 → Int32 → Mem → Prop} (hk55 : ∀ (v1 : Int32) (v2 : Int32) (v3 : Int32) (M : Mem), k55 v1 v2 v3 M → ∀ (H : Heap) (locs : List Loc) (ls : Array Slot), lv_has ls 5 [(0, .ref (g.2.1 (138 + 0))), (1, .int v1), (2, .int v2), (3, .int v3)] → va_P g.1 clz (yw g M) H → va_S (Af 1 g) s.heap H locs → W p l e ({ frames := 2, cells := 0, slots := 0, locals := 45 } : Room) s m args below meth c H locs 0 0 (MQ below (va_Qv Q (PB g (yw g)) (Af 1 g)) args s 0 0 (Af 1 g)) (F0 m 55 ls [])) (v1 : Int32) (v2 : Int32) (M : Mem) (hw : b_X11_logs_52 Q k55 v1 v2 M) {H : Heap} {locs : List Loc} {ls : Array Slot} (hl : lv_has ls 5 [(0, .ref (g.2.1 (138 + 0))), (1, .int v1), (2, .int v2)]) (hP : va_P g.1 clz (yw g M) H) (hS : va_S (Af 1 g) s.heap H locs) : W p l e ({ frames := 2, cells := 0, slots := 0, locals := 45 } : Room) s m args below meth c H locs 0 0 (MQ below (va_Qv Q (PB g (yw g)) (Af 1 g)) args s 0 0 (Af 1 g)) (F0 m 52 ls []) := by
  unfold b_X11_logs_52 at hw
  refine lv_bipush (v := 63) C.1 C.2.1 dX11_logs_52 (by decide) ?_
  refine lv_istore_n (lv' := [(3, .int 63), (0, .ref (g.2.1 (138 + 0))), (1, .int v1), (2, .int v2)]) C.1 C.2.1 dX11_logs_54 rfl hl (by decide) rfl (fun ls hl => ?_)
  exact hk55 v1 v2 63  _ hw _ _ _ (lv_sub hl [1, 2, 3, 0] rfl) hP hS
def b_X11_logs_17 (Q : Mem → Prop) (k55 : Int32 → Int32 → Int32 → Mem → Prop) : Nat → Int32 → Int32 → Int32 → Mem → Prop
  | 0, _, _, _, _ => False
  | n + 1, v1, v2, v4, M => ((64 ≤ v4 → (b_X11_logs_52 Q k55 v1 v2 M)) ∧ (¬ 64 ≤ v4 → (p_X11_at v1 (((9 : Int32) + v4)) M (fun r6 M6 => (p_X11_put v1 ((((9 : Int32) + v4) - 1)) r6 M6 (fun M7 => (∀ x8 : Int32, x8 = (v4 + 1) → (b_X11_logs_17 Q k55 n v1 v2 x8 M7))))))))
set_option maxRecDepth 100000 in
set_option maxHeartbeats 4000000 in
theorem k_X11_logs_17 {p : Program} {l : Launch} {e : Env} {s : State} {m : MethodId} {args : Array Value} {below : List Frame} {meth : Method} {c : Code} {g : Geo} (C : CX g p s m args meth c cX11_logs 5 none RX11) {Q : Mem → Prop} {k55 : Int32 → Int32 → Int32 → Mem → Prop} (hk55 : ∀ (v1 : Int32) (v2 : Int32) (v3 : Int32) (M : Mem), k55 v1 v2 v3 M → ∀ (H : Heap) (locs : List Loc) (ls : Array Slot), lv_has ls 5 [(0, .ref (g.2.1 (138 + 0))), (1, .int v1), (2, .int v2), (3, .int v3)] → va_P g.1 clz (yw g M) H → va_S (Af 1 g) s.heap H locs → W p l e ({ frames := 2, cells := 0, slots := 0, locals := 45 } : Room) s m args below meth c H locs 0 0 (MQ below (va_Qv Q (PB g (yw g)) (Af 1 g)) args s 0 0 (Af 1 g)) (F0 m 55 ls [])) : ∀ (n : Nat) (v1 : Int32) (v2 : Int32) (v4 : Int32) (M : Mem) (hw : b_X11_logs_17 Q k55 n v1 v2 v4 M) {H : Heap} {locs : List Loc} {ls : Array Slot} (hl : lv_has ls 5 [(0, .ref (g.2.1 (138 + 0))), (1, .int v1), (2, .int v2), (4, .int v4)]) (hP : va_P g.1 clz (yw g M) H) (hS : va_S (Af 1 g) s.heap H locs), W p l e ({ frames := 2, cells := 0, slots := 0, locals := 45 } : Room) s m args below meth c H locs 0 0 (MQ below (va_Qv Q (PB g (yw g)) (Af 1 g)) args s 0 0 (Af 1 g)) (F0 m 17 ls []) := by
  intro n
  induction n with
  | zero => intro v1 v2 v4 M hw H locs ls hl hP hS; exact absurd hw (by rw [b_X11_logs_17]; exact fun h => h)
  | succ n ih =>
    intro v1 v2 v4 M hw H locs ls hl hP hS
    rw [b_X11_logs_17] at hw
    refine lv_iload C.1 C.2.1 dX11_logs_17 (lv_at hl 3 rfl) ?_
    refine lv_bipush (v := 64) C.1 C.2.1 dX11_logs_19 (by decide) ?_
    refine lv_icmp_ge (tgt := 52) C.1 C.2.1 dX11_logs_21 (by decide) (fun h5 => ?_) (fun h5 => ?_)
    · have hw := hw.1 h5
      exact k_X11_logs_52 (Q := Q) C hk55 v1 v2  _ hw (lv_sub hl [0, 1, 2] rfl) hP hS
    · have hw := hw.2 h5
      refine lv_aload_n C.1 C.2.1 dX11_logs_24 rfl (lv_at hl 0 rfl) ?_
      refine lv_iload_n C.1 C.2.1 dX11_logs_25 rfl (lv_at hl 1 rfl) ?_
      refine lv_bipush (v := 9) C.1 C.2.1 dX11_logs_26 (by decide) ?_
      refine lv_iload C.1 C.2.1 dX11_logs_28 (lv_at hl 3 rfl) ?_
      refine lv_iadd C.1 C.2.1 dX11_logs_30 ?_
      refine lv_iconst (v := 1) C.1 C.2.1 dX11_logs_31 (by decide) ?_
      refine lv_isub C.1 C.2.1 dX11_logs_32 ?_
      refine lv_aload_n C.1 C.2.1 dX11_logs_33 rfl (lv_at hl 0 rfl) ?_
      refine lv_iload_n C.1 C.2.1 dX11_logs_34 rfl (lv_at hl 1 rfl) ?_
      refine lv_bipush (v := 9) C.1 C.2.1 dX11_logs_35 (by decide) ?_
      refine lv_iload C.1 C.2.1 dX11_logs_37 (lv_at hl 3 rfl) ?_
      refine lv_iadd C.1 C.2.1 dX11_logs_39 ?_
      refine goI (wf := (yw g)) (runV (w := yw g M) (As := [.int v1, .int ((9 : Int32) + v4)]) (rest := [.int (((9 : Int32) + v4) - 1), .int v1, .ref (g.2.1 (138 + 0))]) C lkX11_352 (c_X11_at l g C.2.2.2.2.2.2.2.2.2.2 v1 (((9 : Int32) + v4))  M _ hw) hP hS rfl rfl ⟨Nat.le_of_ble_eq_true rfl, Nat.le_of_ble_eq_true rfl⟩ (xx_40 Nat.zero_lt_one) rfl rfl hl.1 rfl (Nat.le_of_ble_eq_true rfl) dX11_logs_40) hS (fun r6 M6 hw H locs hP hS => ?_)
      refine goV (wf := (yw g)) (runV (w := yw g M6) (As := [.int v1, .int (((9 : Int32) + v4) - 1), .int r6]) (rest := []) C lkX11_349 (c_X11_put l g C.2.2.2.2.2.2.2.2.2.2 v1 ((((9 : Int32) + v4) - 1)) r6  M6 _ hw) hP hS rfl rfl ⟨Nat.le_of_ble_eq_true rfl, Nat.le_of_ble_eq_true rfl⟩ (xx_40 Nat.zero_lt_one) rfl rfl hl.1 rfl (Nat.le_of_ble_eq_true rfl) dX11_logs_43) hS (fun M7 hw H locs hP hS => ?_)
      obtain ⟨x8, e8⟩ : ∃ y : Int32, y = (v4 + 1) := ⟨_, rfl⟩
      have hw := hw x8 e8
      refine lv_iinc (v := x8) (lv' := [(4, .int x8), (0, .ref (g.2.1 (138 + 0))), (1, .int v1), (2, .int v2)]) C.1 C.2.1 dX11_logs_46 hl (k := 3) rfl (by rw [e8]; rfl) (by decide) rfl (fun ls hl => ?_)
      refine lv_goto (tgt := 17) C.1 C.2.1 dX11_logs_49 (by decide) ?_
      exact ih v1 v2 x8  _ hw (lv_sub hl [1, 2, 3, 0] rfl) hP hS
def p_X11_logs (a1 : Int32) (a2 : Int32) (M : Mem) (Q : Mem → Prop) : Prop := (p_X11_at a1 8 M (fun r1 M1 => ((¬ r1 = 64 → (b_X11_logs_55 Q a1 a2 r1 M1)) ∧ (r1 = 64 → (∃ n17 : Nat, b_X11_logs_17 Q (fun v1 v2 v3 M => b_X11_logs_55 Q v1 v2 v3 M) n17 a1 a2 1 M1)))))
set_option maxRecDepth 100000 in
set_option maxHeartbeats 4000000 in
theorem c_X11_logs (l : Launch) (g : Geo) (gi : GI g) (a1 : Int32) (a2 : Int32) (M : Mem) (Q : Mem → Prop) (hw : p_X11_logs a1 a2 M Q) : Met l yX11_logs (Cond.code yX11_logs cX11_logs 5 none :: bg) ({ frames := 2, cells := 0, slots := 0, locals := 45 } : Room) (va_Pc [.ref (g.2.1 (138 + 0)), .int a1, .int a2] (PW g (yw g M))) (va_Qv Q (PB g (yw g)) (Af 1 g)) 0 0 (Af 1 g) := by
  refine Met.ofW (cc := cX11_logs) (maxL := 5) (ret := none) (by decide +kernel) rfl ?_
  intro p e s m args below meth c s₁ B hml hv
  obtain ⟨rfl, hv⟩ := hv
  have C := CX.start (own := RX11) B hml rfl gi hv
  have hP := hv.1
  have hS : va_S (Af 1 g) s.heap s.heap [] := va_S.rf
  have hl := lv_entry ([.ref (g.2.1 (138 + 0)), .int a1, .int a2]) (n := 5) (Nat.le_of_ble_eq_true rfl)
  rw [lg_entry_eq]
  generalize (lg_sl ([.ref (g.2.1 (138 + 0)), .int a1, .int a2]) ++ List.replicate (5 - (lg_sl ([.ref (g.2.1 (138 + 0)), .int a1, .int a2])).length) Slot.unset).toArray = ls at hl ⊢
  have hl : lv_has ls 5 [(0, .ref (g.2.1 (138 + 0))), (1, .int a1), (2, .int a2)] := hl
  unfold p_X11_logs at hw
  refine lv_aload_n C.1 C.2.1 dX11_logs_0 rfl (lv_at hl 0 rfl) ?_
  refine lv_iload_n C.1 C.2.1 dX11_logs_1 rfl (lv_at hl 1 rfl) ?_
  refine lv_bipush (v := 8) C.1 C.2.1 dX11_logs_2 (by decide) ?_
  refine goI (wf := (yw g)) (runV (w := yw g M) (As := [.int a1, .int 8]) (rest := []) C lkX11_352 (c_X11_at l g C.2.2.2.2.2.2.2.2.2.2 a1 8  M _ hw) hP hS rfl rfl ⟨Nat.le_of_ble_eq_true rfl, Nat.le_of_ble_eq_true rfl⟩ (xx_40 Nat.zero_lt_one) rfl rfl hl.1 rfl (Nat.le_of_ble_eq_true rfl) dX11_logs_4) hS (fun r1 M1 hw H locs hP hS => ?_)
  refine lv_istore_n (lv' := [(3, .int r1), (0, .ref (g.2.1 (138 + 0))), (1, .int a1), (2, .int a2)]) C.1 C.2.1 dX11_logs_7 rfl hl (by decide) rfl (fun ls hl => ?_)
  refine lv_iload_n C.1 C.2.1 dX11_logs_8 rfl (lv_at hl 0 rfl) ?_
  refine lv_bipush (v := 64) C.1 C.2.1 dX11_logs_9 (by decide) ?_
  refine lv_icmp_ne (tgt := 55) C.1 C.2.1 dX11_logs_11 (by decide) (fun h2 => ?_) (fun h2 => ?_)
  · have hw := hw.1 h2
    exact k_X11_logs_55 (Q := Q) C a1 a2 r1  _ hw (lv_sub hl [1, 2, 3, 0] rfl) hP hS
  · have hw := hw.2 h2
    refine lv_iconst (v := 1) C.1 C.2.1 dX11_logs_14 (by decide) ?_
    refine lv_istore (lv' := [(4, .int 1), (3, .int r1), (0, .ref (g.2.1 (138 + 0))), (1, .int a1), (2, .int a2)]) C.1 C.2.1 dX11_logs_15 hl (by decide) rfl (fun ls hl => ?_)
    obtain ⟨n9, hw⟩ := hw
    exact k_X11_logs_17 (Q := Q) C (fun v1 v2 v3  M hw H locs ls hl hP hS => k_X11_logs_55 (Q := Q) C v1 v2 v3  M hw hl hP hS) n9 a1 a2 1  _ hw (lv_sub hl [2, 3, 4, 0] rfl) hP hS
def b_X11_isFollowed_310 (Q : Int32 → Mem → Prop) (v1 : Int32) (v2 : Int32) (M : Mem) : Prop := (p_X11_put v1 5 ((v2 + 1)) M (fun M30 => (Q 1 M30)))
set_option maxRecDepth 100000 in
set_option maxHeartbeats 4000000 in
theorem k_X11_isFollowed_310 {p : Program} {l : Launch} {e : Env} {s : State} {m : MethodId} {args : Array Value} {below : List Frame} {meth : Method} {c : Code} {g : Geo} (C : CX g p s m args meth c cX11_isFollowed 10 (some .boolean) RX11) {Q : Int32 → Mem → Prop} (v1 : Int32) (v2 : Int32) (M : Mem) (hw : b_X11_isFollowed_310 Q v1 v2 M) {H : Heap} {locs : List Loc} {ls : Array Slot} (hl : lv_has ls 10 [(0, .ref (g.2.1 (138 + 0))), (1, .int v1), (2, .int v2)]) (hP : va_P g.1 clz (yw g M) H) (hS : va_S (Af 1 g) s.heap H locs) : W p l e ({ frames := 5, cells := 0, slots := 0, locals := 123 } : Room) s m args below meth c H locs 0 0 (MQ below (va_Qi (fun r M => Q r M ∧ narrow .boolean (.int r) = .int r) (PB g (yw g)) (Af 1 g)) args s 0 0 (Af 1 g)) (F0 m 310 ls []) := by
  unfold b_X11_isFollowed_310 at hw
  refine lv_aload_n C.1 C.2.1 dX11_isFollowed_310 rfl (lv_at hl 0 rfl) ?_
  refine lv_iload_n C.1 C.2.1 dX11_isFollowed_311 rfl (lv_at hl 1 rfl) ?_
  refine lv_iconst (v := 5) C.1 C.2.1 dX11_isFollowed_312 (by decide) ?_
  refine lv_iload_n C.1 C.2.1 dX11_isFollowed_313 rfl (lv_at hl 2 rfl) ?_
  refine lv_iconst (v := 1) C.1 C.2.1 dX11_isFollowed_314 (by decide) ?_
  refine lv_iadd C.1 C.2.1 dX11_isFollowed_315 ?_
  refine goV (wf := (yw g)) (runV (w := yw g M) (As := [.int v1, .int 5, .int (v2 + 1)]) (rest := []) C lkX11_349 (c_X11_put l g C.2.2.2.2.2.2.2.2.2.2 v1 5 ((v2 + 1))  M _ hw) hP hS rfl rfl ⟨Nat.le_of_ble_eq_true rfl, Nat.le_of_ble_eq_true rfl⟩ (xx_40 Nat.zero_lt_one) rfl rfl hl.1 rfl (Nat.le_of_ble_eq_true rfl) dX11_isFollowed_316) hS (fun M30 hw H locs hP hS => ?_)
  refine lv_iconst (v := 1) C.1 C.2.1 dX11_isFollowed_319 (by decide) ?_
  exact retZ (wf := (yw g)) C hP hS rfl hw dX11_isFollowed_320
def b_X11_isFollowed_286 (Q : Int32 → Mem → Prop) (v1 : Int32) (v2 : Int32) (s1 : Int32) (s2 : Int32) (s3 : Int32) (M : Mem) : Prop := (p_X11_put s1 s2 s3 M (fun M27 => (p_X11_at v1 6 M27 (fun r28 M28 => ((¬ r28 = 3 → (b_X11_isFollowed_310 Q v1 v2 M28)) ∧ (r28 = 3 → (p_X11_put v1 7 ((v2 + 1)) M28 (fun M31 => (b_X11_isFollowed_310 Q v1 v2 M31)))))))))
set_option maxRecDepth 100000 in
set_option maxHeartbeats 4000000 in
theorem k_X11_isFollowed_286 {p : Program} {l : Launch} {e : Env} {s : State} {m : MethodId} {args : Array Value} {below : List Frame} {meth : Method} {c : Code} {g : Geo} (C : CX g p s m args meth c cX11_isFollowed 10 (some .boolean) RX11) {Q : Int32 → Mem → Prop} (v1 : Int32) (v2 : Int32) (s1 : Int32) (s2 : Int32) (s3 : Int32) (M : Mem) (hw : b_X11_isFollowed_286 Q v1 v2 s1 s2 s3 M) {H : Heap} {locs : List Loc} {ls : Array Slot} (hl : lv_has ls 10 [(0, .ref (g.2.1 (138 + 0))), (1, .int v1), (2, .int v2)]) (hP : va_P g.1 clz (yw g M) H) (hS : va_S (Af 1 g) s.heap H locs) : W p l e ({ frames := 5, cells := 0, slots := 0, locals := 123 } : Room) s m args below meth c H locs 0 0 (MQ below (va_Qi (fun r M => Q r M ∧ narrow .boolean (.int r) = .int r) (PB g (yw g)) (Af 1 g)) args s 0 0 (Af 1 g)) (F0 m 286 ls [.int s3, .int s2, .int s1, .ref (g.2.1 (138 + 0))]) := by
  unfold b_X11_isFollowed_286 at hw
  refine goV (wf := (yw g)) (runV (w := yw g M) (As := [.int s1, .int s2, .int s3]) (rest := []) C lkX11_349 (c_X11_put l g C.2.2.2.2.2.2.2.2.2.2 s1 s2 s3  M _ hw) hP hS rfl rfl ⟨Nat.le_of_ble_eq_true rfl, Nat.le_of_ble_eq_true rfl⟩ (xx_40 Nat.zero_lt_one) rfl rfl hl.1 rfl (Nat.le_of_ble_eq_true rfl) dX11_isFollowed_286) hS (fun M27 hw H locs hP hS => ?_)
  refine lv_aload_n C.1 C.2.1 dX11_isFollowed_289 rfl (lv_at hl 0 rfl) ?_
  refine lv_iload_n C.1 C.2.1 dX11_isFollowed_290 rfl (lv_at hl 1 rfl) ?_
  refine lv_bipush (v := 6) C.1 C.2.1 dX11_isFollowed_291 (by decide) ?_
  refine goI (wf := (yw g)) (runV (w := yw g M27) (As := [.int v1, .int 6]) (rest := []) C lkX11_352 (c_X11_at l g C.2.2.2.2.2.2.2.2.2.2 v1 6  M27 _ hw) hP hS rfl rfl ⟨Nat.le_of_ble_eq_true rfl, Nat.le_of_ble_eq_true rfl⟩ (xx_40 Nat.zero_lt_one) rfl rfl hl.1 rfl (Nat.le_of_ble_eq_true rfl) dX11_isFollowed_293) hS (fun r28 M28 hw H locs hP hS => ?_)
  refine lv_iconst (v := 3) C.1 C.2.1 dX11_isFollowed_296 (by decide) ?_
  refine lv_icmp_ne (tgt := 310) C.1 C.2.1 dX11_isFollowed_297 (by decide) (fun h29 => ?_) (fun h29 => ?_)
  · have hw := hw.1 h29
    exact k_X11_isFollowed_310 (Q := Q) C v1 v2  _ hw (lv_sub hl [0, 1, 2] rfl) hP hS
  · have hw := hw.2 h29
    refine lv_aload_n C.1 C.2.1 dX11_isFollowed_300 rfl (lv_at hl 0 rfl) ?_
    refine lv_iload_n C.1 C.2.1 dX11_isFollowed_301 rfl (lv_at hl 1 rfl) ?_
    refine lv_bipush (v := 7) C.1 C.2.1 dX11_isFollowed_302 (by decide) ?_
    refine lv_iload_n C.1 C.2.1 dX11_isFollowed_304 rfl (lv_at hl 2 rfl) ?_
    refine lv_iconst (v := 1) C.1 C.2.1 dX11_isFollowed_305 (by decide) ?_
    refine lv_iadd C.1 C.2.1 dX11_isFollowed_306 ?_
    refine goV (wf := (yw g)) (runV (w := yw g M28) (As := [.int v1, .int 7, .int (v2 + 1)]) (rest := []) C lkX11_349 (c_X11_put l g C.2.2.2.2.2.2.2.2.2.2 v1 7 ((v2 + 1))  M28 _ hw) hP hS rfl rfl ⟨Nat.le_of_ble_eq_true rfl, Nat.le_of_ble_eq_true rfl⟩ (xx_40 Nat.zero_lt_one) rfl rfl hl.1 rfl (Nat.le_of_ble_eq_true rfl) dX11_isFollowed_307) hS (fun M31 hw H locs hP hS => ?_)
    exact k_X11_isFollowed_310 (Q := Q) C v1 v2  _ hw (lv_sub hl [0, 1, 2] rfl) hP hS
def b_X11_isFollowed_248 (Q : Int32 → Mem → Prop) (v1 : Int32) (v2 : Int32) (v6 : Int32) (s1 : Int32) (s2 : Int32) (M : Mem) : Prop := (p_X11_logs s1 s2 M (fun M24 => (p_X11_at v1 4 M24 (fun r25 M25 => ((0 ≤ (lg_cmp ((4 : Int64) * (v6 : Int32).toInt64) (r25 : Int32).toInt64) → (b_X11_isFollowed_286 Q v1 v2 v1 6 0 M25)) ∧ (¬ 0 ≤ (lg_cmp ((4 : Int64) * (v6 : Int32).toInt64) (r25 : Int32).toInt64) → (p_X11_at v1 6 M25 (fun r32 M32 => (b_X11_isFollowed_286 Q v1 v2 v1 6 ((r32 + 1)) M32)))))))))
set_option maxRecDepth 100000 in
set_option maxHeartbeats 4000000 in
theorem k_X11_isFollowed_248 {p : Program} {l : Launch} {e : Env} {s : State} {m : MethodId} {args : Array Value} {below : List Frame} {meth : Method} {c : Code} {g : Geo} (C : CX g p s m args meth c cX11_isFollowed 10 (some .boolean) RX11) {Q : Int32 → Mem → Prop} (v1 : Int32) (v2 : Int32) (v6 : Int32) (s1 : Int32) (s2 : Int32) (M : Mem) (hw : b_X11_isFollowed_248 Q v1 v2 v6 s1 s2 M) {H : Heap} {locs : List Loc} {ls : Array Slot} (hl : lv_has ls 10 [(0, .ref (g.2.1 (138 + 0))), (1, .int v1), (2, .int v2), (6, .int v6)]) (hP : va_P g.1 clz (yw g M) H) (hS : va_S (Af 1 g) s.heap H locs) : W p l e ({ frames := 5, cells := 0, slots := 0, locals := 123 } : Room) s m args below meth c H locs 0 0 (MQ below (va_Qi (fun r M => Q r M ∧ narrow .boolean (.int r) = .int r) (PB g (yw g)) (Af 1 g)) args s 0 0 (Af 1 g)) (F0 m 248 ls [.int s2, .int s1, .ref (g.2.1 (138 + 0))]) := by
  unfold b_X11_isFollowed_248 at hw
  refine goV (wf := (yw g)) (runV (w := yw g M) (As := [.int s1, .int s2]) (rest := []) C lkX11_354 (c_X11_logs l g C.2.2.2.2.2.2.2.2.2.2 s1 s2  M _ hw) hP hS rfl rfl ⟨Nat.le_of_ble_eq_true rfl, Nat.le_of_ble_eq_true rfl⟩ (xx_40 Nat.zero_lt_one) rfl rfl hl.1 rfl (Nat.le_of_ble_eq_true rfl) dX11_isFollowed_248) hS (fun M24 hw H locs hP hS => ?_)
  refine lv_aload_n C.1 C.2.1 dX11_isFollowed_251 rfl (lv_at hl 0 rfl) ?_
  refine lv_iload_n C.1 C.2.1 dX11_isFollowed_252 rfl (lv_at hl 1 rfl) ?_
  refine lv_bipush (v := 6) C.1 C.2.1 dX11_isFollowed_253 (by decide) ?_
  refine lv_ldc2 (v := 4) C.1 C.2.1 C.2.2.2.2.1 (C.2.2.2.2.2.1 _ (bg_of 1797 (by decide +kernel) rfl)) dX11_isFollowed_255 ?_
  refine lv_iload C.1 C.2.1 dX11_isFollowed_258 (lv_at hl 3 rfl) ?_
  refine lv_i2l C.1 C.2.1 dX11_isFollowed_260 rfl ?_
  refine lv_lmul C.1 C.2.1 dX11_isFollowed_261 ?_
  refine lv_aload_n C.1 C.2.1 dX11_isFollowed_262 rfl (lv_at hl 0 rfl) ?_
  refine lv_iload_n C.1 C.2.1 dX11_isFollowed_263 rfl (lv_at hl 1 rfl) ?_
  refine lv_iconst (v := 4) C.1 C.2.1 dX11_isFollowed_264 (by decide) ?_
  refine goI (wf := (yw g)) (runV (w := yw g M24) (As := [.int v1, .int 4]) (rest := [.long ((4 : Int64) * (v6 : Int32).toInt64), .int 6, .int v1, .ref (g.2.1 (138 + 0))]) C lkX11_352 (c_X11_at l g C.2.2.2.2.2.2.2.2.2.2 v1 4  M24 _ hw) hP hS rfl rfl ⟨Nat.le_of_ble_eq_true rfl, Nat.le_of_ble_eq_true rfl⟩ (xx_40 Nat.zero_lt_one) rfl rfl hl.1 rfl (Nat.le_of_ble_eq_true rfl) dX11_isFollowed_265) hS (fun r25 M25 hw H locs hP hS => ?_)
  refine lv_i2l C.1 C.2.1 dX11_isFollowed_268 rfl ?_
  refine W.lcmp C.1 C.2.1 dX11_isFollowed_269 ?_
  refine lv_if_ge (tgt := 285) C.1 C.2.1 dX11_isFollowed_270 (by decide) (fun h26 => ?_) (fun h26 => ?_)
  · have hw := hw.1 h26
    refine lv_iconst (v := 0) C.1 C.2.1 dX11_isFollowed_285 (by decide) ?_
    exact k_X11_isFollowed_286 (Q := Q) C v1 v2 v1 6 0  _ hw (lv_sub hl [0, 1, 2] rfl) hP hS
  · have hw := hw.2 h26
    refine lv_aload_n C.1 C.2.1 dX11_isFollowed_273 rfl (lv_at hl 0 rfl) ?_
    refine lv_iload_n C.1 C.2.1 dX11_isFollowed_274 rfl (lv_at hl 1 rfl) ?_
    refine lv_bipush (v := 6) C.1 C.2.1 dX11_isFollowed_275 (by decide) ?_
    refine goI (wf := (yw g)) (runV (w := yw g M25) (As := [.int v1, .int 6]) (rest := [.int 6, .int v1, .ref (g.2.1 (138 + 0))]) C lkX11_352 (c_X11_at l g C.2.2.2.2.2.2.2.2.2.2 v1 6  M25 _ hw) hP hS rfl rfl ⟨Nat.le_of_ble_eq_true rfl, Nat.le_of_ble_eq_true rfl⟩ (xx_40 Nat.zero_lt_one) rfl rfl hl.1 rfl (Nat.le_of_ble_eq_true rfl) dX11_isFollowed_277) hS (fun r32 M32 hw H locs hP hS => ?_)
    refine lv_iconst (v := 1) C.1 C.2.1 dX11_isFollowed_280 (by decide) ?_
    refine lv_iadd C.1 C.2.1 dX11_isFollowed_281 ?_
    refine lv_goto (tgt := 286) C.1 C.2.1 dX11_isFollowed_282 (by decide) ?_
    exact k_X11_isFollowed_286 (Q := Q) C v1 v2 v1 6 ((r32 + 1))  _ hw (lv_sub hl [0, 1, 2] rfl) hP hS
def b_X11_isFollowed_236 (Q : Int32 → Mem → Prop) (v1 : Int32) (v2 : Int32) (v6 : Int32) (v7 : Int32) (M : Mem) : Prop := ((0 ≤ v7 → (b_X11_isFollowed_248 Q v1 v2 v6 v1 0 M)) ∧ (¬ 0 ≤ v7 → (b_X11_isFollowed_248 Q v1 v2 v6 v1 1 M)))
set_option maxRecDepth 100000 in
set_option maxHeartbeats 4000000 in
theorem k_X11_isFollowed_236 {p : Program} {l : Launch} {e : Env} {s : State} {m : MethodId} {args : Array Value} {below : List Frame} {meth : Method} {c : Code} {g : Geo} (C : CX g p s m args meth c cX11_isFollowed 10 (some .boolean) RX11) {Q : Int32 → Mem → Prop} (v1 : Int32) (v2 : Int32) (v6 : Int32) (v7 : Int32) (M : Mem) (hw : b_X11_isFollowed_236 Q v1 v2 v6 v7 M) {H : Heap} {locs : List Loc} {ls : Array Slot} (hl : lv_has ls 10 [(0, .ref (g.2.1 (138 + 0))), (1, .int v1), (2, .int v2), (6, .int v6), (7, .int v7)]) (hP : va_P g.1 clz (yw g M) H) (hS : va_S (Af 1 g) s.heap H locs) : W p l e ({ frames := 5, cells := 0, slots := 0, locals := 123 } : Room) s m args below meth c H locs 0 0 (MQ below (va_Qi (fun r M => Q r M ∧ narrow .boolean (.int r) = .int r) (PB g (yw g)) (Af 1 g)) args s 0 0 (Af 1 g)) (F0 m 236 ls []) := by
  unfold b_X11_isFollowed_236 at hw
  refine lv_aload_n C.1 C.2.1 dX11_isFollowed_236 rfl (lv_at hl 0 rfl) ?_
  refine lv_iload_n C.1 C.2.1 dX11_isFollowed_237 rfl (lv_at hl 1 rfl) ?_
  refine lv_iload C.1 C.2.1 dX11_isFollowed_238 (lv_at hl 4 rfl) ?_
  refine lv_if_ge (tgt := 247) C.1 C.2.1 dX11_isFollowed_240 (by decide) (fun h23 => ?_) (fun h23 => ?_)
  · have hw := hw.1 h23
    refine lv_iconst (v := 0) C.1 C.2.1 dX11_isFollowed_247 (by decide) ?_
    exact k_X11_isFollowed_248 (Q := Q) C v1 v2 v6 v1 0  _ hw (lv_sub hl [0, 1, 2, 3] rfl) hP hS
  · have hw := hw.2 h23
    refine lv_iconst (v := 1) C.1 C.2.1 dX11_isFollowed_243 (by decide) ?_
    refine lv_goto (tgt := 248) C.1 C.2.1 dX11_isFollowed_244 (by decide) ?_
    exact k_X11_isFollowed_248 (Q := Q) C v1 v2 v6 v1 1  _ hw (lv_sub hl [0, 1, 2, 3] rfl) hP hS
def b_X11_isFollowed_229 (Q : Int32 → Mem → Prop) (k236 : Int32 → Int32 → Int32 → Int32 → Mem → Prop) (v1 : Int32) (v2 : Int32) (v6 : Int32) (v7 : Int32) (s1 : Int32) (s2 : Int32) (s3 : Int32) (s4 : Int32) (M : Mem) : Prop := (p_X11_put s1 s2 (((s3 + s4) - (s3 + s4) / 16 * 16)) M (fun M35 => (k236 v1 v2 v6 v7 M35)))
set_option maxRecDepth 100000 in
set_option maxHeartbeats 4000000 in
theorem k_X11_isFollowed_229 {p : Program} {l : Launch} {e : Env} {s : State} {m : MethodId} {args : Array Value} {below : List Frame} {meth : Method} {c : Code} {g : Geo} (C : CX g p s m args meth c cX11_isFollowed 10 (some .boolean) RX11) {Q : Int32 → Mem → Prop} {k236 : Int32 → Int32 → Int32 → Int32 → Mem → Prop} (hk236 : ∀ (v1 : Int32) (v2 : Int32) (v6 : Int32) (v7 : Int32) (M : Mem), k236 v1 v2 v6 v7 M → ∀ (H : Heap) (locs : List Loc) (ls : Array Slot), lv_has ls 10 [(0, .ref (g.2.1 (138 + 0))), (1, .int v1), (2, .int v2), (6, .int v6), (7, .int v7)] → va_P g.1 clz (yw g M) H → va_S (Af 1 g) s.heap H locs → W p l e ({ frames := 5, cells := 0, slots := 0, locals := 123 } : Room) s m args below meth c H locs 0 0 (MQ below (va_Qi (fun r M => Q r M ∧ narrow .boolean (.int r) = .int r) (PB g (yw g)) (Af 1 g)) args s 0 0 (Af 1 g)) (F0 m 236 ls [])) (v1 : Int32) (v2 : Int32) (v6 : Int32) (v7 : Int32) (s1 : Int32) (s2 : Int32) (s3 : Int32) (s4 : Int32) (M : Mem) (hw : b_X11_isFollowed_229 Q k236 v1 v2 v6 v7 s1 s2 s3 s4 M) {H : Heap} {locs : List Loc} {ls : Array Slot} (hl : lv_has ls 10 [(0, .ref (g.2.1 (138 + 0))), (1, .int v1), (2, .int v2), (6, .int v6), (7, .int v7)]) (hP : va_P g.1 clz (yw g M) H) (hS : va_S (Af 1 g) s.heap H locs) : W p l e ({ frames := 5, cells := 0, slots := 0, locals := 123 } : Room) s m args below meth c H locs 0 0 (MQ below (va_Qi (fun r M => Q r M ∧ narrow .boolean (.int r) = .int r) (PB g (yw g)) (Af 1 g)) args s 0 0 (Af 1 g)) (F0 m 229 ls [.int s4, .int s3, .int s2, .int s1, .ref (g.2.1 (138 + 0))]) := by
  unfold b_X11_isFollowed_229 at hw
  refine lv_iadd C.1 C.2.1 dX11_isFollowed_229 ?_
  refine lv_bipush (v := 16) C.1 C.2.1 dX11_isFollowed_230 (by decide) ?_
  refine lv_irem C.1 C.2.1 dX11_isFollowed_232 (by decide) ?_
  refine goV (wf := (yw g)) (runV (w := yw g M) (As := [.int s1, .int s2, .int ((s3 + s4) - (s3 + s4) / 16 * 16)]) (rest := []) C lkX11_349 (c_X11_put l g C.2.2.2.2.2.2.2.2.2.2 s1 s2 (((s3 + s4) - (s3 + s4) / 16 * 16))  M _ hw) hP hS rfl rfl ⟨Nat.le_of_ble_eq_true rfl, Nat.le_of_ble_eq_true rfl⟩ (xx_40 Nat.zero_lt_one) rfl rfl hl.1 rfl (Nat.le_of_ble_eq_true rfl) dX11_isFollowed_233) hS (fun M35 hw H locs hP hS => ?_)
  exact hk236 v1 v2 v6 v7  _ hw _ _ _ (lv_sub hl [0, 1, 2, 3, 4] rfl) hP hS
def b_X11_isFollowed_206 (Q : Int32 → Mem → Prop) (v1 : Int32) (v2 : Int32) (v6 : Int32) (v7 : Int32) (v8 : Int32) (s0 : Int32) (s1 : Int32) (M : Mem) : Prop := ((s0 ≤ s1 → (b_X11_isFollowed_236 Q v1 v2 v6 v7 M)) ∧ (¬ s0 ≤ s1 → (p_X11_at v1 3 M (fun r33 M33 => ((v8 ≤ 0 → (b_X11_isFollowed_229 Q (fun v1 v2 v6 v7 M => b_X11_isFollowed_236 Q v1 v2 v6 v7 M) v1 v2 v6 v7 v1 3 r33 15 M33)) ∧ (¬ v8 ≤ 0 → (b_X11_isFollowed_229 Q (fun v1 v2 v6 v7 M => b_X11_isFollowed_236 Q v1 v2 v6 v7 M) v1 v2 v6 v7 v1 3 r33 1 M33)))))))
set_option maxRecDepth 100000 in
set_option maxHeartbeats 4000000 in
theorem k_X11_isFollowed_206 {p : Program} {l : Launch} {e : Env} {s : State} {m : MethodId} {args : Array Value} {below : List Frame} {meth : Method} {c : Code} {g : Geo} (C : CX g p s m args meth c cX11_isFollowed 10 (some .boolean) RX11) {Q : Int32 → Mem → Prop} (v1 : Int32) (v2 : Int32) (v6 : Int32) (v7 : Int32) (v8 : Int32) (s0 : Int32) (s1 : Int32) (M : Mem) (hw : b_X11_isFollowed_206 Q v1 v2 v6 v7 v8 s0 s1 M) {H : Heap} {locs : List Loc} {ls : Array Slot} (hl : lv_has ls 10 [(0, .ref (g.2.1 (138 + 0))), (1, .int v1), (2, .int v2), (6, .int v6), (7, .int v7), (8, .int v8)]) (hP : va_P g.1 clz (yw g M) H) (hS : va_S (Af 1 g) s.heap H locs) : W p l e ({ frames := 5, cells := 0, slots := 0, locals := 123 } : Room) s m args below meth c H locs 0 0 (MQ below (va_Qi (fun r M => Q r M ∧ narrow .boolean (.int r) = .int r) (PB g (yw g)) (Af 1 g)) args s 0 0 (Af 1 g)) (F0 m 206 ls [.int s1, .int s0]) := by
  unfold b_X11_isFollowed_206 at hw
  refine lv_icmp_le (tgt := 236) C.1 C.2.1 dX11_isFollowed_206 (by decide) (fun h22 => ?_) (fun h22 => ?_)
  · have hw := hw.1 h22
    exact k_X11_isFollowed_236 (Q := Q) C v1 v2 v6 v7  _ hw (lv_sub hl [0, 1, 2, 3, 4] rfl) hP hS
  · have hw := hw.2 h22
    refine lv_aload_n C.1 C.2.1 dX11_isFollowed_209 rfl (lv_at hl 0 rfl) ?_
    refine lv_iload_n C.1 C.2.1 dX11_isFollowed_210 rfl (lv_at hl 1 rfl) ?_
    refine lv_iconst (v := 3) C.1 C.2.1 dX11_isFollowed_211 (by decide) ?_
    refine lv_aload_n C.1 C.2.1 dX11_isFollowed_212 rfl (lv_at hl 0 rfl) ?_
    refine lv_iload_n C.1 C.2.1 dX11_isFollowed_213 rfl (lv_at hl 1 rfl) ?_
    refine lv_iconst (v := 3) C.1 C.2.1 dX11_isFollowed_214 (by decide) ?_
    refine goI (wf := (yw g)) (runV (w := yw g M) (As := [.int v1, .int 3]) (rest := [.int 3, .int v1, .ref (g.2.1 (138 + 0))]) C lkX11_352 (c_X11_at l g C.2.2.2.2.2.2.2.2.2.2 v1 3  M _ hw) hP hS rfl rfl ⟨Nat.le_of_ble_eq_true rfl, Nat.le_of_ble_eq_true rfl⟩ (xx_40 Nat.zero_lt_one) rfl rfl hl.1 rfl (Nat.le_of_ble_eq_true rfl) dX11_isFollowed_215) hS (fun r33 M33 hw H locs hP hS => ?_)
    refine lv_iload C.1 C.2.1 dX11_isFollowed_218 (lv_at hl 5 rfl) ?_
    refine lv_if_le (tgt := 227) C.1 C.2.1 dX11_isFollowed_220 (by decide) (fun h34 => ?_) (fun h34 => ?_)
    · have hw := hw.1 h34
      refine lv_bipush (v := 15) C.1 C.2.1 dX11_isFollowed_227 (by decide) ?_
      exact k_X11_isFollowed_229 (Q := Q) C (fun v1 v2 v6 v7  M hw H locs ls hl hP hS => k_X11_isFollowed_236 (Q := Q) C v1 v2 v6 v7  M hw hl hP hS) v1 v2 v6 v7 v1 3 r33 15  _ hw (lv_sub hl [0, 1, 2, 3, 4] rfl) hP hS
    · have hw := hw.2 h34
      refine lv_iconst (v := 1) C.1 C.2.1 dX11_isFollowed_223 (by decide) ?_
      refine lv_goto (tgt := 229) C.1 C.2.1 dX11_isFollowed_224 (by decide) ?_
      exact k_X11_isFollowed_229 (Q := Q) C (fun v1 v2 v6 v7  M hw H locs ls hl hP hS => k_X11_isFollowed_236 (Q := Q) C v1 v2 v6 v7  M hw hl hP hS) v1 v2 v6 v7 v1 3 r33 1  _ hw (lv_sub hl [0, 1, 2, 3, 4] rfl) hP hS
def b_X11_isFollowed_189 (Q : Int32 → Mem → Prop) (v1 : Int32) (v2 : Int32) (v6 : Int32) (v7 : Int32) (v8 : Int32) (s0 : Int32) (M : Mem) : Prop := ((0 ≤ v7 → (b_X11_isFollowed_206 Q v1 v2 v6 v7 v8 s0 v7 M)) ∧ (¬ 0 ≤ v7 → (b_X11_isFollowed_206 Q v1 v2 v6 v7 v8 s0 ((-v7)) M)))
set_option maxRecDepth 100000 in
set_option maxHeartbeats 4000000 in
theorem k_X11_isFollowed_189 {p : Program} {l : Launch} {e : Env} {s : State} {m : MethodId} {args : Array Value} {below : List Frame} {meth : Method} {c : Code} {g : Geo} (C : CX g p s m args meth c cX11_isFollowed 10 (some .boolean) RX11) {Q : Int32 → Mem → Prop} (v1 : Int32) (v2 : Int32) (v6 : Int32) (v7 : Int32) (v8 : Int32) (s0 : Int32) (M : Mem) (hw : b_X11_isFollowed_189 Q v1 v2 v6 v7 v8 s0 M) {H : Heap} {locs : List Loc} {ls : Array Slot} (hl : lv_has ls 10 [(0, .ref (g.2.1 (138 + 0))), (1, .int v1), (2, .int v2), (6, .int v6), (7, .int v7), (8, .int v8)]) (hP : va_P g.1 clz (yw g M) H) (hS : va_S (Af 1 g) s.heap H locs) : W p l e ({ frames := 5, cells := 0, slots := 0, locals := 123 } : Room) s m args below meth c H locs 0 0 (MQ below (va_Qi (fun r M => Q r M ∧ narrow .boolean (.int r) = .int r) (PB g (yw g)) (Af 1 g)) args s 0 0 (Af 1 g)) (F0 m 189 ls [.int s0]) := by
  unfold b_X11_isFollowed_189 at hw
  refine lv_istore (lv' := [(9, .int s0), (0, .ref (g.2.1 (138 + 0))), (1, .int v1), (2, .int v2), (6, .int v6), (7, .int v7), (8, .int v8)]) C.1 C.2.1 dX11_isFollowed_189 hl (by decide) rfl (fun ls hl => ?_)
  refine lv_iload C.1 C.2.1 dX11_isFollowed_191 (lv_at hl 0 rfl) ?_
  refine lv_iload C.1 C.2.1 dX11_isFollowed_193 (lv_at hl 5 rfl) ?_
  refine lv_if_ge (tgt := 204) C.1 C.2.1 dX11_isFollowed_195 (by decide) (fun h21 => ?_) (fun h21 => ?_)
  · have hw := hw.1 h21
    refine lv_iload C.1 C.2.1 dX11_isFollowed_204 (lv_at hl 5 rfl) ?_
    exact k_X11_isFollowed_206 (Q := Q) C v1 v2 v6 v7 v8 s0 v7  _ hw (lv_sub hl [1, 2, 3, 4, 5, 6] rfl) hP hS
  · have hw := hw.2 h21
    refine lv_iload C.1 C.2.1 dX11_isFollowed_198 (lv_at hl 5 rfl) ?_
    refine lv_ineg C.1 C.2.1 dX11_isFollowed_200 ?_
    refine lv_goto (tgt := 206) C.1 C.2.1 dX11_isFollowed_201 (by decide) ?_
    exact k_X11_isFollowed_206 (Q := Q) C v1 v2 v6 v7 v8 s0 ((-v7))  _ hw (lv_sub hl [1, 2, 3, 4, 5, 6] rfl) hP hS
def b_X11_isFollowed_172 (Q : Int32 → Mem → Prop) (v1 : Int32) (v2 : Int32) (v6 : Int32) (v7 : Int32) (v8 : Int32) (M : Mem) : Prop := ((0 ≤ v8 → (b_X11_isFollowed_189 Q v1 v2 v6 v7 v8 (((2 : Int32) * v8)) M)) ∧ (¬ 0 ≤ v8 → (b_X11_isFollowed_189 Q v1 v2 v6 v7 v8 ((((-2) : Int32) * v8)) M)))
set_option maxRecDepth 100000 in
set_option maxHeartbeats 4000000 in
theorem k_X11_isFollowed_172 {p : Program} {l : Launch} {e : Env} {s : State} {m : MethodId} {args : Array Value} {below : List Frame} {meth : Method} {c : Code} {g : Geo} (C : CX g p s m args meth c cX11_isFollowed 10 (some .boolean) RX11) {Q : Int32 → Mem → Prop} (v1 : Int32) (v2 : Int32) (v6 : Int32) (v7 : Int32) (v8 : Int32) (M : Mem) (hw : b_X11_isFollowed_172 Q v1 v2 v6 v7 v8 M) {H : Heap} {locs : List Loc} {ls : Array Slot} (hl : lv_has ls 10 [(0, .ref (g.2.1 (138 + 0))), (1, .int v1), (2, .int v2), (6, .int v6), (7, .int v7), (8, .int v8)]) (hP : va_P g.1 clz (yw g M) H) (hS : va_S (Af 1 g) s.heap H locs) : W p l e ({ frames := 5, cells := 0, slots := 0, locals := 123 } : Room) s m args below meth c H locs 0 0 (MQ below (va_Qi (fun r M => Q r M ∧ narrow .boolean (.int r) = .int r) (PB g (yw g)) (Af 1 g)) args s 0 0 (Af 1 g)) (F0 m 172 ls []) := by
  unfold b_X11_isFollowed_172 at hw
  refine lv_iload C.1 C.2.1 dX11_isFollowed_172 (lv_at hl 5 rfl) ?_
  refine lv_if_ge (tgt := 185) C.1 C.2.1 dX11_isFollowed_174 (by decide) (fun h20 => ?_) (fun h20 => ?_)
  · have hw := hw.1 h20
    refine lv_iconst (v := 2) C.1 C.2.1 dX11_isFollowed_185 (by decide) ?_
    refine lv_iload C.1 C.2.1 dX11_isFollowed_186 (lv_at hl 5 rfl) ?_
    refine lv_imul C.1 C.2.1 dX11_isFollowed_188 ?_
    exact k_X11_isFollowed_189 (Q := Q) C v1 v2 v6 v7 v8 (((2 : Int32) * v8))  _ hw (lv_sub hl [0, 1, 2, 3, 4, 5] rfl) hP hS
  · have hw := hw.2 h20
    refine lv_bipush (v := (-2)) C.1 C.2.1 dX11_isFollowed_177 (by decide) ?_
    refine lv_iload C.1 C.2.1 dX11_isFollowed_179 (lv_at hl 5 rfl) ?_
    refine lv_imul C.1 C.2.1 dX11_isFollowed_181 ?_
    refine lv_goto (tgt := 189) C.1 C.2.1 dX11_isFollowed_182 (by decide) ?_
    exact k_X11_isFollowed_189 (Q := Q) C v1 v2 v6 v7 v8 ((((-2) : Int32) * v8))  _ hw (lv_sub hl [0, 1, 2, 3, 4, 5] rfl) hP hS
def b_X11_isFollowed_164 (Q : Int32 → Mem → Prop) (k172 : Int32 → Int32 → Int32 → Int32 → Int32 → Mem → Prop) (v1 : Int32) (v2 : Int32) (v6 : Int32) (v7 : Int32) (v8 : Int32) (s1 : Int32) (s2 : Int32) (s3 : Int32) (s4 : Int32) (M : Mem) : Prop := (p_X11_put s1 s2 (((s3 + s4) - (s3 + s4) / 248 * 248)) M (fun M38 => (k172 v1 v2 v6 v7 v8 M38)))
set_option maxRecDepth 100000 in
set_option maxHeartbeats 4000000 in
theorem k_X11_isFollowed_164 {p : Program} {l : Launch} {e : Env} {s : State} {m : MethodId} {args : Array Value} {below : List Frame} {meth : Method} {c : Code} {g : Geo} (C : CX g p s m args meth c cX11_isFollowed 10 (some .boolean) RX11) {Q : Int32 → Mem → Prop} {k172 : Int32 → Int32 → Int32 → Int32 → Int32 → Mem → Prop} (hk172 : ∀ (v1 : Int32) (v2 : Int32) (v6 : Int32) (v7 : Int32) (v8 : Int32) (M : Mem), k172 v1 v2 v6 v7 v8 M → ∀ (H : Heap) (locs : List Loc) (ls : Array Slot), lv_has ls 10 [(0, .ref (g.2.1 (138 + 0))), (1, .int v1), (2, .int v2), (6, .int v6), (7, .int v7), (8, .int v8)] → va_P g.1 clz (yw g M) H → va_S (Af 1 g) s.heap H locs → W p l e ({ frames := 5, cells := 0, slots := 0, locals := 123 } : Room) s m args below meth c H locs 0 0 (MQ below (va_Qi (fun r M => Q r M ∧ narrow .boolean (.int r) = .int r) (PB g (yw g)) (Af 1 g)) args s 0 0 (Af 1 g)) (F0 m 172 ls [])) (v1 : Int32) (v2 : Int32) (v6 : Int32) (v7 : Int32) (v8 : Int32) (s1 : Int32) (s2 : Int32) (s3 : Int32) (s4 : Int32) (M : Mem) (hw : b_X11_isFollowed_164 Q k172 v1 v2 v6 v7 v8 s1 s2 s3 s4 M) {H : Heap} {locs : List Loc} {ls : Array Slot} (hl : lv_has ls 10 [(0, .ref (g.2.1 (138 + 0))), (1, .int v1), (2, .int v2), (6, .int v6), (7, .int v7), (8, .int v8)]) (hP : va_P g.1 clz (yw g M) H) (hS : va_S (Af 1 g) s.heap H locs) : W p l e ({ frames := 5, cells := 0, slots := 0, locals := 123 } : Room) s m args below meth c H locs 0 0 (MQ below (va_Qi (fun r M => Q r M ∧ narrow .boolean (.int r) = .int r) (PB g (yw g)) (Af 1 g)) args s 0 0 (Af 1 g)) (F0 m 164 ls [.int s4, .int s3, .int s2, .int s1, .ref (g.2.1 (138 + 0))]) := by
  unfold b_X11_isFollowed_164 at hw
  refine lv_iadd C.1 C.2.1 dX11_isFollowed_164 ?_
  refine lv_sipush (v := 248) C.1 C.2.1 dX11_isFollowed_165 (by decide) ?_
  refine lv_irem C.1 C.2.1 dX11_isFollowed_168 (by decide) ?_
  refine goV (wf := (yw g)) (runV (w := yw g M) (As := [.int s1, .int s2, .int ((s3 + s4) - (s3 + s4) / 248 * 248)]) (rest := []) C lkX11_349 (c_X11_put l g C.2.2.2.2.2.2.2.2.2.2 s1 s2 (((s3 + s4) - (s3 + s4) / 248 * 248))  M _ hw) hP hS rfl rfl ⟨Nat.le_of_ble_eq_true rfl, Nat.le_of_ble_eq_true rfl⟩ (xx_40 Nat.zero_lt_one) rfl rfl hl.1 rfl (Nat.le_of_ble_eq_true rfl) dX11_isFollowed_169) hS (fun M38 hw H locs hP hS => ?_)
  exact hk172 v1 v2 v6 v7 v8  _ hw _ _ _ (lv_sub hl [0, 1, 2, 3, 4, 5] rfl) hP hS
def b_X11_isFollowed_132 (Q : Int32 → Mem → Prop) (v1 : Int32) (v2 : Int32) (v4 : Int32) (v5 : Int32) (v6 : Int32) (v7 : Int32) (s0 : Int32) (M : Mem) : Prop := ((v4 = v5 → (b_X11_isFollowed_172 Q v1 v2 v6 v7 s0 M)) ∧ (¬ v4 = v5 → (p_X11_at v1 1 M (fun r36 M36 => ((v4 ≤ v5 → (b_X11_isFollowed_164 Q (fun v1 v2 v6 v7 v8 M => b_X11_isFollowed_172 Q v1 v2 v6 v7 v8 M) v1 v2 v6 v7 s0 v1 1 r36 1 M36)) ∧ (¬ v4 ≤ v5 → (b_X11_isFollowed_164 Q (fun v1 v2 v6 v7 v8 M => b_X11_isFollowed_172 Q v1 v2 v6 v7 v8 M) v1 v2 v6 v7 s0 v1 1 r36 247 M36)))))))
set_option maxRecDepth 100000 in
set_option maxHeartbeats 4000000 in
theorem k_X11_isFollowed_132 {p : Program} {l : Launch} {e : Env} {s : State} {m : MethodId} {args : Array Value} {below : List Frame} {meth : Method} {c : Code} {g : Geo} (C : CX g p s m args meth c cX11_isFollowed 10 (some .boolean) RX11) {Q : Int32 → Mem → Prop} (v1 : Int32) (v2 : Int32) (v4 : Int32) (v5 : Int32) (v6 : Int32) (v7 : Int32) (s0 : Int32) (M : Mem) (hw : b_X11_isFollowed_132 Q v1 v2 v4 v5 v6 v7 s0 M) {H : Heap} {locs : List Loc} {ls : Array Slot} (hl : lv_has ls 10 [(0, .ref (g.2.1 (138 + 0))), (1, .int v1), (2, .int v2), (4, .int v4), (5, .int v5), (6, .int v6), (7, .int v7)]) (hP : va_P g.1 clz (yw g M) H) (hS : va_S (Af 1 g) s.heap H locs) : W p l e ({ frames := 5, cells := 0, slots := 0, locals := 123 } : Room) s m args below meth c H locs 0 0 (MQ below (va_Qi (fun r M => Q r M ∧ narrow .boolean (.int r) = .int r) (PB g (yw g)) (Af 1 g)) args s 0 0 (Af 1 g)) (F0 m 132 ls [.int s0]) := by
  unfold b_X11_isFollowed_132 at hw
  refine lv_istore (lv' := [(8, .int s0), (0, .ref (g.2.1 (138 + 0))), (1, .int v1), (2, .int v2), (4, .int v4), (5, .int v5), (6, .int v6), (7, .int v7)]) C.1 C.2.1 dX11_isFollowed_132 hl (by decide) rfl (fun ls hl => ?_)
  refine lv_iload C.1 C.2.1 dX11_isFollowed_134 (lv_at hl 4 rfl) ?_
  refine lv_iload C.1 C.2.1 dX11_isFollowed_136 (lv_at hl 5 rfl) ?_
  refine lv_icmp_eq (tgt := 172) C.1 C.2.1 dX11_isFollowed_138 (by decide) (fun h19 => ?_) (fun h19 => ?_)
  · have hw := hw.1 h19
    exact k_X11_isFollowed_172 (Q := Q) C v1 v2 v6 v7 s0  _ hw (lv_sub hl [1, 2, 3, 6, 7, 0] rfl) hP hS
  · have hw := hw.2 h19
    refine lv_aload_n C.1 C.2.1 dX11_isFollowed_141 rfl (lv_at hl 1 rfl) ?_
    refine lv_iload_n C.1 C.2.1 dX11_isFollowed_142 rfl (lv_at hl 2 rfl) ?_
    refine lv_iconst (v := 1) C.1 C.2.1 dX11_isFollowed_143 (by decide) ?_
    refine lv_aload_n C.1 C.2.1 dX11_isFollowed_144 rfl (lv_at hl 1 rfl) ?_
    refine lv_iload_n C.1 C.2.1 dX11_isFollowed_145 rfl (lv_at hl 2 rfl) ?_
    refine lv_iconst (v := 1) C.1 C.2.1 dX11_isFollowed_146 (by decide) ?_
    refine goI (wf := (yw g)) (runV (w := yw g M) (As := [.int v1, .int 1]) (rest := [.int 1, .int v1, .ref (g.2.1 (138 + 0))]) C lkX11_352 (c_X11_at l g C.2.2.2.2.2.2.2.2.2.2 v1 1  M _ hw) hP hS rfl rfl ⟨Nat.le_of_ble_eq_true rfl, Nat.le_of_ble_eq_true rfl⟩ (xx_40 Nat.zero_lt_one) rfl rfl hl.1 rfl (Nat.le_of_ble_eq_true rfl) dX11_isFollowed_147) hS (fun r36 M36 hw H locs hP hS => ?_)
    refine lv_iload C.1 C.2.1 dX11_isFollowed_150 (lv_at hl 4 rfl) ?_
    refine lv_iload C.1 C.2.1 dX11_isFollowed_152 (lv_at hl 5 rfl) ?_
    refine lv_icmp_le (tgt := 163) C.1 C.2.1 dX11_isFollowed_154 (by decide) (fun h37 => ?_) (fun h37 => ?_)
    · have hw := hw.1 h37
      refine lv_iconst (v := 1) C.1 C.2.1 dX11_isFollowed_163 (by decide) ?_
      exact k_X11_isFollowed_164 (Q := Q) C (fun v1 v2 v6 v7 v8  M hw H locs ls hl hP hS => k_X11_isFollowed_172 (Q := Q) C v1 v2 v6 v7 v8  M hw hl hP hS) v1 v2 v6 v7 s0 v1 1 r36 1  _ hw (lv_sub hl [1, 2, 3, 6, 7, 0] rfl) hP hS
    · have hw := hw.2 h37
      refine lv_sipush (v := 247) C.1 C.2.1 dX11_isFollowed_157 (by decide) ?_
      refine lv_goto (tgt := 164) C.1 C.2.1 dX11_isFollowed_160 (by decide) ?_
      exact k_X11_isFollowed_164 (Q := Q) C (fun v1 v2 v6 v7 v8  M hw H locs ls hl hP hS => k_X11_isFollowed_172 (Q := Q) C v1 v2 v6 v7 v8  M hw hl hP hS) v1 v2 v6 v7 s0 v1 1 r36 247  _ hw (lv_sub hl [1, 2, 3, 6, 7, 0] rfl) hP hS
def p_X11_isFollowed (a1 : Int32) (M : Mem) (Q : Int32 → Mem → Prop) : Prop := (p_X11_at a1 5 M (fun r1 M1 => (p_X11_at a1 7 M1 (fun r2 M2 => ((0 < r2 → (Q 0 M2)) ∧ (¬ 0 < r2 → ((¬ r1 = 200 → (p_X11_laySamples r1 M2 (fun M5 => (p_X11_at a1 2 M5 (fun r6 M6 => (p_X11_at a1 3 M6 (fun r7 M7 => (p_X11_turnsBack r1 r6 r7 M7 (fun M8 => (p_X11_at a1 1 M8 (fun r9 M9 => (∀ x10 : Int32, x10 = (r9 / 4) → (p_X11_at a1 0 M9 (fun r11 M11 => (p_X11_powerBy r11 (((x10 + 61) - (x10 + 61) / 62 * 62)) M11 (fun r12 M12 => (p_X11_at a1 0 M12 (fun r13 M13 => (p_X11_powerBy r13 (((x10 + 1) - (x10 + 1) / 62 * 62)) M13 (fun r14 M14 => (p_X11_at a1 0 M14 (fun r15 M15 => (p_X11_powerBy r15 x10 M15 (fun r16 M16 => (∀ x17 : Int32, x17 = (M16.1 40 0 29) → ((0 ≤ (M16.1 40 0 29) → (b_X11_isFollowed_132 Q a1 r1 r12 r14 r16 x17 ((M16.1 40 0 30)) M16)) ∧ (¬ 0 ≤ (M16.1 40 0 29) → (b_X11_isFollowed_132 Q a1 r1 r12 r14 r16 x17 ((-(M16.1 40 0 30))) M16)))))))))))))))))))))))))))) ∧ (r1 = 200 → (Q 0 M2)))))))))
set_option maxRecDepth 100000 in
set_option maxHeartbeats 4000000 in
theorem c_X11_isFollowed (l : Launch) (g : Geo) (gi : GI g) (a1 : Int32) (M : Mem) (Q : Int32 → Mem → Prop) (hw : p_X11_isFollowed a1 M Q) : Met l yX11_isFollowed (Cond.code yX11_isFollowed cX11_isFollowed 10 (some .boolean) :: bg) ({ frames := 5, cells := 0, slots := 0, locals := 123 } : Room) (va_Pc [.ref (g.2.1 (138 + 0)), .int a1] (PW g (yw g M))) (va_Qi (fun r M => Q r M ∧ narrow .boolean (.int r) = .int r) (PB g (yw g)) (Af 1 g)) 0 0 (Af 1 g) := by
  refine Met.ofW (cc := cX11_isFollowed) (maxL := 10) (ret := (some .boolean)) (by decide +kernel) rfl ?_
  intro p e s m args below meth c s₁ B hml hv
  obtain ⟨rfl, hv⟩ := hv
  have C := CX.start (own := RX11) B hml rfl gi hv
  have hP := hv.1
  have hS : va_S (Af 1 g) s.heap s.heap [] := va_S.rf
  have hl := lv_entry ([.ref (g.2.1 (138 + 0)), .int a1]) (n := 10) (Nat.le_of_ble_eq_true rfl)
  rw [lg_entry_eq]
  generalize (lg_sl ([.ref (g.2.1 (138 + 0)), .int a1]) ++ List.replicate (10 - (lg_sl ([.ref (g.2.1 (138 + 0)), .int a1])).length) Slot.unset).toArray = ls at hl ⊢
  have hl : lv_has ls 10 [(0, .ref (g.2.1 (138 + 0))), (1, .int a1)] := hl
  unfold p_X11_isFollowed at hw
  refine lv_aload_n C.1 C.2.1 dX11_isFollowed_0 rfl (lv_at hl 0 rfl) ?_
  refine lv_iload_n C.1 C.2.1 dX11_isFollowed_1 rfl (lv_at hl 1 rfl) ?_
  refine lv_iconst (v := 5) C.1 C.2.1 dX11_isFollowed_2 (by decide) ?_
  refine goI (wf := (yw g)) (runV (w := yw g M) (As := [.int a1, .int 5]) (rest := []) C lkX11_352 (c_X11_at l g C.2.2.2.2.2.2.2.2.2.2 a1 5  M _ hw) hP hS rfl rfl ⟨Nat.le_of_ble_eq_true rfl, Nat.le_of_ble_eq_true rfl⟩ (xx_40 Nat.zero_lt_one) rfl rfl hl.1 rfl (Nat.le_of_ble_eq_true rfl) dX11_isFollowed_3) hS (fun r1 M1 hw H locs hP hS => ?_)
  refine lv_istore_n (lv' := [(2, .int r1), (0, .ref (g.2.1 (138 + 0))), (1, .int a1)]) C.1 C.2.1 dX11_isFollowed_6 rfl hl (by decide) rfl (fun ls hl => ?_)
  refine lv_aload_n C.1 C.2.1 dX11_isFollowed_7 rfl (lv_at hl 1 rfl) ?_
  refine lv_iload_n C.1 C.2.1 dX11_isFollowed_8 rfl (lv_at hl 2 rfl) ?_
  refine lv_bipush (v := 7) C.1 C.2.1 dX11_isFollowed_9 (by decide) ?_
  refine goI (wf := (yw g)) (runV (w := yw g M1) (As := [.int a1, .int 7]) (rest := []) C lkX11_352 (c_X11_at l g C.2.2.2.2.2.2.2.2.2.2 a1 7  M1 _ hw) hP hS rfl rfl ⟨Nat.le_of_ble_eq_true rfl, Nat.le_of_ble_eq_true rfl⟩ (xx_40 Nat.zero_lt_one) rfl rfl hl.1 rfl (Nat.le_of_ble_eq_true rfl) dX11_isFollowed_11) hS (fun r2 M2 hw H locs hP hS => ?_)
  refine lv_if_gt (tgt := 24) C.1 C.2.1 dX11_isFollowed_14 (by decide) (fun h3 => ?_) (fun h3 => ?_)
  · have hw := hw.1 h3
    refine lv_iconst (v := 0) C.1 C.2.1 dX11_isFollowed_24 (by decide) ?_
    exact retZ (wf := (yw g)) C hP hS rfl hw dX11_isFollowed_25
  · have hw := hw.2 h3
    refine lv_iload_n C.1 C.2.1 dX11_isFollowed_17 rfl (lv_at hl 0 rfl) ?_
    refine lv_sipush (v := 200) C.1 C.2.1 dX11_isFollowed_18 (by decide) ?_
    refine lv_icmp_ne (tgt := 26) C.1 C.2.1 dX11_isFollowed_21 (by decide) (fun h4 => ?_) (fun h4 => ?_)
    · have hw := hw.1 h4
      refine lv_aload_n C.1 C.2.1 dX11_isFollowed_26 rfl (lv_at hl 1 rfl) ?_
      refine lv_iload_n C.1 C.2.1 dX11_isFollowed_27 rfl (lv_at hl 0 rfl) ?_
      refine goV (wf := (yw g)) (runV (w := yw g M2) (As := [.int r1]) (rest := []) C lkX11_289 (c_X11_laySamples l g C.2.2.2.2.2.2.2.2.2.2 r1  M2 _ hw) hP hS rfl rfl ⟨Nat.le_of_ble_eq_true rfl, Nat.le_of_ble_eq_true rfl⟩ (xx_40 Nat.zero_lt_one) rfl rfl hl.1 rfl (Nat.le_of_ble_eq_true rfl) dX11_isFollowed_28) hS (fun M5 hw H locs hP hS => ?_)
      refine lv_aload_n C.1 C.2.1 dX11_isFollowed_31 rfl (lv_at hl 1 rfl) ?_
      refine lv_iload_n C.1 C.2.1 dX11_isFollowed_32 rfl (lv_at hl 0 rfl) ?_
      refine lv_aload_n C.1 C.2.1 dX11_isFollowed_33 rfl (lv_at hl 1 rfl) ?_
      refine lv_iload_n C.1 C.2.1 dX11_isFollowed_34 rfl (lv_at hl 2 rfl) ?_
      refine lv_iconst (v := 2) C.1 C.2.1 dX11_isFollowed_35 (by decide) ?_
      refine goI (wf := (yw g)) (runV (w := yw g M5) (As := [.int a1, .int 2]) (rest := [.int r1, .ref (g.2.1 (138 + 0))]) C lkX11_352 (c_X11_at l g C.2.2.2.2.2.2.2.2.2.2 a1 2  M5 _ hw) hP hS rfl rfl ⟨Nat.le_of_ble_eq_true rfl, Nat.le_of_ble_eq_true rfl⟩ (xx_40 Nat.zero_lt_one) rfl rfl hl.1 rfl (Nat.le_of_ble_eq_true rfl) dX11_isFollowed_36) hS (fun r6 M6 hw H locs hP hS => ?_)
      refine lv_aload_n C.1 C.2.1 dX11_isFollowed_39 rfl (lv_at hl 1 rfl) ?_
      refine lv_iload_n C.1 C.2.1 dX11_isFollowed_40 rfl (lv_at hl 2 rfl) ?_
      refine lv_iconst (v := 3) C.1 C.2.1 dX11_isFollowed_41 (by decide) ?_
      refine goI (wf := (yw g)) (runV (w := yw g M6) (As := [.int a1, .int 3]) (rest := [.int r6, .int r1, .ref (g.2.1 (138 + 0))]) C lkX11_352 (c_X11_at l g C.2.2.2.2.2.2.2.2.2.2 a1 3  M6 _ hw) hP hS rfl rfl ⟨Nat.le_of_ble_eq_true rfl, Nat.le_of_ble_eq_true rfl⟩ (xx_40 Nat.zero_lt_one) rfl rfl hl.1 rfl (Nat.le_of_ble_eq_true rfl) dX11_isFollowed_42) hS (fun r7 M7 hw H locs hP hS => ?_)
      refine goV (wf := (yw g)) (runV (w := yw g M7) (As := [.int r1, .int r6, .int r7]) (rest := []) C lkX11_299 (c_X11_turnsBack l g C.2.2.2.2.2.2.2.2.2.2 r1 r6 r7  M7 _ hw) hP hS rfl rfl ⟨Nat.le_of_ble_eq_true rfl, Nat.le_of_ble_eq_true rfl⟩ (xx_40 Nat.zero_lt_one) rfl rfl hl.1 rfl (Nat.le_of_ble_eq_true rfl) dX11_isFollowed_45) hS (fun M8 hw H locs hP hS => ?_)
      refine lv_aload_n C.1 C.2.1 dX11_isFollowed_48 rfl (lv_at hl 1 rfl) ?_
      refine lv_iload_n C.1 C.2.1 dX11_isFollowed_49 rfl (lv_at hl 2 rfl) ?_
      refine lv_iconst (v := 1) C.1 C.2.1 dX11_isFollowed_50 (by decide) ?_
      refine goI (wf := (yw g)) (runV (w := yw g M8) (As := [.int a1, .int 1]) (rest := []) C lkX11_352 (c_X11_at l g C.2.2.2.2.2.2.2.2.2.2 a1 1  M8 _ hw) hP hS rfl rfl ⟨Nat.le_of_ble_eq_true rfl, Nat.le_of_ble_eq_true rfl⟩ (xx_40 Nat.zero_lt_one) rfl rfl hl.1 rfl (Nat.le_of_ble_eq_true rfl) dX11_isFollowed_51) hS (fun r9 M9 hw H locs hP hS => ?_)
      refine lv_iconst (v := 4) C.1 C.2.1 dX11_isFollowed_54 (by decide) ?_
      refine lv_idiv C.1 C.2.1 dX11_isFollowed_55 (by decide) ?_
      refine lv_topi (fun x10 e10 => ?_)
      have hw := hw x10 e10
      refine lv_istore_n (lv' := [(3, .int x10), (2, .int r1), (0, .ref (g.2.1 (138 + 0))), (1, .int a1)]) C.1 C.2.1 dX11_isFollowed_56 rfl hl (by decide) rfl (fun ls hl => ?_)
      refine lv_aload_n C.1 C.2.1 dX11_isFollowed_57 rfl (lv_at hl 2 rfl) ?_
      refine lv_aload_n C.1 C.2.1 dX11_isFollowed_58 rfl (lv_at hl 2 rfl) ?_
      refine lv_iload_n C.1 C.2.1 dX11_isFollowed_59 rfl (lv_at hl 3 rfl) ?_
      refine lv_iconst (v := 0) C.1 C.2.1 dX11_isFollowed_60 (by decide) ?_
      refine goI (wf := (yw g)) (runV (w := yw g M9) (As := [.int a1, .int 0]) (rest := [.ref (g.2.1 (138 + 0))]) C lkX11_352 (c_X11_at l g C.2.2.2.2.2.2.2.2.2.2 a1 0  M9 _ hw) hP hS rfl rfl ⟨Nat.le_of_ble_eq_true rfl, Nat.le_of_ble_eq_true rfl⟩ (xx_40 Nat.zero_lt_one) rfl rfl hl.1 rfl (Nat.le_of_ble_eq_true rfl) dX11_isFollowed_61) hS (fun r11 M11 hw H locs hP hS => ?_)
      refine lv_iload_n C.1 C.2.1 dX11_isFollowed_64 rfl (lv_at hl 0 rfl) ?_
      refine lv_bipush (v := 61) C.1 C.2.1 dX11_isFollowed_65 (by decide) ?_
      refine lv_iadd C.1 C.2.1 dX11_isFollowed_67 ?_
      refine lv_bipush (v := 62) C.1 C.2.1 dX11_isFollowed_68 (by decide) ?_
      refine lv_irem C.1 C.2.1 dX11_isFollowed_70 (by decide) ?_
      refine goI (wf := (yw g)) (runV (w := yw g M11) (As := [.int r11, .int ((x10 + 61) - (x10 + 61) / 62 * 62)]) (rest := []) C lkX11_302 (c_X11_powerBy l g C.2.2.2.2.2.2.2.2.2.2 r11 (((x10 + 61) - (x10 + 61) / 62 * 62))  M11 _ hw) hP hS rfl rfl ⟨Nat.le_of_ble_eq_true rfl, Nat.le_of_ble_eq_true rfl⟩ (xx_40 Nat.zero_lt_one) rfl rfl hl.1 rfl (Nat.le_of_ble_eq_true rfl) dX11_isFollowed_71) hS (fun r12 M12 hw H locs hP hS => ?_)
      refine lv_istore (lv' := [(4, .int r12), (3, .int x10), (2, .int r1), (0, .ref (g.2.1 (138 + 0))), (1, .int a1)]) C.1 C.2.1 dX11_isFollowed_74 hl (by decide) rfl (fun ls hl => ?_)
      refine lv_aload_n C.1 C.2.1 dX11_isFollowed_76 rfl (lv_at hl 3 rfl) ?_
      refine lv_aload_n C.1 C.2.1 dX11_isFollowed_77 rfl (lv_at hl 3 rfl) ?_
      refine lv_iload_n C.1 C.2.1 dX11_isFollowed_78 rfl (lv_at hl 4 rfl) ?_
      refine lv_iconst (v := 0) C.1 C.2.1 dX11_isFollowed_79 (by decide) ?_
      refine goI (wf := (yw g)) (runV (w := yw g M12) (As := [.int a1, .int 0]) (rest := [.ref (g.2.1 (138 + 0))]) C lkX11_352 (c_X11_at l g C.2.2.2.2.2.2.2.2.2.2 a1 0  M12 _ hw) hP hS rfl rfl ⟨Nat.le_of_ble_eq_true rfl, Nat.le_of_ble_eq_true rfl⟩ (xx_40 Nat.zero_lt_one) rfl rfl hl.1 rfl (Nat.le_of_ble_eq_true rfl) dX11_isFollowed_80) hS (fun r13 M13 hw H locs hP hS => ?_)
      refine lv_iload_n C.1 C.2.1 dX11_isFollowed_83 rfl (lv_at hl 1 rfl) ?_
      refine lv_iconst (v := 1) C.1 C.2.1 dX11_isFollowed_84 (by decide) ?_
      refine lv_iadd C.1 C.2.1 dX11_isFollowed_85 ?_
      refine lv_bipush (v := 62) C.1 C.2.1 dX11_isFollowed_86 (by decide) ?_
      refine lv_irem C.1 C.2.1 dX11_isFollowed_88 (by decide) ?_
      refine goI (wf := (yw g)) (runV (w := yw g M13) (As := [.int r13, .int ((x10 + 1) - (x10 + 1) / 62 * 62)]) (rest := []) C lkX11_302 (c_X11_powerBy l g C.2.2.2.2.2.2.2.2.2.2 r13 (((x10 + 1) - (x10 + 1) / 62 * 62))  M13 _ hw) hP hS rfl rfl ⟨Nat.le_of_ble_eq_true rfl, Nat.le_of_ble_eq_true rfl⟩ (xx_40 Nat.zero_lt_one) rfl rfl hl.1 rfl (Nat.le_of_ble_eq_true rfl) dX11_isFollowed_89) hS (fun r14 M14 hw H locs hP hS => ?_)
      refine lv_istore (lv' := [(5, .int r14), (4, .int r12), (3, .int x10), (2, .int r1), (0, .ref (g.2.1 (138 + 0))), (1, .int a1)]) C.1 C.2.1 dX11_isFollowed_92 hl (by decide) rfl (fun ls hl => ?_)
      refine lv_aload_n C.1 C.2.1 dX11_isFollowed_94 rfl (lv_at hl 4 rfl) ?_
      refine lv_aload_n C.1 C.2.1 dX11_isFollowed_95 rfl (lv_at hl 4 rfl) ?_
      refine lv_iload_n C.1 C.2.1 dX11_isFollowed_96 rfl (lv_at hl 5 rfl) ?_
      refine lv_iconst (v := 0) C.1 C.2.1 dX11_isFollowed_97 (by decide) ?_
      refine goI (wf := (yw g)) (runV (w := yw g M14) (As := [.int a1, .int 0]) (rest := [.ref (g.2.1 (138 + 0))]) C lkX11_352 (c_X11_at l g C.2.2.2.2.2.2.2.2.2.2 a1 0  M14 _ hw) hP hS rfl rfl ⟨Nat.le_of_ble_eq_true rfl, Nat.le_of_ble_eq_true rfl⟩ (xx_40 Nat.zero_lt_one) rfl rfl hl.1 rfl (Nat.le_of_ble_eq_true rfl) dX11_isFollowed_98) hS (fun r15 M15 hw H locs hP hS => ?_)
      refine lv_iload_n C.1 C.2.1 dX11_isFollowed_101 rfl (lv_at hl 2 rfl) ?_
      refine goI (wf := (yw g)) (runV (w := yw g M15) (As := [.int r15, .int x10]) (rest := []) C lkX11_302 (c_X11_powerBy l g C.2.2.2.2.2.2.2.2.2.2 r15 x10  M15 _ hw) hP hS rfl rfl ⟨Nat.le_of_ble_eq_true rfl, Nat.le_of_ble_eq_true rfl⟩ (xx_40 Nat.zero_lt_one) rfl rfl hl.1 rfl (Nat.le_of_ble_eq_true rfl) dX11_isFollowed_102) hS (fun r16 M16 hw H locs hP hS => ?_)
      refine lv_istore (lv' := [(6, .int r16), (5, .int r14), (4, .int r12), (3, .int x10), (2, .int r1), (0, .ref (g.2.1 (138 + 0))), (1, .int a1)]) C.1 C.2.1 dX11_isFollowed_105 hl (by decide) rfl (fun ls hl => ?_)
      refine lv_aload_n C.1 C.2.1 dX11_isFollowed_107 rfl (lv_at hl 5 rfl) ?_
      refine gX11_293 C hP Nat.zero_lt_one dX11_isFollowed_108 ?_
      refine lv_topi (fun x17 e17 => ?_)
      have hw := hw x17 e17
      refine lv_istore (lv' := [(7, .int x17), (6, .int r16), (5, .int r14), (4, .int r12), (3, .int x10), (2, .int r1), (0, .ref (g.2.1 (138 + 0))), (1, .int a1)]) C.1 C.2.1 dX11_isFollowed_111 hl (by decide) rfl (fun ls hl => ?_)
      refine lv_aload_n C.1 C.2.1 dX11_isFollowed_113 rfl (lv_at hl 6 rfl) ?_
      refine gX11_293 C hP Nat.zero_lt_one dX11_isFollowed_114 ?_
      refine lv_if_ge (tgt := 128) C.1 C.2.1 dX11_isFollowed_117 (by decide) (fun h18 => ?_) (fun h18 => ?_)
      · have hw := hw.1 h18
        refine lv_aload_n C.1 C.2.1 dX11_isFollowed_128 rfl (lv_at hl 6 rfl) ?_
        refine gX11_296 C hP Nat.zero_lt_one dX11_isFollowed_129 ?_
        exact k_X11_isFollowed_132 (Q := Q) C a1 r1 r12 r14 r16 x17 ((M16.1 40 0 30))  _ hw (lv_sub hl [6, 7, 5, 3, 2, 1, 0] rfl) hP hS
      · have hw := hw.2 h18
        refine lv_aload_n C.1 C.2.1 dX11_isFollowed_120 rfl (lv_at hl 6 rfl) ?_
        refine gX11_296 C hP Nat.zero_lt_one dX11_isFollowed_121 ?_
        refine lv_ineg C.1 C.2.1 dX11_isFollowed_124 ?_
        refine lv_goto (tgt := 132) C.1 C.2.1 dX11_isFollowed_125 (by decide) ?_
        exact k_X11_isFollowed_132 (Q := Q) C a1 r1 r12 r14 r16 x17 ((-(M16.1 40 0 30)))  _ hw (lv_sub hl [6, 7, 5, 3, 2, 1, 0] rfl) hP hS
    · have hw := hw.2 h4
      refine lv_iconst (v := 0) C.1 C.2.1 dX11_isFollowed_24 (by decide) ?_
      exact retZ (wf := (yw g)) C hP hS rfl hw dX11_isFollowed_25
def b_X11_followed_46 (Q : Int32 → Mem → Prop) (k4 : Int32 → Int32 → Int32 → Mem → Prop) (v1 : Int32) (v2 : Int32) (v3 : Int32) (M : Mem) : Prop := (∀ x4 : Int32, x4 = (v3 + 1) → (k4 v1 v2 x4 M))
set_option maxRecDepth 100000 in
set_option maxHeartbeats 4000000 in
theorem k_X11_followed_46 {p : Program} {l : Launch} {e : Env} {s : State} {m : MethodId} {args : Array Value} {below : List Frame} {meth : Method} {c : Code} {g : Geo} (C : CX g p s m args meth c cX11_followed 5 (some .int) RX11) {Q : Int32 → Mem → Prop} {k4 : Int32 → Int32 → Int32 → Mem → Prop} (hk4 : ∀ (v1 : Int32) (v2 : Int32) (v3 : Int32) (M : Mem), k4 v1 v2 v3 M → ∀ (H : Heap) (locs : List Loc) (ls : Array Slot), lv_has ls 5 [(0, .ref (g.2.1 (138 + 0))), (1, .int v1), (2, .int v2), (3, .int v3)] → va_P g.1 clz (yw g M) H → va_S (Af 1 g) s.heap H locs → W p l e ({ frames := 6, cells := 0, slots := 0, locals := 152 } : Room) s m args below meth c H locs 0 0 (MQ below (va_Qi Q (PB g (yw g)) (Af 1 g)) args s 0 0 (Af 1 g)) (F0 m 4 ls [])) (v1 : Int32) (v2 : Int32) (v3 : Int32) (M : Mem) (hw : b_X11_followed_46 Q k4 v1 v2 v3 M) {H : Heap} {locs : List Loc} {ls : Array Slot} (hl : lv_has ls 5 [(0, .ref (g.2.1 (138 + 0))), (1, .int v1), (2, .int v2), (3, .int v3)]) (hP : va_P g.1 clz (yw g M) H) (hS : va_S (Af 1 g) s.heap H locs) : W p l e ({ frames := 6, cells := 0, slots := 0, locals := 152 } : Room) s m args below meth c H locs 0 0 (MQ below (va_Qi Q (PB g (yw g)) (Af 1 g)) args s 0 0 (Af 1 g)) (F0 m 46 ls []) := by
  unfold b_X11_followed_46 at hw
  obtain ⟨x4, e4⟩ : ∃ y : Int32, y = (v3 + 1) := ⟨_, rfl⟩
  have hw := hw x4 e4
  refine lv_iinc (v := x4) (lv' := [(3, .int x4), (0, .ref (g.2.1 (138 + 0))), (1, .int v1), (2, .int v2)]) C.1 C.2.1 dX11_followed_46 hl (k := 3) rfl (by rw [e4]; rfl) (by decide) rfl (fun ls hl => ?_)
  refine lv_goto (tgt := 4) C.1 C.2.1 dX11_followed_49 (by decide) ?_
  exact hk4 v1 v2 x4  _ hw _ _ _ (lv_sub hl [1, 2, 3, 0] rfl) hP hS
def b_X11_followed_38 (Q : Int32 → Mem → Prop) (k18 : Int32 → Int32 → Int32 → Int32 → Mem → Prop) (v1 : Int32) (v3 : Int32) (v4 : Int32) (s0 : Int32) (s1 : Int32) (M : Mem) : Prop := (∀ x7 : Int32, x7 = (s0 + s1) → (∀ x8 : Int32, x8 = (v4 + 1) → (k18 v1 x7 v3 x8 M)))
set_option maxRecDepth 100000 in
set_option maxHeartbeats 4000000 in
theorem k_X11_followed_38 {p : Program} {l : Launch} {e : Env} {s : State} {m : MethodId} {args : Array Value} {below : List Frame} {meth : Method} {c : Code} {g : Geo} (C : CX g p s m args meth c cX11_followed 5 (some .int) RX11) {Q : Int32 → Mem → Prop} {k18 : Int32 → Int32 → Int32 → Int32 → Mem → Prop} (hk18 : ∀ (v1 : Int32) (v2 : Int32) (v3 : Int32) (v4 : Int32) (M : Mem), k18 v1 v2 v3 v4 M → ∀ (H : Heap) (locs : List Loc) (ls : Array Slot), lv_has ls 5 [(0, .ref (g.2.1 (138 + 0))), (1, .int v1), (2, .int v2), (3, .int v3), (4, .int v4)] → va_P g.1 clz (yw g M) H → va_S (Af 1 g) s.heap H locs → W p l e ({ frames := 6, cells := 0, slots := 0, locals := 152 } : Room) s m args below meth c H locs 0 0 (MQ below (va_Qi Q (PB g (yw g)) (Af 1 g)) args s 0 0 (Af 1 g)) (F0 m 18 ls [])) (v1 : Int32) (v3 : Int32) (v4 : Int32) (s0 : Int32) (s1 : Int32) (M : Mem) (hw : b_X11_followed_38 Q k18 v1 v3 v4 s0 s1 M) {H : Heap} {locs : List Loc} {ls : Array Slot} (hl : lv_has ls 5 [(0, .ref (g.2.1 (138 + 0))), (1, .int v1), (3, .int v3), (4, .int v4)]) (hP : va_P g.1 clz (yw g M) H) (hS : va_S (Af 1 g) s.heap H locs) : W p l e ({ frames := 6, cells := 0, slots := 0, locals := 152 } : Room) s m args below meth c H locs 0 0 (MQ below (va_Qi Q (PB g (yw g)) (Af 1 g)) args s 0 0 (Af 1 g)) (F0 m 38 ls [.int s1, .int s0]) := by
  unfold b_X11_followed_38 at hw
  refine lv_iadd C.1 C.2.1 dX11_followed_38 ?_
  refine lv_topi (fun x7 e7 => ?_)
  have hw := hw x7 e7
  refine lv_istore_n (lv' := [(2, .int x7), (0, .ref (g.2.1 (138 + 0))), (1, .int v1), (3, .int v3), (4, .int v4)]) C.1 C.2.1 dX11_followed_39 rfl hl (by decide) rfl (fun ls hl => ?_)
  obtain ⟨x8, e8⟩ : ∃ y : Int32, y = (v4 + 1) := ⟨_, rfl⟩
  have hw := hw x8 e8
  refine lv_iinc (v := x8) (lv' := [(4, .int x8), (2, .int x7), (0, .ref (g.2.1 (138 + 0))), (1, .int v1), (3, .int v3)]) C.1 C.2.1 dX11_followed_40 hl (k := 4) rfl (by rw [e8]; rfl) (by decide) rfl (fun ls hl => ?_)
  refine lv_goto (tgt := 18) C.1 C.2.1 dX11_followed_43 (by decide) ?_
  exact hk18 v1 x7 v3 x8  _ hw _ _ _ (lv_sub hl [2, 3, 1, 4, 0] rfl) hP hS
def b_X11_followed_18 (Q : Int32 → Mem → Prop) (k4 : Int32 → Int32 → Int32 → Mem → Prop) : Nat → Int32 → Int32 → Int32 → Int32 → Mem → Prop
  | 0, _, _, _, _, _ => False
  | n + 1, v1, v2, v3, v4, M => ((v1 ≤ v4 → (b_X11_followed_46 Q k4 v1 v2 v3 M)) ∧ (¬ v1 ≤ v4 → (p_X11_isFollowed v3 M (fun r5 M5 => ((r5 = 0 → (b_X11_followed_38 Q (fun v1 v2 v3 v4 M => b_X11_followed_18 Q k4 n v1 v2 v3 v4 M) v1 v3 v4 v2 0 M5)) ∧ (¬ r5 = 0 → (b_X11_followed_38 Q (fun v1 v2 v3 v4 M => b_X11_followed_18 Q k4 n v1 v2 v3 v4 M) v1 v3 v4 v2 1 M5)))))))
set_option maxRecDepth 100000 in
set_option maxHeartbeats 4000000 in
theorem k_X11_followed_18 {p : Program} {l : Launch} {e : Env} {s : State} {m : MethodId} {args : Array Value} {below : List Frame} {meth : Method} {c : Code} {g : Geo} (C : CX g p s m args meth c cX11_followed 5 (some .int) RX11) {Q : Int32 → Mem → Prop} {k4 : Int32 → Int32 → Int32 → Mem → Prop} (hk4 : ∀ (v1 : Int32) (v2 : Int32) (v3 : Int32) (M : Mem), k4 v1 v2 v3 M → ∀ (H : Heap) (locs : List Loc) (ls : Array Slot), lv_has ls 5 [(0, .ref (g.2.1 (138 + 0))), (1, .int v1), (2, .int v2), (3, .int v3)] → va_P g.1 clz (yw g M) H → va_S (Af 1 g) s.heap H locs → W p l e ({ frames := 6, cells := 0, slots := 0, locals := 152 } : Room) s m args below meth c H locs 0 0 (MQ below (va_Qi Q (PB g (yw g)) (Af 1 g)) args s 0 0 (Af 1 g)) (F0 m 4 ls [])) : ∀ (n : Nat) (v1 : Int32) (v2 : Int32) (v3 : Int32) (v4 : Int32) (M : Mem) (hw : b_X11_followed_18 Q k4 n v1 v2 v3 v4 M) {H : Heap} {locs : List Loc} {ls : Array Slot} (hl : lv_has ls 5 [(0, .ref (g.2.1 (138 + 0))), (1, .int v1), (2, .int v2), (3, .int v3), (4, .int v4)]) (hP : va_P g.1 clz (yw g M) H) (hS : va_S (Af 1 g) s.heap H locs), W p l e ({ frames := 6, cells := 0, slots := 0, locals := 152 } : Room) s m args below meth c H locs 0 0 (MQ below (va_Qi Q (PB g (yw g)) (Af 1 g)) args s 0 0 (Af 1 g)) (F0 m 18 ls []) := by
  intro n
  induction n with
  | zero => intro v1 v2 v3 v4 M hw H locs ls hl hP hS; exact absurd hw (by rw [b_X11_followed_18]; exact fun h => h)
  | succ n ih =>
    intro v1 v2 v3 v4 M hw H locs ls hl hP hS
    rw [b_X11_followed_18] at hw
    refine lv_iload C.1 C.2.1 dX11_followed_18 (lv_at hl 4 rfl) ?_
    refine lv_iload_n C.1 C.2.1 dX11_followed_20 rfl (lv_at hl 1 rfl) ?_
    refine lv_icmp_ge (tgt := 46) C.1 C.2.1 dX11_followed_21 (by decide) (fun h3 => ?_) (fun h3 => ?_)
    · have hw := hw.1 h3
      exact k_X11_followed_46 (Q := Q) C hk4 v1 v2 v3  _ hw (lv_sub hl [0, 1, 2, 3] rfl) hP hS
    · have hw := hw.2 h3
      refine lv_iload_n C.1 C.2.1 dX11_followed_24 rfl (lv_at hl 2 rfl) ?_
      refine lv_aload_n C.1 C.2.1 dX11_followed_25 rfl (lv_at hl 0 rfl) ?_
      refine lv_iload_n C.1 C.2.1 dX11_followed_26 rfl (lv_at hl 3 rfl) ?_
      refine goI (wf := (yw g)) (runV (w := yw g M) (As := [.int v3]) (rest := [.int v2]) C lkX11_359 (c_X11_isFollowed l g C.2.2.2.2.2.2.2.2.2.2 v3  M _ hw) hP hS rfl rfl ⟨Nat.le_of_ble_eq_true rfl, Nat.le_of_ble_eq_true rfl⟩ (xx_40 Nat.zero_lt_one) rfl rfl hl.1 rfl (Nat.le_of_ble_eq_true rfl) dX11_followed_27) hS (fun r5 M5 hw H locs hP hS => ?_)
      obtain ⟨hw, hz5⟩ := hw
      refine lv_if_eq (tgt := 37) C.1 C.2.1 dX11_followed_30 (by decide) (fun h6 => ?_) (fun h6 => ?_)
      · have hw := hw.1 h6
        refine lv_iconst (v := 0) C.1 C.2.1 dX11_followed_37 (by decide) ?_
        exact k_X11_followed_38 (Q := Q) C (fun v1 v2 v3 v4  M hw H locs ls hl hP hS => ih v1 v2 v3 v4  M hw hl hP hS) v1 v3 v4 v2 0  _ hw (lv_sub hl [0, 1, 3, 4] rfl) hP hS
      · have hw := hw.2 h6
        refine lv_iconst (v := 1) C.1 C.2.1 dX11_followed_33 (by decide) ?_
        refine lv_goto (tgt := 38) C.1 C.2.1 dX11_followed_34 (by decide) ?_
        exact k_X11_followed_38 (Q := Q) C (fun v1 v2 v3 v4  M hw H locs ls hl hP hS => ih v1 v2 v3 v4  M hw hl hP hS) v1 v3 v4 v2 1  _ hw (lv_sub hl [0, 1, 3, 4] rfl) hP hS
def b_X11_followed_4 (Q : Int32 → Mem → Prop) : Nat → Int32 → Int32 → Int32 → Mem → Prop
  | 0, _, _, _, _ => False
  | n + 1, v1, v2, v3, M => (p_X11_of 292 M (fun r1 M1 => ((r1 ≤ v3 → (Q v2 M1)) ∧ (¬ r1 ≤ v3 → (∃ n18 : Nat, b_X11_followed_18 Q (fun v1 v2 v3 M => b_X11_followed_4 Q n v1 v2 v3 M) n18 v1 v2 v3 0 M1)))))
set_option maxRecDepth 100000 in
set_option maxHeartbeats 4000000 in
theorem k_X11_followed_4 {p : Program} {l : Launch} {e : Env} {s : State} {m : MethodId} {args : Array Value} {below : List Frame} {meth : Method} {c : Code} {g : Geo} (C : CX g p s m args meth c cX11_followed 5 (some .int) RX11) {Q : Int32 → Mem → Prop} : ∀ (n : Nat) (v1 : Int32) (v2 : Int32) (v3 : Int32) (M : Mem) (hw : b_X11_followed_4 Q n v1 v2 v3 M) {H : Heap} {locs : List Loc} {ls : Array Slot} (hl : lv_has ls 5 [(0, .ref (g.2.1 (138 + 0))), (1, .int v1), (2, .int v2), (3, .int v3)]) (hP : va_P g.1 clz (yw g M) H) (hS : va_S (Af 1 g) s.heap H locs), W p l e ({ frames := 6, cells := 0, slots := 0, locals := 152 } : Room) s m args below meth c H locs 0 0 (MQ below (va_Qi Q (PB g (yw g)) (Af 1 g)) args s 0 0 (Af 1 g)) (F0 m 4 ls []) := by
  intro n
  induction n with
  | zero => intro v1 v2 v3 M hw H locs ls hl hP hS; exact absurd hw (by rw [b_X11_followed_4]; exact fun h => h)
  | succ n ih =>
    intro v1 v2 v3 M hw H locs ls hl hP hS
    rw [b_X11_followed_4] at hw
    refine lv_iload_n C.1 C.2.1 dX11_followed_4 rfl (lv_at hl 3 rfl) ?_
    refine lv_aload_n C.1 C.2.1 dX11_followed_5 rfl (lv_at hl 0 rfl) ?_
    refine lv_sipush (v := 292) C.1 C.2.1 dX11_followed_6 (by decide) ?_
    refine goI (wf := (yw g)) (runV (w := yw g M) (As := [.int 292]) (rest := [.int v3]) C lkX11_340 (c_X11_of l g C.2.2.2.2.2.2.2.2.2.2 292  M _ hw) hP hS rfl rfl ⟨Nat.le_of_ble_eq_true rfl, Nat.le_of_ble_eq_true rfl⟩ (xx_40 Nat.zero_lt_one) rfl rfl hl.1 rfl (Nat.le_of_ble_eq_true rfl) dX11_followed_9) hS (fun r1 M1 hw H locs hP hS => ?_)
    refine lv_icmp_ge (tgt := 52) C.1 C.2.1 dX11_followed_12 (by decide) (fun h2 => ?_) (fun h2 => ?_)
    · have hw := hw.1 h2
      refine lv_iload_n C.1 C.2.1 dX11_followed_52 rfl (lv_at hl 2 rfl) ?_
      exact retI (wf := (yw g)) C hP hS hw dX11_followed_53
    · have hw := hw.2 h2
      refine lv_iconst (v := 0) C.1 C.2.1 dX11_followed_15 (by decide) ?_
      refine lv_istore (lv' := [(4, .int 0), (0, .ref (g.2.1 (138 + 0))), (1, .int v1), (2, .int v2), (3, .int v3)]) C.1 C.2.1 dX11_followed_16 hl (by decide) rfl (fun ls hl => ?_)
      obtain ⟨n9, hw⟩ := hw
      exact k_X11_followed_18 (Q := Q) C (fun v1 v2 v3  M hw H locs ls hl hP hS => ih v1 v2 v3  M hw hl hP hS) n9 v1 v2 v3 0  _ hw (lv_sub hl [1, 2, 3, 4, 0] rfl) hP hS
def p_X11_followed (a1 : Int32) (M : Mem) (Q : Int32 → Mem → Prop) : Prop := (∃ n4 : Nat, b_X11_followed_4 Q n4 a1 0 0 M)
set_option maxRecDepth 100000 in
set_option maxHeartbeats 4000000 in
theorem c_X11_followed (l : Launch) (g : Geo) (gi : GI g) (a1 : Int32) (M : Mem) (Q : Int32 → Mem → Prop) (hw : p_X11_followed a1 M Q) : Met l yX11_followed (Cond.code yX11_followed cX11_followed 5 (some .int) :: bg) ({ frames := 6, cells := 0, slots := 0, locals := 152 } : Room) (va_Pc [.ref (g.2.1 (138 + 0)), .int a1] (PW g (yw g M))) (va_Qi Q (PB g (yw g)) (Af 1 g)) 0 0 (Af 1 g) := by
  refine Met.ofW (cc := cX11_followed) (maxL := 5) (ret := (some .int)) (by decide +kernel) rfl ?_
  intro p e s m args below meth c s₁ B hml hv
  obtain ⟨rfl, hv⟩ := hv
  have C := CX.start (own := RX11) B hml rfl gi hv
  have hP := hv.1
  have hS : va_S (Af 1 g) s.heap s.heap [] := va_S.rf
  have hl := lv_entry ([.ref (g.2.1 (138 + 0)), .int a1]) (n := 5) (Nat.le_of_ble_eq_true rfl)
  rw [lg_entry_eq]
  generalize (lg_sl ([.ref (g.2.1 (138 + 0)), .int a1]) ++ List.replicate (5 - (lg_sl ([.ref (g.2.1 (138 + 0)), .int a1])).length) Slot.unset).toArray = ls at hl ⊢
  have hl : lv_has ls 5 [(0, .ref (g.2.1 (138 + 0))), (1, .int a1)] := hl
  unfold p_X11_followed at hw
  refine lv_iconst (v := 0) C.1 C.2.1 dX11_followed_0 (by decide) ?_
  refine lv_istore_n (lv' := [(2, .int 0), (0, .ref (g.2.1 (138 + 0))), (1, .int a1)]) C.1 C.2.1 dX11_followed_1 rfl hl (by decide) rfl (fun ls hl => ?_)
  refine lv_iconst (v := 0) C.1 C.2.1 dX11_followed_2 (by decide) ?_
  refine lv_istore_n (lv' := [(3, .int 0), (2, .int 0), (0, .ref (g.2.1 (138 + 0))), (1, .int a1)]) C.1 C.2.1 dX11_followed_3 rfl hl (by decide) rfl (fun ls hl => ?_)
  obtain ⟨n9, hw⟩ := hw
  exact k_X11_followed_4 (Q := Q) C n9 a1 0 0  _ hw (lv_sub hl [2, 3, 1, 0] rfl) hP hS
def p_X11_follow (a1 : Int32) (M : Mem) (Q : Int32 → Mem → Prop) : Prop := (∀ M1 : Mem, M1 = sI M 40 0 2 0 → (p_X11_isIn a1 1 64 M1 (fun r2 M2 => ((¬ r2 = 0 → (p_X11_canUndo  M2 (fun M4 => (p_X11_followed a1 M4 (fun r5 M5 => (Q r5 M5)))))) ∧ (r2 = 0 → (Q (-1) M2))))))
set_option maxRecDepth 100000 in
set_option maxHeartbeats 4000000 in
theorem c_X11_follow (l : Launch) (g : Geo) (gi : GI g) (a1 : Int32) (M : Mem) (Q : Int32 → Mem → Prop) (hw : p_X11_follow a1 M Q) : Met l yX11_follow (Cond.code yX11_follow cX11_follow 2 (some .int) :: bg) ({ frames := 7, cells := 0, slots := 0, locals := 176 } : Room) (va_Pc [.ref (g.2.1 (138 + 0)), .int a1] (PW g (yw g M))) (va_Qi Q (PB g (yw g)) (Af 1 g)) 0 0 (Af 1 g) := by
  refine Met.ofW (cc := cX11_follow) (maxL := 2) (ret := (some .int)) (by decide +kernel) rfl ?_
  intro p e s m args below meth c s₁ B hml hv
  obtain ⟨rfl, hv⟩ := hv
  have C := CX.start (own := RX11) B hml rfl gi hv
  have hP := hv.1
  have hS : va_S (Af 1 g) s.heap s.heap [] := va_S.rf
  have hl := lv_entry ([.ref (g.2.1 (138 + 0)), .int a1]) (n := 2) (Nat.le_of_ble_eq_true rfl)
  rw [lg_entry_eq]
  generalize (lg_sl ([.ref (g.2.1 (138 + 0)), .int a1]) ++ List.replicate (2 - (lg_sl ([.ref (g.2.1 (138 + 0)), .int a1])).length) Slot.unset).toArray = ls at hl ⊢
  have hl : lv_has ls 2 [(0, .ref (g.2.1 (138 + 0))), (1, .int a1)] := hl
  unfold p_X11_follow at hw
  refine lv_aload_n C.1 C.2.1 dX11_follow_0 rfl (lv_at hl 0 rfl) ?_
  refine lv_iconst (v := 0) C.1 C.2.1 dX11_follow_1 (by decide) ?_
  refine pX11_76 C hP hS Nat.zero_lt_one dX11_follow_2 (fun M1 e1 H locs hP hS => ?_)
  have hw := hw M1 e1
  refine lv_iload_n C.1 C.2.1 dX11_follow_5 rfl (lv_at hl 1 rfl) ?_
  refine lv_iconst (v := 1) C.1 C.2.1 dX11_follow_6 (by decide) ?_
  refine lv_bipush (v := 64) C.1 C.2.1 dX11_follow_7 (by decide) ?_
  refine goI (wf := (yw g)) (runS (w := yw g M1) (As := [.int a1, .int 1, .int 64]) (rest := []) C lkX11_166 (c_X11_isIn l g C.2.2.2.2.2.2.2.2.2.2 a1 1 64  M1 _ hw) hP hS rfl rfl ⟨Nat.le_of_ble_eq_true rfl, Nat.le_of_ble_eq_true rfl⟩ hl.1 rfl (Nat.le_of_ble_eq_true rfl) dX11_follow_9) hS (fun r2 M2 hw H locs hP hS => ?_)
  obtain ⟨hw, hz2⟩ := hw
  refine lv_if_ne (tgt := 17) C.1 C.2.1 dX11_follow_12 (by decide) (fun h3 => ?_) (fun h3 => ?_)
  · have hw := hw.1 h3
    refine lv_aload_n C.1 C.2.1 dX11_follow_17 rfl (lv_at hl 0 rfl) ?_
    refine goV (wf := (yw g)) (runV (w := yw g M2) (As := []) (rest := []) C lkX11_346 (c_X11_canUndo l g C.2.2.2.2.2.2.2.2.2.2   M2 _ hw) hP hS rfl rfl ⟨Nat.le_of_ble_eq_true rfl, Nat.le_of_ble_eq_true rfl⟩ (xx_40 Nat.zero_lt_one) rfl rfl hl.1 rfl (Nat.le_of_ble_eq_true rfl) dX11_follow_18) hS (fun M4 hw H locs hP hS => ?_)
    refine lv_aload_n C.1 C.2.1 dX11_follow_21 rfl (lv_at hl 0 rfl) ?_
    refine lv_iload_n C.1 C.2.1 dX11_follow_22 rfl (lv_at hl 1 rfl) ?_
    refine goI (wf := (yw g)) (runV (w := yw g M4) (As := [.int a1]) (rest := []) C lkX11_362 (c_X11_followed l g C.2.2.2.2.2.2.2.2.2.2 a1  M4 _ hw) hP hS rfl rfl ⟨Nat.le_of_ble_eq_true rfl, Nat.le_of_ble_eq_true rfl⟩ (xx_40 Nat.zero_lt_one) rfl rfl hl.1 rfl (Nat.le_of_ble_eq_true rfl) dX11_follow_23) hS (fun r5 M5 hw H locs hP hS => ?_)
    exact retI (wf := (yw g)) C hP hS hw dX11_follow_26
  · have hw := hw.2 h3
    refine lv_iconst (v := (-1)) C.1 C.2.1 dX11_follow_15 (by decide) ?_
    exact retI (wf := (yw g)) C hP hS hw dX11_follow_16
def p_X11_channel (a1 : Int32) (a2 : Int32) (M : Mem) (Q : Int32 → Mem → Prop) : Prop := (∀ M1 : Mem, M1 = sI M 40 0 2 0 → (p_X11_isChannel a1 M1 (fun r2 M2 => ((r2 = 0 → (Q (-1) M2)) ∧ (¬ r2 = 0 → (p_X11_isIn a2 0 8 M2 (fun r4 M4 => ((¬ r4 = 0 → ((a2 = 7 → (p_X11_at a1 7 M4 (fun r7 M7 => ((¬ r7 = 0 → (p_X11_at a1 7 M7 (fun r9 M9 => (Q (r9 - 1) M9)))) ∧ (r7 = 0 → (Q (-2) M7)))))) ∧ (¬ a2 = 7 → (p_X11_at a1 a2 M4 (fun r10 M10 => (Q r10 M10)))))) ∧ (r4 = 0 → (Q (-1) M4))))))))))
set_option maxRecDepth 100000 in
set_option maxHeartbeats 4000000 in
theorem c_X11_channel (l : Launch) (g : Geo) (gi : GI g) (a1 : Int32) (a2 : Int32) (M : Mem) (Q : Int32 → Mem → Prop) (hw : p_X11_channel a1 a2 M Q) : Met l yX11_channel (Cond.code yX11_channel cX11_channel 3 (some .int) :: bg) ({ frames := 2, cells := 0, slots := 0, locals := 43 } : Room) (va_Pc [.ref (g.2.1 (138 + 0)), .int a1, .int a2] (PW g (yw g M))) (va_Qi Q (PB g (yw g)) (Af 1 g)) 0 0 (Af 1 g) := by
  refine Met.ofW (cc := cX11_channel) (maxL := 3) (ret := (some .int)) (by decide +kernel) rfl ?_
  intro p e s m args below meth c s₁ B hml hv
  obtain ⟨rfl, hv⟩ := hv
  have C := CX.start (own := RX11) B hml rfl gi hv
  have hP := hv.1
  have hS : va_S (Af 1 g) s.heap s.heap [] := va_S.rf
  have hl := lv_entry ([.ref (g.2.1 (138 + 0)), .int a1, .int a2]) (n := 3) (Nat.le_of_ble_eq_true rfl)
  rw [lg_entry_eq]
  generalize (lg_sl ([.ref (g.2.1 (138 + 0)), .int a1, .int a2]) ++ List.replicate (3 - (lg_sl ([.ref (g.2.1 (138 + 0)), .int a1, .int a2])).length) Slot.unset).toArray = ls at hl ⊢
  have hl : lv_has ls 3 [(0, .ref (g.2.1 (138 + 0))), (1, .int a1), (2, .int a2)] := hl
  unfold p_X11_channel at hw
  refine lv_aload_n C.1 C.2.1 dX11_channel_0 rfl (lv_at hl 0 rfl) ?_
  refine lv_iconst (v := 0) C.1 C.2.1 dX11_channel_1 (by decide) ?_
  refine pX11_76 C hP hS Nat.zero_lt_one dX11_channel_2 (fun M1 e1 H locs hP hS => ?_)
  have hw := hw M1 e1
  refine lv_aload_n C.1 C.2.1 dX11_channel_5 rfl (lv_at hl 0 rfl) ?_
  refine lv_iload_n C.1 C.2.1 dX11_channel_6 rfl (lv_at hl 1 rfl) ?_
  refine goI (wf := (yw g)) (runV (w := yw g M1) (As := [.int a1]) (rest := []) C lkX11_365 (c_X11_isChannel l g C.2.2.2.2.2.2.2.2.2.2 a1  M1 _ hw) hP hS rfl rfl ⟨Nat.le_of_ble_eq_true rfl, Nat.le_of_ble_eq_true rfl⟩ (xx_40 Nat.zero_lt_one) rfl rfl hl.1 rfl (Nat.le_of_ble_eq_true rfl) dX11_channel_7) hS (fun r2 M2 hw H locs hP hS => ?_)
  obtain ⟨hw, hz2⟩ := hw
  refine lv_if_eq (tgt := 23) C.1 C.2.1 dX11_channel_10 (by decide) (fun h3 => ?_) (fun h3 => ?_)
  · have hw := hw.1 h3
    refine lv_iconst (v := (-1)) C.1 C.2.1 dX11_channel_23 (by decide) ?_
    exact retI (wf := (yw g)) C hP hS hw dX11_channel_24
  · have hw := hw.2 h3
    refine lv_iload_n C.1 C.2.1 dX11_channel_13 rfl (lv_at hl 2 rfl) ?_
    refine lv_iconst (v := 0) C.1 C.2.1 dX11_channel_14 (by decide) ?_
    refine lv_bipush (v := 8) C.1 C.2.1 dX11_channel_15 (by decide) ?_
    refine goI (wf := (yw g)) (runS (w := yw g M2) (As := [.int a2, .int 0, .int 8]) (rest := []) C lkX11_166 (c_X11_isIn l g C.2.2.2.2.2.2.2.2.2.2 a2 0 8  M2 _ hw) hP hS rfl rfl ⟨Nat.le_of_ble_eq_true rfl, Nat.le_of_ble_eq_true rfl⟩ hl.1 rfl (Nat.le_of_ble_eq_true rfl) dX11_channel_17) hS (fun r4 M4 hw H locs hP hS => ?_)
    obtain ⟨hw, hz4⟩ := hw
    refine lv_if_ne (tgt := 25) C.1 C.2.1 dX11_channel_20 (by decide) (fun h5 => ?_) (fun h5 => ?_)
    · have hw := hw.1 h5
      refine lv_iload_n C.1 C.2.1 dX11_channel_25 rfl (lv_at hl 2 rfl) ?_
      refine lv_bipush (v := 7) C.1 C.2.1 dX11_channel_26 (by decide) ?_
      refine lv_icmp_eq (tgt := 40) C.1 C.2.1 dX11_channel_28 (by decide) (fun h6 => ?_) (fun h6 => ?_)
      · have hw := hw.1 h6
        refine lv_aload_n C.1 C.2.1 dX11_channel_40 rfl (lv_at hl 0 rfl) ?_
        refine lv_iload_n C.1 C.2.1 dX11_channel_41 rfl (lv_at hl 1 rfl) ?_
        refine lv_bipush (v := 7) C.1 C.2.1 dX11_channel_42 (by decide) ?_
        refine goI (wf := (yw g)) (runV (w := yw g M4) (As := [.int a1, .int 7]) (rest := []) C lkX11_352 (c_X11_at l g C.2.2.2.2.2.2.2.2.2.2 a1 7  M4 _ hw) hP hS rfl rfl ⟨Nat.le_of_ble_eq_true rfl, Nat.le_of_ble_eq_true rfl⟩ (xx_40 Nat.zero_lt_one) rfl rfl hl.1 rfl (Nat.le_of_ble_eq_true rfl) dX11_channel_44) hS (fun r7 M7 hw H locs hP hS => ?_)
        refine lv_if_ne (tgt := 55) C.1 C.2.1 dX11_channel_47 (by decide) (fun h8 => ?_) (fun h8 => ?_)
        · have hw := hw.1 h8
          refine lv_aload_n C.1 C.2.1 dX11_channel_55 rfl (lv_at hl 0 rfl) ?_
          refine lv_iload_n C.1 C.2.1 dX11_channel_56 rfl (lv_at hl 1 rfl) ?_
          refine lv_bipush (v := 7) C.1 C.2.1 dX11_channel_57 (by decide) ?_
          refine goI (wf := (yw g)) (runV (w := yw g M7) (As := [.int a1, .int 7]) (rest := []) C lkX11_352 (c_X11_at l g C.2.2.2.2.2.2.2.2.2.2 a1 7  M7 _ hw) hP hS rfl rfl ⟨Nat.le_of_ble_eq_true rfl, Nat.le_of_ble_eq_true rfl⟩ (xx_40 Nat.zero_lt_one) rfl rfl hl.1 rfl (Nat.le_of_ble_eq_true rfl) dX11_channel_59) hS (fun r9 M9 hw H locs hP hS => ?_)
          refine lv_iconst (v := 1) C.1 C.2.1 dX11_channel_62 (by decide) ?_
          refine lv_isub C.1 C.2.1 dX11_channel_63 ?_
          exact retI (wf := (yw g)) C hP hS hw dX11_channel_64
        · have hw := hw.2 h8
          refine lv_bipush (v := (-2)) C.1 C.2.1 dX11_channel_50 (by decide) ?_
          refine lv_goto (tgt := 64) C.1 C.2.1 dX11_channel_52 (by decide) ?_
          exact retI (wf := (yw g)) C hP hS hw dX11_channel_64
      · have hw := hw.2 h6
        refine lv_aload_n C.1 C.2.1 dX11_channel_31 rfl (lv_at hl 0 rfl) ?_
        refine lv_iload_n C.1 C.2.1 dX11_channel_32 rfl (lv_at hl 1 rfl) ?_
        refine lv_iload_n C.1 C.2.1 dX11_channel_33 rfl (lv_at hl 2 rfl) ?_
        refine goI (wf := (yw g)) (runV (w := yw g M4) (As := [.int a1, .int a2]) (rest := []) C lkX11_352 (c_X11_at l g C.2.2.2.2.2.2.2.2.2.2 a1 a2  M4 _ hw) hP hS rfl rfl ⟨Nat.le_of_ble_eq_true rfl, Nat.le_of_ble_eq_true rfl⟩ (xx_40 Nat.zero_lt_one) rfl rfl hl.1 rfl (Nat.le_of_ble_eq_true rfl) dX11_channel_34) hS (fun r10 M10 hw H locs hP hS => ?_)
        refine lv_goto (tgt := 64) C.1 C.2.1 dX11_channel_37 (by decide) ?_
        exact retI (wf := (yw g)) C hP hS hw dX11_channel_64
    · have hw := hw.2 h5
      refine lv_iconst (v := (-1)) C.1 C.2.1 dX11_channel_23 (by decide) ?_
      exact retI (wf := (yw g)) C hP hS hw dX11_channel_24
def p_X11_logged (a1 : Int32) (a2 : Int32) (M : Mem) (Q : Int32 → Mem → Prop) : Prop := (∀ M1 : Mem, M1 = sI M 40 0 2 0 → (p_X11_isChannel a1 M1 (fun r2 M2 => ((r2 = 0 → (Q (-1) M2)) ∧ (¬ r2 = 0 → ((a2 < 0 → (Q (-1) M2)) ∧ (¬ a2 < 0 → (p_X11_at a1 8 M2 (fun r5 M5 => ((r5 ≤ a2 → (Q (-1) M5)) ∧ (¬ r5 ≤ a2 → (p_X11_at a1 (((9 : Int32) + a2)) M5 (fun r7 M7 => (Q r7 M7))))))))))))))
set_option maxRecDepth 100000 in
set_option maxHeartbeats 4000000 in
theorem c_X11_logged (l : Launch) (g : Geo) (gi : GI g) (a1 : Int32) (a2 : Int32) (M : Mem) (Q : Int32 → Mem → Prop) (hw : p_X11_logged a1 a2 M Q) : Met l yX11_logged (Cond.code yX11_logged cX11_logged 3 (some .int) :: bg) ({ frames := 2, cells := 0, slots := 0, locals := 43 } : Room) (va_Pc [.ref (g.2.1 (138 + 0)), .int a1, .int a2] (PW g (yw g M))) (va_Qi Q (PB g (yw g)) (Af 1 g)) 0 0 (Af 1 g) := by
  refine Met.ofW (cc := cX11_logged) (maxL := 3) (ret := (some .int)) (by decide +kernel) rfl ?_
  intro p e s m args below meth c s₁ B hml hv
  obtain ⟨rfl, hv⟩ := hv
  have C := CX.start (own := RX11) B hml rfl gi hv
  have hP := hv.1
  have hS : va_S (Af 1 g) s.heap s.heap [] := va_S.rf
  have hl := lv_entry ([.ref (g.2.1 (138 + 0)), .int a1, .int a2]) (n := 3) (Nat.le_of_ble_eq_true rfl)
  rw [lg_entry_eq]
  generalize (lg_sl ([.ref (g.2.1 (138 + 0)), .int a1, .int a2]) ++ List.replicate (3 - (lg_sl ([.ref (g.2.1 (138 + 0)), .int a1, .int a2])).length) Slot.unset).toArray = ls at hl ⊢
  have hl : lv_has ls 3 [(0, .ref (g.2.1 (138 + 0))), (1, .int a1), (2, .int a2)] := hl
  unfold p_X11_logged at hw
  refine lv_aload_n C.1 C.2.1 dX11_logged_0 rfl (lv_at hl 0 rfl) ?_
  refine lv_iconst (v := 0) C.1 C.2.1 dX11_logged_1 (by decide) ?_
  refine pX11_76 C hP hS Nat.zero_lt_one dX11_logged_2 (fun M1 e1 H locs hP hS => ?_)
  have hw := hw M1 e1
  refine lv_aload_n C.1 C.2.1 dX11_logged_5 rfl (lv_at hl 0 rfl) ?_
  refine lv_iload_n C.1 C.2.1 dX11_logged_6 rfl (lv_at hl 1 rfl) ?_
  refine goI (wf := (yw g)) (runV (w := yw g M1) (As := [.int a1]) (rest := []) C lkX11_365 (c_X11_isChannel l g C.2.2.2.2.2.2.2.2.2.2 a1  M1 _ hw) hP hS rfl rfl ⟨Nat.le_of_ble_eq_true rfl, Nat.le_of_ble_eq_true rfl⟩ (xx_40 Nat.zero_lt_one) rfl rfl hl.1 rfl (Nat.le_of_ble_eq_true rfl) dX11_logged_7) hS (fun r2 M2 hw H locs hP hS => ?_)
  obtain ⟨hw, hz2⟩ := hw
  refine lv_if_eq (tgt := 40) C.1 C.2.1 dX11_logged_10 (by decide) (fun h3 => ?_) (fun h3 => ?_)
  · have hw := hw.1 h3
    refine lv_iconst (v := (-1)) C.1 C.2.1 dX11_logged_40 (by decide) ?_
    exact retI (wf := (yw g)) C hP hS hw dX11_logged_41
  · have hw := hw.2 h3
    refine lv_iload_n C.1 C.2.1 dX11_logged_13 rfl (lv_at hl 2 rfl) ?_
    refine lv_if_lt (tgt := 40) C.1 C.2.1 dX11_logged_14 (by decide) (fun h4 => ?_) (fun h4 => ?_)
    · have hw := hw.1 h4
      refine lv_iconst (v := (-1)) C.1 C.2.1 dX11_logged_40 (by decide) ?_
      exact retI (wf := (yw g)) C hP hS hw dX11_logged_41
    · have hw := hw.2 h4
      refine lv_iload_n C.1 C.2.1 dX11_logged_17 rfl (lv_at hl 2 rfl) ?_
      refine lv_aload_n C.1 C.2.1 dX11_logged_18 rfl (lv_at hl 0 rfl) ?_
      refine lv_iload_n C.1 C.2.1 dX11_logged_19 rfl (lv_at hl 1 rfl) ?_
      refine lv_bipush (v := 8) C.1 C.2.1 dX11_logged_20 (by decide) ?_
      refine goI (wf := (yw g)) (runV (w := yw g M2) (As := [.int a1, .int 8]) (rest := [.int a2]) C lkX11_352 (c_X11_at l g C.2.2.2.2.2.2.2.2.2.2 a1 8  M2 _ hw) hP hS rfl rfl ⟨Nat.le_of_ble_eq_true rfl, Nat.le_of_ble_eq_true rfl⟩ (xx_40 Nat.zero_lt_one) rfl rfl hl.1 rfl (Nat.le_of_ble_eq_true rfl) dX11_logged_22) hS (fun r5 M5 hw H locs hP hS => ?_)
      refine lv_icmp_ge (tgt := 40) C.1 C.2.1 dX11_logged_25 (by decide) (fun h6 => ?_) (fun h6 => ?_)
      · have hw := hw.1 h6
        refine lv_iconst (v := (-1)) C.1 C.2.1 dX11_logged_40 (by decide) ?_
        exact retI (wf := (yw g)) C hP hS hw dX11_logged_41
      · have hw := hw.2 h6
        refine lv_aload_n C.1 C.2.1 dX11_logged_28 rfl (lv_at hl 0 rfl) ?_
        refine lv_iload_n C.1 C.2.1 dX11_logged_29 rfl (lv_at hl 1 rfl) ?_
        refine lv_bipush (v := 9) C.1 C.2.1 dX11_logged_30 (by decide) ?_
        refine lv_iload_n C.1 C.2.1 dX11_logged_32 rfl (lv_at hl 2 rfl) ?_
        refine lv_iadd C.1 C.2.1 dX11_logged_33 ?_
        refine goI (wf := (yw g)) (runV (w := yw g M5) (As := [.int a1, .int ((9 : Int32) + a2)]) (rest := []) C lkX11_352 (c_X11_at l g C.2.2.2.2.2.2.2.2.2.2 a1 (((9 : Int32) + a2))  M5 _ hw) hP hS rfl rfl ⟨Nat.le_of_ble_eq_true rfl, Nat.le_of_ble_eq_true rfl⟩ (xx_40 Nat.zero_lt_one) rfl rfl hl.1 rfl (Nat.le_of_ble_eq_true rfl) dX11_logged_34) hS (fun r7 M7 hw H locs hP hS => ?_)
        refine lv_goto (tgt := 41) C.1 C.2.1 dX11_logged_37 (by decide) ?_
        exact retI (wf := (yw g)) C hP hS hw dX11_logged_41
def b_X11_sixteen_5 (Q : Int32 → Mem → Prop) : Nat → Int32 → Int32 → Int32 → Int32 → Mem → Prop
  | 0, _, _, _, _, _ => False
  | n + 1, v1, v2, v3, v4, M => ((16 ≤ v4 → (Q v3 M)) ∧ (¬ 16 ≤ v4 → (p_X11_at v1 ((((9 : Int32) + v2) + v4)) M (fun r2 M2 => (∀ x3 : Int32, x3 = ((v3 <<< (1 &&& 31)) ||| r2) → (∀ x4 : Int32, x4 = (v4 + 1) → (b_X11_sixteen_5 Q n v1 v2 x3 x4 M2)))))))
set_option maxRecDepth 100000 in
set_option maxHeartbeats 4000000 in
theorem k_X11_sixteen_5 {p : Program} {l : Launch} {e : Env} {s : State} {m : MethodId} {args : Array Value} {below : List Frame} {meth : Method} {c : Code} {g : Geo} (C : CX g p s m args meth c cX11_sixteen 5 (some .int) RX11) {Q : Int32 → Mem → Prop} : ∀ (n : Nat) (v1 : Int32) (v2 : Int32) (v3 : Int32) (v4 : Int32) (M : Mem) (hw : b_X11_sixteen_5 Q n v1 v2 v3 v4 M) {H : Heap} {locs : List Loc} {ls : Array Slot} (hl : lv_has ls 5 [(0, .ref (g.2.1 (138 + 0))), (1, .int v1), (2, .int v2), (3, .int v3), (4, .int v4)]) (hP : va_P g.1 clz (yw g M) H) (hS : va_S (Af 1 g) s.heap H locs), W p l e ({ frames := 2, cells := 0, slots := 0, locals := 43 } : Room) s m args below meth c H locs 0 0 (MQ below (va_Qi Q (PB g (yw g)) (Af 1 g)) args s 0 0 (Af 1 g)) (F0 m 5 ls []) := by
  intro n
  induction n with
  | zero => intro v1 v2 v3 v4 M hw H locs ls hl hP hS; exact absurd hw (by rw [b_X11_sixteen_5]; exact fun h => h)
  | succ n ih =>
    intro v1 v2 v3 v4 M hw H locs ls hl hP hS
    rw [b_X11_sixteen_5] at hw
    refine lv_iload C.1 C.2.1 dX11_sixteen_5 (lv_at hl 4 rfl) ?_
    refine lv_bipush (v := 16) C.1 C.2.1 dX11_sixteen_7 (by decide) ?_
    refine lv_icmp_ge (tgt := 35) C.1 C.2.1 dX11_sixteen_9 (by decide) (fun h1 => ?_) (fun h1 => ?_)
    · have hw := hw.1 h1
      refine lv_iload_n C.1 C.2.1 dX11_sixteen_35 rfl (lv_at hl 3 rfl) ?_
      exact retI (wf := (yw g)) C hP hS hw dX11_sixteen_36
    · have hw := hw.2 h1
      refine lv_iload_n C.1 C.2.1 dX11_sixteen_12 rfl (lv_at hl 3 rfl) ?_
      refine lv_iconst (v := 1) C.1 C.2.1 dX11_sixteen_13 (by decide) ?_
      refine lv_ishl C.1 C.2.1 dX11_sixteen_14 ?_
      refine lv_aload_n C.1 C.2.1 dX11_sixteen_15 rfl (lv_at hl 0 rfl) ?_
      refine lv_iload_n C.1 C.2.1 dX11_sixteen_16 rfl (lv_at hl 1 rfl) ?_
      refine lv_bipush (v := 9) C.1 C.2.1 dX11_sixteen_17 (by decide) ?_
      refine lv_iload_n C.1 C.2.1 dX11_sixteen_19 rfl (lv_at hl 2 rfl) ?_
      refine lv_iadd C.1 C.2.1 dX11_sixteen_20 ?_
      refine lv_iload C.1 C.2.1 dX11_sixteen_21 (lv_at hl 4 rfl) ?_
      refine lv_iadd C.1 C.2.1 dX11_sixteen_23 ?_
      refine goI (wf := (yw g)) (runV (w := yw g M) (As := [.int v1, .int (((9 : Int32) + v2) + v4)]) (rest := [.int (v3 <<< (1 &&& 31))]) C lkX11_352 (c_X11_at l g C.2.2.2.2.2.2.2.2.2.2 v1 ((((9 : Int32) + v2) + v4))  M _ hw) hP hS rfl rfl ⟨Nat.le_of_ble_eq_true rfl, Nat.le_of_ble_eq_true rfl⟩ (xx_40 Nat.zero_lt_one) rfl rfl hl.1 rfl (Nat.le_of_ble_eq_true rfl) dX11_sixteen_24) hS (fun r2 M2 hw H locs hP hS => ?_)
      refine lv_ior C.1 C.2.1 dX11_sixteen_27 ?_
      refine lv_topi (fun x3 e3 => ?_)
      have hw := hw x3 e3
      refine lv_istore_n (lv' := [(3, .int x3), (0, .ref (g.2.1 (138 + 0))), (1, .int v1), (2, .int v2), (4, .int v4)]) C.1 C.2.1 dX11_sixteen_28 rfl hl (by decide) rfl (fun ls hl => ?_)
      obtain ⟨x4, e4⟩ : ∃ y : Int32, y = (v4 + 1) := ⟨_, rfl⟩
      have hw := hw x4 e4
      refine lv_iinc (v := x4) (lv' := [(4, .int x4), (3, .int x3), (0, .ref (g.2.1 (138 + 0))), (1, .int v1), (2, .int v2)]) C.1 C.2.1 dX11_sixteen_29 hl (k := 4) rfl (by rw [e4]; rfl) (by decide) rfl (fun ls hl => ?_)
      refine lv_goto (tgt := 5) C.1 C.2.1 dX11_sixteen_32 (by decide) ?_
      exact ih v1 v2 x3 x4  _ hw (lv_sub hl [2, 3, 4, 1, 0] rfl) hP hS
def p_X11_sixteen (a1 : Int32) (a2 : Int32) (M : Mem) (Q : Int32 → Mem → Prop) : Prop := (∃ n5 : Nat, b_X11_sixteen_5 Q n5 a1 a2 0 0 M)
set_option maxRecDepth 100000 in
set_option maxHeartbeats 4000000 in
theorem c_X11_sixteen (l : Launch) (g : Geo) (gi : GI g) (a1 : Int32) (a2 : Int32) (M : Mem) (Q : Int32 → Mem → Prop) (hw : p_X11_sixteen a1 a2 M Q) : Met l yX11_sixteen (Cond.code yX11_sixteen cX11_sixteen 5 (some .int) :: bg) ({ frames := 2, cells := 0, slots := 0, locals := 43 } : Room) (va_Pc [.ref (g.2.1 (138 + 0)), .int a1, .int a2] (PW g (yw g M))) (va_Qi Q (PB g (yw g)) (Af 1 g)) 0 0 (Af 1 g) := by
  refine Met.ofW (cc := cX11_sixteen) (maxL := 5) (ret := (some .int)) (by decide +kernel) rfl ?_
  intro p e s m args below meth c s₁ B hml hv
  obtain ⟨rfl, hv⟩ := hv
  have C := CX.start (own := RX11) B hml rfl gi hv
  have hP := hv.1
  have hS : va_S (Af 1 g) s.heap s.heap [] := va_S.rf
  have hl := lv_entry ([.ref (g.2.1 (138 + 0)), .int a1, .int a2]) (n := 5) (Nat.le_of_ble_eq_true rfl)
  rw [lg_entry_eq]
  generalize (lg_sl ([.ref (g.2.1 (138 + 0)), .int a1, .int a2]) ++ List.replicate (5 - (lg_sl ([.ref (g.2.1 (138 + 0)), .int a1, .int a2])).length) Slot.unset).toArray = ls at hl ⊢
  have hl : lv_has ls 5 [(0, .ref (g.2.1 (138 + 0))), (1, .int a1), (2, .int a2)] := hl
  unfold p_X11_sixteen at hw
  refine lv_iconst (v := 0) C.1 C.2.1 dX11_sixteen_0 (by decide) ?_
  refine lv_istore_n (lv' := [(3, .int 0), (0, .ref (g.2.1 (138 + 0))), (1, .int a1), (2, .int a2)]) C.1 C.2.1 dX11_sixteen_1 rfl hl (by decide) rfl (fun ls hl => ?_)
  refine lv_iconst (v := 0) C.1 C.2.1 dX11_sixteen_2 (by decide) ?_
  refine lv_istore (lv' := [(4, .int 0), (3, .int 0), (0, .ref (g.2.1 (138 + 0))), (1, .int a1), (2, .int a2)]) C.1 C.2.1 dX11_sixteen_3 hl (by decide) rfl (fun ls hl => ?_)
  obtain ⟨n9, hw⟩ := hw
  exact k_X11_sixteen_5 (Q := Q) C n9 a1 a2 0 0  _ hw (lv_sub hl [2, 3, 4, 1, 0] rfl) hP hS
def b_X11_layFrames_105 (Q : Mem → Prop) (k106 : Int32 → Int32 → Int32 → Int32 → Int32 → Int32 → Mem → Prop) (v1 : Int32) (v2 : Int32) (v3 : Int32) (v4 : Int32) (v5 : Int32) (M : Mem) : Prop := (k106 v1 v2 v3 v4 v5 0 M)
set_option maxRecDepth 100000 in
set_option maxHeartbeats 4000000 in
theorem k_X11_layFrames_105 {p : Program} {l : Launch} {e : Env} {s : State} {m : MethodId} {args : Array Value} {below : List Frame} {meth : Method} {c : Code} {g : Geo} (C : CX g p s m args meth c cX11_layFrames 7 none RX11) {Q : Mem → Prop} {k106 : Int32 → Int32 → Int32 → Int32 → Int32 → Int32 → Mem → Prop} (hk106 : ∀ (v1 : Int32) (v2 : Int32) (v3 : Int32) (v4 : Int32) (v5 : Int32) (s0 : Int32) (M : Mem), k106 v1 v2 v3 v4 v5 s0 M → ∀ (H : Heap) (locs : List Loc) (ls : Array Slot), lv_has ls 7 [(0, .ref (g.2.1 (138 + 0))), (1, .int v1), (2, .int v2), (3, .int v3), (4, .int v4), (5, .int v5)] → va_P g.1 clz (yw g M) H → va_S (Af 1 g) s.heap H locs → W p l e ({ frames := 3, cells := 0, slots := 0, locals := 67 } : Room) s m args below meth c H locs 0 0 (MQ below (va_Qv Q (PB g (yw g)) (Af 1 g)) args s 0 0 (Af 1 g)) (F0 m 106 ls [.int s0])) (v1 : Int32) (v2 : Int32) (v3 : Int32) (v4 : Int32) (v5 : Int32) (M : Mem) (hw : b_X11_layFrames_105 Q k106 v1 v2 v3 v4 v5 M) {H : Heap} {locs : List Loc} {ls : Array Slot} (hl : lv_has ls 7 [(0, .ref (g.2.1 (138 + 0))), (1, .int v1), (2, .int v2), (3, .int v3), (4, .int v4), (5, .int v5)]) (hP : va_P g.1 clz (yw g M) H) (hS : va_S (Af 1 g) s.heap H locs) : W p l e ({ frames := 3, cells := 0, slots := 0, locals := 67 } : Room) s m args below meth c H locs 0 0 (MQ below (va_Qv Q (PB g (yw g)) (Af 1 g)) args s 0 0 (Af 1 g)) (F0 m 105 ls []) := by
  unfold b_X11_layFrames_105 at hw
  refine lv_iconst (v := 0) C.1 C.2.1 dX11_layFrames_105 (by decide) ?_
  exact hk106 v1 v2 v3 v4 v5 0  _ hw _ _ _ (lv_sub hl [0, 1, 2, 3, 4, 5] rfl) hP hS
def b_X11_layFrames_173 (Q : Mem → Prop) (k174 : Int32 → Int32 → Int32 → Int32 → Int32 → Mem → Prop) (v1 : Int32) (v2 : Int32) (v6 : Int32) (s1 : Int32) (M : Mem) : Prop := (k174 v1 v2 v6 s1 0 M)
set_option maxRecDepth 100000 in
set_option maxHeartbeats 4000000 in
theorem k_X11_layFrames_173 {p : Program} {l : Launch} {e : Env} {s : State} {m : MethodId} {args : Array Value} {below : List Frame} {meth : Method} {c : Code} {g : Geo} (C : CX g p s m args meth c cX11_layFrames 7 none RX11) {Q : Mem → Prop} {k174 : Int32 → Int32 → Int32 → Int32 → Int32 → Mem → Prop} (hk174 : ∀ (v1 : Int32) (v2 : Int32) (v6 : Int32) (s1 : Int32) (s2 : Int32) (M : Mem), k174 v1 v2 v6 s1 s2 M → ∀ (H : Heap) (locs : List Loc) (ls : Array Slot), lv_has ls 7 [(0, .ref (g.2.1 (138 + 0))), (1, .int v1), (2, .int v2), (6, .int v6)] → va_P g.1 clz (yw g M) H → va_S (Af 1 g) s.heap H locs → W p l e ({ frames := 3, cells := 0, slots := 0, locals := 67 } : Room) s m args below meth c H locs 0 0 (MQ below (va_Qv Q (PB g (yw g)) (Af 1 g)) args s 0 0 (Af 1 g)) (F0 m 174 ls [.int s2, .int s1, .ref (g.2.1 (138 + 0))])) (v1 : Int32) (v2 : Int32) (v6 : Int32) (s1 : Int32) (M : Mem) (hw : b_X11_layFrames_173 Q k174 v1 v2 v6 s1 M) {H : Heap} {locs : List Loc} {ls : Array Slot} (hl : lv_has ls 7 [(0, .ref (g.2.1 (138 + 0))), (1, .int v1), (2, .int v2), (6, .int v6)]) (hP : va_P g.1 clz (yw g M) H) (hS : va_S (Af 1 g) s.heap H locs) : W p l e ({ frames := 3, cells := 0, slots := 0, locals := 67 } : Room) s m args below meth c H locs 0 0 (MQ below (va_Qv Q (PB g (yw g)) (Af 1 g)) args s 0 0 (Af 1 g)) (F0 m 173 ls [.int s1, .ref (g.2.1 (138 + 0))]) := by
  unfold b_X11_layFrames_173 at hw
  refine lv_iconst (v := 0) C.1 C.2.1 dX11_layFrames_173 (by decide) ?_
  exact hk174 v1 v2 v6 s1 0  _ hw _ _ _ (lv_sub hl [0, 1, 2, 3] rfl) hP hS
def b_X11_layFrames_190 (Q : Mem → Prop) (k12 : Int32 → Int32 → Mem → Prop) (v1 : Int32) (s0 : Int32) (s1 : Int32) (M : Mem) : Prop := (∀ x14 : Int32, x14 = (s0 + s1) → (k12 v1 x14 M))
set_option maxRecDepth 100000 in
set_option maxHeartbeats 4000000 in
theorem k_X11_layFrames_190 {p : Program} {l : Launch} {e : Env} {s : State} {m : MethodId} {args : Array Value} {below : List Frame} {meth : Method} {c : Code} {g : Geo} (C : CX g p s m args meth c cX11_layFrames 7 none RX11) {Q : Mem → Prop} {k12 : Int32 → Int32 → Mem → Prop} (hk12 : ∀ (v1 : Int32) (v2 : Int32) (M : Mem), k12 v1 v2 M → ∀ (H : Heap) (locs : List Loc) (ls : Array Slot), lv_has ls 7 [(0, .ref (g.2.1 (138 + 0))), (1, .int v1), (2, .int v2)] → va_P g.1 clz (yw g M) H → va_S (Af 1 g) s.heap H locs → W p l e ({ frames := 3, cells := 0, slots := 0, locals := 67 } : Room) s m args below meth c H locs 0 0 (MQ below (va_Qv Q (PB g (yw g)) (Af 1 g)) args s 0 0 (Af 1 g)) (F0 m 12 ls [])) (v1 : Int32) (s0 : Int32) (s1 : Int32) (M : Mem) (hw : b_X11_layFrames_190 Q k12 v1 s0 s1 M) {H : Heap} {locs : List Loc} {ls : Array Slot} (hl : lv_has ls 7 [(0, .ref (g.2.1 (138 + 0))), (1, .int v1)]) (hP : va_P g.1 clz (yw g M) H) (hS : va_S (Af 1 g) s.heap H locs) : W p l e ({ frames := 3, cells := 0, slots := 0, locals := 67 } : Room) s m args below meth c H locs 0 0 (MQ below (va_Qv Q (PB g (yw g)) (Af 1 g)) args s 0 0 (Af 1 g)) (F0 m 190 ls [.int s1, .int s0]) := by
  unfold b_X11_layFrames_190 at hw
  refine lv_iadd C.1 C.2.1 dX11_layFrames_190 ?_
  refine lv_topi (fun x14 e14 => ?_)
  have hw := hw x14 e14
  refine lv_istore_n (lv' := [(2, .int x14), (0, .ref (g.2.1 (138 + 0))), (1, .int v1)]) C.1 C.2.1 dX11_layFrames_191 rfl hl (by decide) rfl (fun ls hl => ?_)
  refine lv_goto (tgt := 12) C.1 C.2.1 dX11_layFrames_192 (by decide) ?_
  exact hk12 v1 x14  _ hw _ _ _ (lv_sub hl [1, 2, 0] rfl) hP hS
def b_X11_layFrames_174 (Q : Mem → Prop) (k12 : Int32 → Int32 → Mem → Prop) (v1 : Int32) (v2 : Int32) (v6 : Int32) (s1 : Int32) (s2 : Int32) (M : Mem) : Prop := (∀ M12 : Mem, M12 = sI M 40 0 42 (s1 + s2) → ((v6 = 0 → (b_X11_layFrames_190 Q k12 v1 v2 1 M12)) ∧ (¬ v6 = 0 → (b_X11_layFrames_190 Q k12 v1 v2 16 M12))))
set_option maxRecDepth 100000 in
set_option maxHeartbeats 4000000 in
theorem k_X11_layFrames_174 {p : Program} {l : Launch} {e : Env} {s : State} {m : MethodId} {args : Array Value} {below : List Frame} {meth : Method} {c : Code} {g : Geo} (C : CX g p s m args meth c cX11_layFrames 7 none RX11) {Q : Mem → Prop} {k12 : Int32 → Int32 → Mem → Prop} (hk12 : ∀ (v1 : Int32) (v2 : Int32) (M : Mem), k12 v1 v2 M → ∀ (H : Heap) (locs : List Loc) (ls : Array Slot), lv_has ls 7 [(0, .ref (g.2.1 (138 + 0))), (1, .int v1), (2, .int v2)] → va_P g.1 clz (yw g M) H → va_S (Af 1 g) s.heap H locs → W p l e ({ frames := 3, cells := 0, slots := 0, locals := 67 } : Room) s m args below meth c H locs 0 0 (MQ below (va_Qv Q (PB g (yw g)) (Af 1 g)) args s 0 0 (Af 1 g)) (F0 m 12 ls [])) (v1 : Int32) (v2 : Int32) (v6 : Int32) (s1 : Int32) (s2 : Int32) (M : Mem) (hw : b_X11_layFrames_174 Q k12 v1 v2 v6 s1 s2 M) {H : Heap} {locs : List Loc} {ls : Array Slot} (hl : lv_has ls 7 [(0, .ref (g.2.1 (138 + 0))), (1, .int v1), (2, .int v2), (6, .int v6)]) (hP : va_P g.1 clz (yw g M) H) (hS : va_S (Af 1 g) s.heap H locs) : W p l e ({ frames := 3, cells := 0, slots := 0, locals := 67 } : Room) s m args below meth c H locs 0 0 (MQ below (va_Qv Q (PB g (yw g)) (Af 1 g)) args s 0 0 (Af 1 g)) (F0 m 174 ls [.int s2, .int s1, .ref (g.2.1 (138 + 0))]) := by
  unfold b_X11_layFrames_174 at hw
  refine lv_iadd C.1 C.2.1 dX11_layFrames_174 ?_
  refine pX11_371 C hP hS Nat.zero_lt_one dX11_layFrames_175 (fun M12 e12 H locs hP hS => ?_)
  have hw := hw M12 e12
  refine lv_iload_n C.1 C.2.1 dX11_layFrames_178 rfl (lv_at hl 2 rfl) ?_
  refine lv_iload C.1 C.2.1 dX11_layFrames_179 (lv_at hl 3 rfl) ?_
  refine lv_if_eq (tgt := 189) C.1 C.2.1 dX11_layFrames_181 (by decide) (fun h13 => ?_) (fun h13 => ?_)
  · have hw := hw.1 h13
    refine lv_iconst (v := 1) C.1 C.2.1 dX11_layFrames_189 (by decide) ?_
    exact k_X11_layFrames_190 (Q := Q) C hk12 v1 v2 1  _ hw (lv_sub hl [0, 1] rfl) hP hS
  · have hw := hw.2 h13
    refine lv_bipush (v := 16) C.1 C.2.1 dX11_layFrames_184 (by decide) ?_
    refine lv_goto (tgt := 190) C.1 C.2.1 dX11_layFrames_186 (by decide) ?_
    exact k_X11_layFrames_190 (Q := Q) C hk12 v1 v2 16  _ hw (lv_sub hl [0, 1] rfl) hP hS
def b_X11_layFrames_154 (Q : Mem → Prop) (k12 : Int32 → Int32 → Mem → Prop) (v1 : Int32) (v2 : Int32) (v5 : Int32) (v6 : Int32) (M : Mem) : Prop := ((v5 = 0 → (b_X11_layFrames_173 Q (fun v1 v2 v6 s1 s2 M => b_X11_layFrames_174 Q k12 v1 v2 v6 s1 s2 M) v1 v2 v6 ((M.1 40 0 42)) M)) ∧ (¬ v5 = 0 → ((¬ v6 = 0 → (b_X11_layFrames_173 Q (fun v1 v2 v6 s1 s2 M => b_X11_layFrames_174 Q k12 v1 v2 v6 s1 s2 M) v1 v2 v6 ((M.1 40 0 42)) M)) ∧ (v6 = 0 → (b_X11_layFrames_174 Q k12 v1 v2 v6 ((M.1 40 0 42)) 1 M)))))
set_option maxRecDepth 100000 in
set_option maxHeartbeats 4000000 in
theorem k_X11_layFrames_154 {p : Program} {l : Launch} {e : Env} {s : State} {m : MethodId} {args : Array Value} {below : List Frame} {meth : Method} {c : Code} {g : Geo} (C : CX g p s m args meth c cX11_layFrames 7 none RX11) {Q : Mem → Prop} {k12 : Int32 → Int32 → Mem → Prop} (hk12 : ∀ (v1 : Int32) (v2 : Int32) (M : Mem), k12 v1 v2 M → ∀ (H : Heap) (locs : List Loc) (ls : Array Slot), lv_has ls 7 [(0, .ref (g.2.1 (138 + 0))), (1, .int v1), (2, .int v2)] → va_P g.1 clz (yw g M) H → va_S (Af 1 g) s.heap H locs → W p l e ({ frames := 3, cells := 0, slots := 0, locals := 67 } : Room) s m args below meth c H locs 0 0 (MQ below (va_Qv Q (PB g (yw g)) (Af 1 g)) args s 0 0 (Af 1 g)) (F0 m 12 ls [])) (v1 : Int32) (v2 : Int32) (v5 : Int32) (v6 : Int32) (M : Mem) (hw : b_X11_layFrames_154 Q k12 v1 v2 v5 v6 M) {H : Heap} {locs : List Loc} {ls : Array Slot} (hl : lv_has ls 7 [(0, .ref (g.2.1 (138 + 0))), (1, .int v1), (2, .int v2), (5, .int v5), (6, .int v6)]) (hP : va_P g.1 clz (yw g M) H) (hS : va_S (Af 1 g) s.heap H locs) : W p l e ({ frames := 3, cells := 0, slots := 0, locals := 67 } : Room) s m args below meth c H locs 0 0 (MQ below (va_Qv Q (PB g (yw g)) (Af 1 g)) args s 0 0 (Af 1 g)) (F0 m 154 ls []) := by
  unfold b_X11_layFrames_154 at hw
  refine lv_aload_n C.1 C.2.1 dX11_layFrames_154 rfl (lv_at hl 0 rfl) ?_
  refine lv_dup C.1 C.2.1 dX11_layFrames_155 rfl ?_
  refine gX11_371 C hP Nat.zero_lt_one dX11_layFrames_156 ?_
  refine lv_iload C.1 C.2.1 dX11_layFrames_159 (lv_at hl 3 rfl) ?_
  refine lv_if_eq (tgt := 173) C.1 C.2.1 dX11_layFrames_161 (by decide) (fun h11 => ?_) (fun h11 => ?_)
  · have hw := hw.1 h11
    exact k_X11_layFrames_173 (Q := Q) C (fun v1 v2 v6 s1 s2  M hw H locs ls hl hP hS => k_X11_layFrames_174 (Q := Q) C hk12 v1 v2 v6 s1 s2  M hw hl hP hS) v1 v2 v6 ((M.1 40 0 42))  _ hw (lv_sub hl [0, 1, 2, 4] rfl) hP hS
  · have hw := hw.2 h11
    refine lv_iload C.1 C.2.1 dX11_layFrames_164 (lv_at hl 4 rfl) ?_
    refine lv_if_ne (tgt := 173) C.1 C.2.1 dX11_layFrames_166 (by decide) (fun h15 => ?_) (fun h15 => ?_)
    · have hw := hw.1 h15
      exact k_X11_layFrames_173 (Q := Q) C (fun v1 v2 v6 s1 s2  M hw H locs ls hl hP hS => k_X11_layFrames_174 (Q := Q) C hk12 v1 v2 v6 s1 s2  M hw hl hP hS) v1 v2 v6 ((M.1 40 0 42))  _ hw (lv_sub hl [0, 1, 2, 4] rfl) hP hS
    · have hw := hw.2 h15
      refine lv_iconst (v := 1) C.1 C.2.1 dX11_layFrames_169 (by decide) ?_
      refine lv_goto (tgt := 174) C.1 C.2.1 dX11_layFrames_170 (by decide) ?_
      exact k_X11_layFrames_174 (Q := Q) C hk12 v1 v2 v6 ((M.1 40 0 42)) 1  _ hw (lv_sub hl [0, 1, 2, 4] rfl) hP hS
def b_X11_layFrames_106 (Q : Mem → Prop) (k12 : Int32 → Int32 → Mem → Prop) (v1 : Int32) (v2 : Int32) (v3 : Int32) (v4 : Int32) (v5 : Int32) (s0 : Int32) (M : Mem) : Prop := ((s0 = 0 → (b_X11_layFrames_154 Q k12 v1 v2 v5 s0 M)) ∧ (¬ s0 = 0 → (vp_in (M.1 40 0 41) 64 ∧ (∀ M16 : Mem, M16 = sI M 55 0 ((M.1 40 0 41) : Int32).toNatClampNeg v2 → (vp_in (M16.1 40 0 41) 64 ∧ (∀ M17 : Mem, M17 = sI M16 56 0 ((M16.1 40 0 41) : Int32).toNatClampNeg v3 → (vp_in (M17.1 40 0 41) 64 ∧ (∀ M18 : Mem, M18 = sI M17 57 0 ((M17.1 40 0 41) : Int32).toNatClampNeg (vp_nar .boolean v4) → (∀ M19 : Mem, M19 = sI M18 40 0 41 ((M18.1 40 0 41) + 1) → (b_X11_layFrames_154 Q k12 v1 v2 v5 s0 M19))))))))))
set_option maxRecDepth 100000 in
set_option maxHeartbeats 4000000 in
theorem k_X11_layFrames_106 {p : Program} {l : Launch} {e : Env} {s : State} {m : MethodId} {args : Array Value} {below : List Frame} {meth : Method} {c : Code} {g : Geo} (C : CX g p s m args meth c cX11_layFrames 7 none RX11) {Q : Mem → Prop} {k12 : Int32 → Int32 → Mem → Prop} (hk12 : ∀ (v1 : Int32) (v2 : Int32) (M : Mem), k12 v1 v2 M → ∀ (H : Heap) (locs : List Loc) (ls : Array Slot), lv_has ls 7 [(0, .ref (g.2.1 (138 + 0))), (1, .int v1), (2, .int v2)] → va_P g.1 clz (yw g M) H → va_S (Af 1 g) s.heap H locs → W p l e ({ frames := 3, cells := 0, slots := 0, locals := 67 } : Room) s m args below meth c H locs 0 0 (MQ below (va_Qv Q (PB g (yw g)) (Af 1 g)) args s 0 0 (Af 1 g)) (F0 m 12 ls [])) (v1 : Int32) (v2 : Int32) (v3 : Int32) (v4 : Int32) (v5 : Int32) (s0 : Int32) (M : Mem) (hw : b_X11_layFrames_106 Q k12 v1 v2 v3 v4 v5 s0 M) {H : Heap} {locs : List Loc} {ls : Array Slot} (hl : lv_has ls 7 [(0, .ref (g.2.1 (138 + 0))), (1, .int v1), (2, .int v2), (3, .int v3), (4, .int v4), (5, .int v5)]) (hP : va_P g.1 clz (yw g M) H) (hS : va_S (Af 1 g) s.heap H locs) : W p l e ({ frames := 3, cells := 0, slots := 0, locals := 67 } : Room) s m args below meth c H locs 0 0 (MQ below (va_Qv Q (PB g (yw g)) (Af 1 g)) args s 0 0 (Af 1 g)) (F0 m 106 ls [.int s0]) := by
  unfold b_X11_layFrames_106 at hw
  refine lv_istore (lv' := [(6, .int s0), (0, .ref (g.2.1 (138 + 0))), (1, .int v1), (2, .int v2), (3, .int v3), (4, .int v4), (5, .int v5)]) C.1 C.2.1 dX11_layFrames_106 hl (by decide) rfl (fun ls hl => ?_)
  refine lv_iload C.1 C.2.1 dX11_layFrames_108 (lv_at hl 0 rfl) ?_
  refine lv_if_eq (tgt := 154) C.1 C.2.1 dX11_layFrames_110 (by decide) (fun h10 => ?_) (fun h10 => ?_)
  · have hw := hw.1 h10
    exact k_X11_layFrames_154 (Q := Q) C hk12 v1 v2 v5 s0  _ hw (lv_sub hl [1, 2, 3, 6, 0] rfl) hP hS
  · have hw := hw.2 h10
    refine lv_aload_n C.1 C.2.1 dX11_layFrames_113 rfl (lv_at hl 1 rfl) ?_
    refine gX11_58 C hP Nat.zero_lt_one dX11_layFrames_114 ?_
    refine lv_aload_n C.1 C.2.1 dX11_layFrames_117 rfl (lv_at hl 1 rfl) ?_
    refine gX11_368 C hP Nat.zero_lt_one dX11_layFrames_118 ?_
    refine lv_iload_n C.1 C.2.1 dX11_layFrames_121 rfl (lv_at hl 3 rfl) ?_
    obtain ⟨h16, hw⟩ := hw
    refine as_55 C hP hS Nat.zero_lt_one h16 dX11_layFrames_122 (fun M16 e16 H locs hP hS => ?_)
    have hw := hw M16 e16
    refine lv_aload_n C.1 C.2.1 dX11_layFrames_123 rfl (lv_at hl 1 rfl) ?_
    refine gX11_61 C hP Nat.zero_lt_one dX11_layFrames_124 ?_
    refine lv_aload_n C.1 C.2.1 dX11_layFrames_127 rfl (lv_at hl 1 rfl) ?_
    refine gX11_368 C hP Nat.zero_lt_one dX11_layFrames_128 ?_
    refine lv_iload_n C.1 C.2.1 dX11_layFrames_131 rfl (lv_at hl 4 rfl) ?_
    obtain ⟨h17, hw⟩ := hw
    refine as_56 C hP hS Nat.zero_lt_one h17 dX11_layFrames_132 (fun M17 e17 H locs hP hS => ?_)
    have hw := hw M17 e17
    refine lv_aload_n C.1 C.2.1 dX11_layFrames_133 rfl (lv_at hl 1 rfl) ?_
    refine gX11_64 C hP Nat.zero_lt_one dX11_layFrames_134 ?_
    refine lv_aload_n C.1 C.2.1 dX11_layFrames_137 rfl (lv_at hl 1 rfl) ?_
    refine gX11_368 C hP Nat.zero_lt_one dX11_layFrames_138 ?_
    refine lv_iload C.1 C.2.1 dX11_layFrames_141 (lv_at hl 5 rfl) ?_
    obtain ⟨h18, hw⟩ := hw
    refine as_57 C hP hS Nat.zero_lt_one h18 dX11_layFrames_143 (fun M18 e18 H locs hP hS => ?_)
    have hw := hw M18 e18
    refine lv_aload_n C.1 C.2.1 dX11_layFrames_144 rfl (lv_at hl 1 rfl) ?_
    refine lv_dup C.1 C.2.1 dX11_layFrames_145 rfl ?_
    refine gX11_368 C hP Nat.zero_lt_one dX11_layFrames_146 ?_
    refine lv_iconst (v := 1) C.1 C.2.1 dX11_layFrames_149 (by decide) ?_
    refine lv_iadd C.1 C.2.1 dX11_layFrames_150 ?_
    refine pX11_368 C hP hS Nat.zero_lt_one dX11_layFrames_151 (fun M19 e19 H locs hP hS => ?_)
    have hw := hw M19 e19
    exact k_X11_layFrames_154 (Q := Q) C hk12 v1 v2 v5 s0  _ hw (lv_sub hl [1, 2, 3, 6, 0] rfl) hP hS
def b_X11_layFrames_77 (Q : Mem → Prop) (k12 : Int32 → Int32 → Mem → Prop) (v1 : Int32) (v2 : Int32) (v3 : Int32) (v4 : Int32) (s0 : Int32) (M : Mem) : Prop := ((s0 = 0 → (b_X11_layFrames_105 Q (fun v1 v2 v3 v4 v5 s0 M => b_X11_layFrames_106 Q k12 v1 v2 v3 v4 v5 s0 M) v1 v2 v3 v4 s0 M)) ∧ (¬ s0 = 0 → (p_X11_parityOf (((v3 >>> (4 &&& 31)) &&& 255)) M (fun r20 M20 => ((¬ r20 = (v3 &&& 15) → (b_X11_layFrames_105 Q (fun v1 v2 v3 v4 v5 s0 M => b_X11_layFrames_106 Q k12 v1 v2 v3 v4 v5 s0 M) v1 v2 v3 v4 s0 M20)) ∧ (r20 = (v3 &&& 15) → (b_X11_layFrames_106 Q k12 v1 v2 v3 v4 s0 1 M20)))))))
set_option maxRecDepth 100000 in
set_option maxHeartbeats 4000000 in
theorem k_X11_layFrames_77 {p : Program} {l : Launch} {e : Env} {s : State} {m : MethodId} {args : Array Value} {below : List Frame} {meth : Method} {c : Code} {g : Geo} (C : CX g p s m args meth c cX11_layFrames 7 none RX11) {Q : Mem → Prop} {k12 : Int32 → Int32 → Mem → Prop} (hk12 : ∀ (v1 : Int32) (v2 : Int32) (M : Mem), k12 v1 v2 M → ∀ (H : Heap) (locs : List Loc) (ls : Array Slot), lv_has ls 7 [(0, .ref (g.2.1 (138 + 0))), (1, .int v1), (2, .int v2)] → va_P g.1 clz (yw g M) H → va_S (Af 1 g) s.heap H locs → W p l e ({ frames := 3, cells := 0, slots := 0, locals := 67 } : Room) s m args below meth c H locs 0 0 (MQ below (va_Qv Q (PB g (yw g)) (Af 1 g)) args s 0 0 (Af 1 g)) (F0 m 12 ls [])) (v1 : Int32) (v2 : Int32) (v3 : Int32) (v4 : Int32) (s0 : Int32) (M : Mem) (hw : b_X11_layFrames_77 Q k12 v1 v2 v3 v4 s0 M) {H : Heap} {locs : List Loc} {ls : Array Slot} (hl : lv_has ls 7 [(0, .ref (g.2.1 (138 + 0))), (1, .int v1), (2, .int v2), (3, .int v3), (4, .int v4)]) (hP : va_P g.1 clz (yw g M) H) (hS : va_S (Af 1 g) s.heap H locs) : W p l e ({ frames := 3, cells := 0, slots := 0, locals := 67 } : Room) s m args below meth c H locs 0 0 (MQ below (va_Qv Q (PB g (yw g)) (Af 1 g)) args s 0 0 (Af 1 g)) (F0 m 77 ls [.int s0]) := by
  unfold b_X11_layFrames_77 at hw
  refine lv_istore (lv' := [(5, .int s0), (0, .ref (g.2.1 (138 + 0))), (1, .int v1), (2, .int v2), (3, .int v3), (4, .int v4)]) C.1 C.2.1 dX11_layFrames_77 hl (by decide) rfl (fun ls hl => ?_)
  refine lv_iload C.1 C.2.1 dX11_layFrames_79 (lv_at hl 0 rfl) ?_
  refine lv_if_eq (tgt := 105) C.1 C.2.1 dX11_layFrames_81 (by decide) (fun h9 => ?_) (fun h9 => ?_)
  · have hw := hw.1 h9
    exact k_X11_layFrames_105 (Q := Q) C (fun v1 v2 v3 v4 v5 s0  M hw H locs ls hl hP hS => k_X11_layFrames_106 (Q := Q) C hk12 v1 v2 v3 v4 v5 s0  M hw hl hP hS) v1 v2 v3 v4 s0  _ hw (lv_sub hl [1, 2, 3, 4, 5, 0] rfl) hP hS
  · have hw := hw.2 h9
    refine lv_iload_n C.1 C.2.1 dX11_layFrames_84 rfl (lv_at hl 4 rfl) ?_
    refine lv_iconst (v := 4) C.1 C.2.1 dX11_layFrames_85 (by decide) ?_
    refine lv_ishr C.1 C.2.1 dX11_layFrames_86 ?_
    refine lv_sipush (v := 255) C.1 C.2.1 dX11_layFrames_87 (by decide) ?_
    refine lv_iand C.1 C.2.1 dX11_layFrames_90 ?_
    refine goI (wf := (yw g)) (runS (w := yw g M) (As := [.int ((v3 >>> (4 &&& 31)) &&& 255)]) (rest := []) C lkX11_240 (c_X11_parityOf l g C.2.2.2.2.2.2.2.2.2.2 (((v3 >>> (4 &&& 31)) &&& 255))  M _ hw) hP hS rfl rfl ⟨Nat.le_of_ble_eq_true rfl, Nat.le_of_ble_eq_true rfl⟩ hl.1 rfl (Nat.le_of_ble_eq_true rfl) dX11_layFrames_91) hS (fun r20 M20 hw H locs hP hS => ?_)
    refine lv_iload_n C.1 C.2.1 dX11_layFrames_94 rfl (lv_at hl 4 rfl) ?_
    refine lv_bipush (v := 15) C.1 C.2.1 dX11_layFrames_95 (by decide) ?_
    refine lv_iand C.1 C.2.1 dX11_layFrames_97 ?_
    refine lv_icmp_ne (tgt := 105) C.1 C.2.1 dX11_layFrames_98 (by decide) (fun h21 => ?_) (fun h21 => ?_)
    · have hw := hw.1 h21
      exact k_X11_layFrames_105 (Q := Q) C (fun v1 v2 v3 v4 v5 s0  M hw H locs ls hl hP hS => k_X11_layFrames_106 (Q := Q) C hk12 v1 v2 v3 v4 v5 s0  M hw hl hP hS) v1 v2 v3 v4 s0  _ hw (lv_sub hl [1, 2, 3, 4, 5, 0] rfl) hP hS
    · have hw := hw.2 h21
      refine lv_iconst (v := 1) C.1 C.2.1 dX11_layFrames_101 (by decide) ?_
      refine lv_goto (tgt := 106) C.1 C.2.1 dX11_layFrames_102 (by decide) ?_
      exact k_X11_layFrames_106 (Q := Q) C hk12 v1 v2 v3 v4 s0 1  _ hw (lv_sub hl [1, 2, 3, 4, 5, 0] rfl) hP hS
def b_X11_layFrames_62 (Q : Mem → Prop) (k12 : Int32 → Int32 → Mem → Prop) (v1 : Int32) (v2 : Int32) (v4 : Int32) (s0 : Int32) (M : Mem) : Prop := ((¬ (s0 >>> (12 &&& 31)) = 11 → (b_X11_layFrames_77 Q k12 v1 v2 s0 v4 0 M)) ∧ ((s0 >>> (12 &&& 31)) = 11 → (b_X11_layFrames_77 Q k12 v1 v2 s0 v4 1 M)))
set_option maxRecDepth 100000 in
set_option maxHeartbeats 4000000 in
theorem k_X11_layFrames_62 {p : Program} {l : Launch} {e : Env} {s : State} {m : MethodId} {args : Array Value} {below : List Frame} {meth : Method} {c : Code} {g : Geo} (C : CX g p s m args meth c cX11_layFrames 7 none RX11) {Q : Mem → Prop} {k12 : Int32 → Int32 → Mem → Prop} (hk12 : ∀ (v1 : Int32) (v2 : Int32) (M : Mem), k12 v1 v2 M → ∀ (H : Heap) (locs : List Loc) (ls : Array Slot), lv_has ls 7 [(0, .ref (g.2.1 (138 + 0))), (1, .int v1), (2, .int v2)] → va_P g.1 clz (yw g M) H → va_S (Af 1 g) s.heap H locs → W p l e ({ frames := 3, cells := 0, slots := 0, locals := 67 } : Room) s m args below meth c H locs 0 0 (MQ below (va_Qv Q (PB g (yw g)) (Af 1 g)) args s 0 0 (Af 1 g)) (F0 m 12 ls [])) (v1 : Int32) (v2 : Int32) (v4 : Int32) (s0 : Int32) (M : Mem) (hw : b_X11_layFrames_62 Q k12 v1 v2 v4 s0 M) {H : Heap} {locs : List Loc} {ls : Array Slot} (hl : lv_has ls 7 [(0, .ref (g.2.1 (138 + 0))), (1, .int v1), (2, .int v2), (4, .int v4)]) (hP : va_P g.1 clz (yw g M) H) (hS : va_S (Af 1 g) s.heap H locs) : W p l e ({ frames := 3, cells := 0, slots := 0, locals := 67 } : Room) s m args below meth c H locs 0 0 (MQ below (va_Qv Q (PB g (yw g)) (Af 1 g)) args s 0 0 (Af 1 g)) (F0 m 62 ls [.int s0]) := by
  unfold b_X11_layFrames_62 at hw
  refine lv_istore_n (lv' := [(3, .int s0), (0, .ref (g.2.1 (138 + 0))), (1, .int v1), (2, .int v2), (4, .int v4)]) C.1 C.2.1 dX11_layFrames_62 rfl hl (by decide) rfl (fun ls hl => ?_)
  refine lv_iload_n C.1 C.2.1 dX11_layFrames_63 rfl (lv_at hl 0 rfl) ?_
  refine lv_bipush (v := 12) C.1 C.2.1 dX11_layFrames_64 (by decide) ?_
  refine lv_ishr C.1 C.2.1 dX11_layFrames_66 ?_
  refine lv_bipush (v := 11) C.1 C.2.1 dX11_layFrames_67 (by decide) ?_
  refine lv_icmp_ne (tgt := 76) C.1 C.2.1 dX11_layFrames_69 (by decide) (fun h8 => ?_) (fun h8 => ?_)
  · have hw := hw.1 h8
    refine lv_iconst (v := 0) C.1 C.2.1 dX11_layFrames_76 (by decide) ?_
    exact k_X11_layFrames_77 (Q := Q) C hk12 v1 v2 s0 v4 0  _ hw (lv_sub hl [1, 2, 3, 0, 4] rfl) hP hS
  · have hw := hw.2 h8
    refine lv_iconst (v := 1) C.1 C.2.1 dX11_layFrames_72 (by decide) ?_
    refine lv_goto (tgt := 77) C.1 C.2.1 dX11_layFrames_73 (by decide) ?_
    exact k_X11_layFrames_77 (Q := Q) C hk12 v1 v2 s0 v4 1  _ hw (lv_sub hl [1, 2, 3, 0, 4] rfl) hP hS
def b_X11_layFrames_46 (Q : Mem → Prop) (k12 : Int32 → Int32 → Mem → Prop) (v1 : Int32) (v2 : Int32) (v3 : Int32) (s0 : Int32) (M : Mem) : Prop := ((s0 = 0 → (b_X11_layFrames_62 Q k12 v1 v2 s0 v3 M)) ∧ (¬ s0 = 0 → (b_X11_layFrames_62 Q k12 v1 v2 s0 (((65535 : Int32) - v3)) M)))
set_option maxRecDepth 100000 in
set_option maxHeartbeats 4000000 in
theorem k_X11_layFrames_46 {p : Program} {l : Launch} {e : Env} {s : State} {m : MethodId} {args : Array Value} {below : List Frame} {meth : Method} {c : Code} {g : Geo} (C : CX g p s m args meth c cX11_layFrames 7 none RX11) {Q : Mem → Prop} {k12 : Int32 → Int32 → Mem → Prop} (hk12 : ∀ (v1 : Int32) (v2 : Int32) (M : Mem), k12 v1 v2 M → ∀ (H : Heap) (locs : List Loc) (ls : Array Slot), lv_has ls 7 [(0, .ref (g.2.1 (138 + 0))), (1, .int v1), (2, .int v2)] → va_P g.1 clz (yw g M) H → va_S (Af 1 g) s.heap H locs → W p l e ({ frames := 3, cells := 0, slots := 0, locals := 67 } : Room) s m args below meth c H locs 0 0 (MQ below (va_Qv Q (PB g (yw g)) (Af 1 g)) args s 0 0 (Af 1 g)) (F0 m 12 ls [])) (v1 : Int32) (v2 : Int32) (v3 : Int32) (s0 : Int32) (M : Mem) (hw : b_X11_layFrames_46 Q k12 v1 v2 v3 s0 M) {H : Heap} {locs : List Loc} {ls : Array Slot} (hl : lv_has ls 7 [(0, .ref (g.2.1 (138 + 0))), (1, .int v1), (2, .int v2), (3, .int v3)]) (hP : va_P g.1 clz (yw g M) H) (hS : va_S (Af 1 g) s.heap H locs) : W p l e ({ frames := 3, cells := 0, slots := 0, locals := 67 } : Room) s m args below meth c H locs 0 0 (MQ below (va_Qv Q (PB g (yw g)) (Af 1 g)) args s 0 0 (Af 1 g)) (F0 m 46 ls [.int s0]) := by
  unfold b_X11_layFrames_46 at hw
  refine lv_istore (lv' := [(4, .int s0), (0, .ref (g.2.1 (138 + 0))), (1, .int v1), (2, .int v2), (3, .int v3)]) C.1 C.2.1 dX11_layFrames_46 hl (by decide) rfl (fun ls hl => ?_)
  refine lv_iload C.1 C.2.1 dX11_layFrames_48 (lv_at hl 0 rfl) ?_
  refine lv_if_eq (tgt := 61) C.1 C.2.1 dX11_layFrames_50 (by decide) (fun h7 => ?_) (fun h7 => ?_)
  · have hw := hw.1 h7
    refine lv_iload_n C.1 C.2.1 dX11_layFrames_61 rfl (lv_at hl 4 rfl) ?_
    exact k_X11_layFrames_62 (Q := Q) C hk12 v1 v2 s0 v3  _ hw (lv_sub hl [1, 2, 3, 0] rfl) hP hS
  · have hw := hw.2 h7
    refine lv_ldcw (v := 65535) C.1 C.2.1 C.2.2.2.2.1 (C.2.2.2.2.2.1 _ (bg_of 1822 (by decide +kernel) rfl)) dX11_layFrames_53 ?_
    refine lv_iload_n C.1 C.2.1 dX11_layFrames_56 rfl (lv_at hl 4 rfl) ?_
    refine lv_isub C.1 C.2.1 dX11_layFrames_57 ?_
    refine lv_goto (tgt := 62) C.1 C.2.1 dX11_layFrames_58 (by decide) ?_
    exact k_X11_layFrames_62 (Q := Q) C hk12 v1 v2 s0 (((65535 : Int32) - v3))  _ hw (lv_sub hl [1, 2, 3, 0] rfl) hP hS
def b_X11_layFrames_12 (Q : Mem → Prop) : Nat → Int32 → Int32 → Mem → Prop
  | 0, _, _, _ => False
  | n + 1, v1, v2, M => (p_X11_at v1 8 M (fun r3 M3 => ((r3 < (v2 + 16) → (Q M3)) ∧ (¬ r3 < (v2 + 16) → (p_X11_sixteen v1 v2 M3 (fun r5 M5 => ((¬ (r5 >>> (12 &&& 31)) = 4 → (b_X11_layFrames_46 Q (fun v1 v2 M => b_X11_layFrames_12 Q n v1 v2 M) v1 v2 r5 0 M5)) ∧ ((r5 >>> (12 &&& 31)) = 4 → (b_X11_layFrames_46 Q (fun v1 v2 M => b_X11_layFrames_12 Q n v1 v2 M) v1 v2 r5 1 M5)))))))))
set_option maxRecDepth 100000 in
set_option maxHeartbeats 4000000 in
theorem k_X11_layFrames_12 {p : Program} {l : Launch} {e : Env} {s : State} {m : MethodId} {args : Array Value} {below : List Frame} {meth : Method} {c : Code} {g : Geo} (C : CX g p s m args meth c cX11_layFrames 7 none RX11) {Q : Mem → Prop} : ∀ (n : Nat) (v1 : Int32) (v2 : Int32) (M : Mem) (hw : b_X11_layFrames_12 Q n v1 v2 M) {H : Heap} {locs : List Loc} {ls : Array Slot} (hl : lv_has ls 7 [(0, .ref (g.2.1 (138 + 0))), (1, .int v1), (2, .int v2)]) (hP : va_P g.1 clz (yw g M) H) (hS : va_S (Af 1 g) s.heap H locs), W p l e ({ frames := 3, cells := 0, slots := 0, locals := 67 } : Room) s m args below meth c H locs 0 0 (MQ below (va_Qv Q (PB g (yw g)) (Af 1 g)) args s 0 0 (Af 1 g)) (F0 m 12 ls []) := by
  intro n
  induction n with
  | zero => intro v1 v2 M hw H locs ls hl hP hS; exact absurd hw (by rw [b_X11_layFrames_12]; exact fun h => h)
  | succ n ih =>
    intro v1 v2 M hw H locs ls hl hP hS
    rw [b_X11_layFrames_12] at hw
    refine lv_iload_n C.1 C.2.1 dX11_layFrames_12 rfl (lv_at hl 2 rfl) ?_
    refine lv_bipush (v := 16) C.1 C.2.1 dX11_layFrames_13 (by decide) ?_
    refine lv_iadd C.1 C.2.1 dX11_layFrames_15 ?_
    refine lv_aload_n C.1 C.2.1 dX11_layFrames_16 rfl (lv_at hl 0 rfl) ?_
    refine lv_iload_n C.1 C.2.1 dX11_layFrames_17 rfl (lv_at hl 1 rfl) ?_
    refine lv_bipush (v := 8) C.1 C.2.1 dX11_layFrames_18 (by decide) ?_
    refine goI (wf := (yw g)) (runV (w := yw g M) (As := [.int v1, .int 8]) (rest := [.int (v2 + 16)]) C lkX11_352 (c_X11_at l g C.2.2.2.2.2.2.2.2.2.2 v1 8  M _ hw) hP hS rfl rfl ⟨Nat.le_of_ble_eq_true rfl, Nat.le_of_ble_eq_true rfl⟩ (xx_40 Nat.zero_lt_one) rfl rfl hl.1 rfl (Nat.le_of_ble_eq_true rfl) dX11_layFrames_20) hS (fun r3 M3 hw H locs hP hS => ?_)
    refine lv_icmp_gt (tgt := 195) C.1 C.2.1 dX11_layFrames_23 (by decide) (fun h4 => ?_) (fun h4 => ?_)
    · have hw := hw.1 h4
      exact retV (wf := (yw g)) C hP hS hw dX11_layFrames_195
    · have hw := hw.2 h4
      refine lv_aload_n C.1 C.2.1 dX11_layFrames_26 rfl (lv_at hl 0 rfl) ?_
      refine lv_iload_n C.1 C.2.1 dX11_layFrames_27 rfl (lv_at hl 1 rfl) ?_
      refine lv_iload_n C.1 C.2.1 dX11_layFrames_28 rfl (lv_at hl 2 rfl) ?_
      refine goI (wf := (yw g)) (runV (w := yw g M3) (As := [.int v1, .int v2]) (rest := []) C lkX11_374 (c_X11_sixteen l g C.2.2.2.2.2.2.2.2.2.2 v1 v2  M3 _ hw) hP hS rfl rfl ⟨Nat.le_of_ble_eq_true rfl, Nat.le_of_ble_eq_true rfl⟩ (xx_40 Nat.zero_lt_one) rfl rfl hl.1 rfl (Nat.le_of_ble_eq_true rfl) dX11_layFrames_29) hS (fun r5 M5 hw H locs hP hS => ?_)
      refine lv_istore_n (lv' := [(3, .int r5), (0, .ref (g.2.1 (138 + 0))), (1, .int v1), (2, .int v2)]) C.1 C.2.1 dX11_layFrames_32 rfl hl (by decide) rfl (fun ls hl => ?_)
      refine lv_iload_n C.1 C.2.1 dX11_layFrames_33 rfl (lv_at hl 0 rfl) ?_
      refine lv_bipush (v := 12) C.1 C.2.1 dX11_layFrames_34 (by decide) ?_
      refine lv_ishr C.1 C.2.1 dX11_layFrames_36 ?_
      refine lv_iconst (v := 4) C.1 C.2.1 dX11_layFrames_37 (by decide) ?_
      refine lv_icmp_ne (tgt := 45) C.1 C.2.1 dX11_layFrames_38 (by decide) (fun h6 => ?_) (fun h6 => ?_)
      · have hw := hw.1 h6
        refine lv_iconst (v := 0) C.1 C.2.1 dX11_layFrames_45 (by decide) ?_
        exact k_X11_layFrames_46 (Q := Q) C (fun v1 v2  M hw H locs ls hl hP hS => ih v1 v2  M hw hl hP hS) v1 v2 r5 0  _ hw (lv_sub hl [1, 2, 3, 0] rfl) hP hS
      · have hw := hw.2 h6
        refine lv_iconst (v := 1) C.1 C.2.1 dX11_layFrames_41 (by decide) ?_
        refine lv_goto (tgt := 46) C.1 C.2.1 dX11_layFrames_42 (by decide) ?_
        exact k_X11_layFrames_46 (Q := Q) C (fun v1 v2  M hw H locs ls hl hP hS => ih v1 v2  M hw hl hP hS) v1 v2 r5 1  _ hw (lv_sub hl [1, 2, 3, 0] rfl) hP hS
def p_X11_layFrames (a1 : Int32) (M : Mem) (Q : Mem → Prop) : Prop := (∀ M1 : Mem, M1 = sI M 40 0 41 0 → (∀ M2 : Mem, M2 = sI M1 40 0 42 0 → (∃ n12 : Nat, b_X11_layFrames_12 Q n12 a1 0 M2)))
set_option maxRecDepth 100000 in
set_option maxHeartbeats 4000000 in
theorem c_X11_layFrames (l : Launch) (g : Geo) (gi : GI g) (a1 : Int32) (M : Mem) (Q : Mem → Prop) (hw : p_X11_layFrames a1 M Q) : Met l yX11_layFrames (Cond.code yX11_layFrames cX11_layFrames 7 none :: bg) ({ frames := 3, cells := 0, slots := 0, locals := 67 } : Room) (va_Pc [.ref (g.2.1 (138 + 0)), .int a1] (PW g (yw g M))) (va_Qv Q (PB g (yw g)) (Af 1 g)) 0 0 (Af 1 g) := by
  refine Met.ofW (cc := cX11_layFrames) (maxL := 7) (ret := none) (by decide +kernel) rfl ?_
  intro p e s m args below meth c s₁ B hml hv
  obtain ⟨rfl, hv⟩ := hv
  have C := CX.start (own := RX11) B hml rfl gi hv
  have hP := hv.1
  have hS : va_S (Af 1 g) s.heap s.heap [] := va_S.rf
  have hl := lv_entry ([.ref (g.2.1 (138 + 0)), .int a1]) (n := 7) (Nat.le_of_ble_eq_true rfl)
  rw [lg_entry_eq]
  generalize (lg_sl ([.ref (g.2.1 (138 + 0)), .int a1]) ++ List.replicate (7 - (lg_sl ([.ref (g.2.1 (138 + 0)), .int a1])).length) Slot.unset).toArray = ls at hl ⊢
  have hl : lv_has ls 7 [(0, .ref (g.2.1 (138 + 0))), (1, .int a1)] := hl
  unfold p_X11_layFrames at hw
  refine lv_aload_n C.1 C.2.1 dX11_layFrames_0 rfl (lv_at hl 0 rfl) ?_
  refine lv_iconst (v := 0) C.1 C.2.1 dX11_layFrames_1 (by decide) ?_
  refine pX11_368 C hP hS Nat.zero_lt_one dX11_layFrames_2 (fun M1 e1 H locs hP hS => ?_)
  have hw := hw M1 e1
  refine lv_aload_n C.1 C.2.1 dX11_layFrames_5 rfl (lv_at hl 0 rfl) ?_
  refine lv_iconst (v := 0) C.1 C.2.1 dX11_layFrames_6 (by decide) ?_
  refine pX11_371 C hP hS Nat.zero_lt_one dX11_layFrames_7 (fun M2 e2 H locs hP hS => ?_)
  have hw := hw M2 e2
  refine lv_iconst (v := 0) C.1 C.2.1 dX11_layFrames_10 (by decide) ?_
  refine lv_istore_n (lv' := [(2, .int 0), (0, .ref (g.2.1 (138 + 0))), (1, .int a1)]) C.1 C.2.1 dX11_layFrames_11 rfl hl (by decide) rfl (fun ls hl => ?_)
  obtain ⟨n9, hw⟩ := hw
  exact k_X11_layFrames_12 (Q := Q) C n9 a1 0  _ hw (lv_sub hl [1, 2, 0] rfl) hP hS
