def p_X11_chip (a1 : Int32) (a2 : Int32) (M : Mem) (Q : Int32 → Mem → Prop) : Prop := (∀ M1 : Mem, M1 = sI M 40 0 2 0 → (p_X11_isBird a1 M1 (fun r2 M2 => ((r2 = 0 → (Q 0 M2)) ∧ (¬ r2 = 0 → (p_X11_isIn a2 0 30 M2 (fun r4 M4 => ((r4 = 0 → (Q 0 M4)) ∧ (¬ r4 = 0 → (p_X11_birdOf a1 1 M4 (fun r6 M6 => (p_X11_chipBy r6 a2 M6 (fun r7 M7 => (Q r7 M7))))))))))))))
set_option maxRecDepth 100000 in
set_option maxHeartbeats 4000000 in
theorem c_X11_chip (l : Launch) (g : Geo) (gi : GI g) (a1 : Int32) (a2 : Int32) (M : Mem) (Q : Int32 → Mem → Prop) (hw : p_X11_chip a1 a2 M Q) : Met l yX11_chip (Cond.code yX11_chip cX11_chip 3 (some .int) :: bg) ({ frames := 1, cells := 0, slots := 0, locals := 22 } : Room) (va_Pc [.ref (g.2.1 (138 + 0)), .int a1, .int a2] (PW g (yw g M))) (va_Qi Q (PB g (yw g)) (Af 1 g)) 0 0 (Af 1 g) := by
  refine Met.ofW (cc := cX11_chip) (maxL := 3) (ret := (some .int)) (by decide +kernel) rfl ?_
  intro p e s m args below meth c s₁ B hml hv
  obtain ⟨rfl, hv⟩ := hv
  have C := CX.start (own := RX11) B hml rfl gi hv
  have hP := hv.1
  have hS : va_S (Af 1 g) s.heap s.heap [] := va_S.rf
  have hl := lv_entry ([.ref (g.2.1 (138 + 0)), .int a1, .int a2]) (n := 3) (Nat.le_of_ble_eq_true rfl)
  rw [lg_entry_eq]
  generalize (lg_sl ([.ref (g.2.1 (138 + 0)), .int a1, .int a2]) ++ List.replicate (3 - (lg_sl ([.ref (g.2.1 (138 + 0)), .int a1, .int a2])).length) Slot.unset).toArray = ls at hl ⊢
  have hl : lv_has ls 3 [(0, .ref (g.2.1 (138 + 0))), (1, .int a1), (2, .int a2)] := hl
  unfold p_X11_chip at hw
  refine lv_aload_n C.1 C.2.1 dX11_chip_0 rfl (lv_at hl 0 rfl) ?_
  refine lv_iconst (v := 0) C.1 C.2.1 dX11_chip_1 (by decide) ?_
  refine pX11_76 C hP hS Nat.zero_lt_one dX11_chip_2 (fun M1 e1 H locs hP hS => ?_)
  have hw := hw M1 e1
  refine lv_aload_n C.1 C.2.1 dX11_chip_5 rfl (lv_at hl 0 rfl) ?_
  refine lv_iload_n C.1 C.2.1 dX11_chip_6 rfl (lv_at hl 1 rfl) ?_
  refine goI (wf := (yw g)) (runV (w := yw g M1) (As := [.int a1]) (rest := []) C lkX11_216 (c_X11_isBird l g C.2.2.2.2.2.2.2.2.2.2 a1  M1 _ hw) hP hS rfl rfl ⟨Nat.le_of_ble_eq_true rfl, Nat.le_of_ble_eq_true rfl⟩ (xx_40 Nat.zero_lt_one) rfl rfl hl.1 rfl (Nat.le_of_ble_eq_true rfl) dX11_chip_7) hS (fun r2 M2 hw H locs hP hS => ?_)
  obtain ⟨hw, hz2⟩ := hw
  refine lv_if_eq (tgt := 37) C.1 C.2.1 dX11_chip_10 (by decide) (fun h3 => ?_) (fun h3 => ?_)
  · have hw := hw.1 h3
    refine lv_iconst (v := 0) C.1 C.2.1 dX11_chip_37 (by decide) ?_
    exact retI (wf := (yw g)) C hP hS hw dX11_chip_38
  · have hw := hw.2 h3
    refine lv_iload_n C.1 C.2.1 dX11_chip_13 rfl (lv_at hl 2 rfl) ?_
    refine lv_iconst (v := 0) C.1 C.2.1 dX11_chip_14 (by decide) ?_
    refine lv_bipush (v := 30) C.1 C.2.1 dX11_chip_15 (by decide) ?_
    refine goI (wf := (yw g)) (runS (w := yw g M2) (As := [.int a2, .int 0, .int 30]) (rest := []) C lkX11_166 (c_X11_isIn l g C.2.2.2.2.2.2.2.2.2.2 a2 0 30  M2 _ hw) hP hS rfl rfl ⟨Nat.le_of_ble_eq_true rfl, Nat.le_of_ble_eq_true rfl⟩ hl.1 rfl (Nat.le_of_ble_eq_true rfl) dX11_chip_17) hS (fun r4 M4 hw H locs hP hS => ?_)
    obtain ⟨hw, hz4⟩ := hw
    refine lv_if_eq (tgt := 37) C.1 C.2.1 dX11_chip_20 (by decide) (fun h5 => ?_) (fun h5 => ?_)
    · have hw := hw.1 h5
      refine lv_iconst (v := 0) C.1 C.2.1 dX11_chip_37 (by decide) ?_
      exact retI (wf := (yw g)) C hP hS hw dX11_chip_38
    · have hw := hw.2 h5
      refine lv_aload_n C.1 C.2.1 dX11_chip_23 rfl (lv_at hl 0 rfl) ?_
      refine lv_aload_n C.1 C.2.1 dX11_chip_24 rfl (lv_at hl 0 rfl) ?_
      refine lv_iload_n C.1 C.2.1 dX11_chip_25 rfl (lv_at hl 1 rfl) ?_
      refine lv_iconst (v := 1) C.1 C.2.1 dX11_chip_26 (by decide) ?_
      refine goI (wf := (yw g)) (runV (w := yw g M4) (As := [.int a1, .int 1]) (rest := [.ref (g.2.1 (138 + 0))]) C lkX11_160 (c_X11_birdOf l g C.2.2.2.2.2.2.2.2.2.2 a1 1  M4 _ hw) hP hS rfl rfl ⟨Nat.le_of_ble_eq_true rfl, Nat.le_of_ble_eq_true rfl⟩ (xx_40 Nat.zero_lt_one) rfl rfl hl.1 rfl (Nat.le_of_ble_eq_true rfl) dX11_chip_27) hS (fun r6 M6 hw H locs hP hS => ?_)
      refine lv_iload_n C.1 C.2.1 dX11_chip_30 rfl (lv_at hl 2 rfl) ?_
      refine goI (wf := (yw g)) (runV (w := yw g M6) (As := [.int r6, .int a2]) (rest := []) C lkX11_229 (c_X11_chipBy l g C.2.2.2.2.2.2.2.2.2.2 r6 a2  M6 _ hw) hP hS rfl rfl ⟨Nat.le_of_ble_eq_true rfl, Nat.le_of_ble_eq_true rfl⟩ (xx_40 Nat.zero_lt_one) rfl rfl hl.1 rfl (Nat.le_of_ble_eq_true rfl) dX11_chip_31) hS (fun r7 M7 hw H locs hP hS => ?_)
      refine lv_goto (tgt := 38) C.1 C.2.1 dX11_chip_34 (by decide) ?_
      exact retI (wf := (yw g)) C hP hS hw dX11_chip_38
def b_X11_period_50 (Q : Int32 → Mem → Prop) (v2 : Int32) (v3 : Int32) (M : Mem) : Prop := ((¬ v2 = 31 → (Q (-2) M)) ∧ (v2 = 31 → (Q v3 M)))
set_option maxRecDepth 100000 in
set_option maxHeartbeats 4000000 in
theorem k_X11_period_50 {p : Program} {l : Launch} {e : Env} {s : State} {m : MethodId} {args : Array Value} {below : List Frame} {meth : Method} {c : Code} {g : Geo} (C : CX g p s m args meth c cX11_period 4 (some .int) RX11) {Q : Int32 → Mem → Prop} (v2 : Int32) (v3 : Int32) (M : Mem) (hw : b_X11_period_50 Q v2 v3 M) {H : Heap} {locs : List Loc} {ls : Array Slot} (hl : lv_has ls 4 [(2, .int v2), (3, .int v3)]) (hP : va_P g.1 clz (yw g M) H) (hS : va_S (Af 1 g) s.heap H locs) : W p l e ({ frames := 2, cells := 0, slots := 0, locals := 43 } : Room) s m args below meth c H locs 0 0 (MQ below (va_Qi Q (PB g (yw g)) (Af 1 g)) args s 0 0 (Af 1 g)) (F0 m 50 ls []) := by
  unfold b_X11_period_50 at hw
  refine lv_iload_n C.1 C.2.1 dX11_period_50 rfl (lv_at hl 0 rfl) ?_
  refine lv_bipush (v := 31) C.1 C.2.1 dX11_period_51 (by decide) ?_
  refine lv_icmp_ne (tgt := 60) C.1 C.2.1 dX11_period_53 (by decide) (fun h6 => ?_) (fun h6 => ?_)
  · have hw := hw.1 h6
    refine lv_bipush (v := (-2)) C.1 C.2.1 dX11_period_60 (by decide) ?_
    exact retI (wf := (yw g)) C hP hS hw dX11_period_62
  · have hw := hw.2 h6
    refine lv_iload_n C.1 C.2.1 dX11_period_56 rfl (lv_at hl 1 rfl) ?_
    refine lv_goto (tgt := 62) C.1 C.2.1 dX11_period_57 (by decide) ?_
    exact retI (wf := (yw g)) C hP hS hw dX11_period_62
def b_X11_period_26 (Q : Int32 → Mem → Prop) : Nat → Int32 → Int32 → Int32 → Mem → Prop
  | 0, _, _, _, _ => False
  | n + 1, v1, v2, v3, M => ((v2 = 31 → (b_X11_period_50 Q v2 v3 M)) ∧ (¬ v2 = 31 → ((33 ≤ v3 → (b_X11_period_50 Q v2 v3 M)) ∧ (¬ 33 ≤ v3 → (p_X11_stepped v2 v1 M (fun r8 M8 => (∀ x9 : Int32, x9 = (v3 + 1) → (b_X11_period_26 Q n v1 r8 x9 M8))))))))
set_option maxRecDepth 100000 in
set_option maxHeartbeats 4000000 in
theorem k_X11_period_26 {p : Program} {l : Launch} {e : Env} {s : State} {m : MethodId} {args : Array Value} {below : List Frame} {meth : Method} {c : Code} {g : Geo} (C : CX g p s m args meth c cX11_period 4 (some .int) RX11) {Q : Int32 → Mem → Prop} : ∀ (n : Nat) (v1 : Int32) (v2 : Int32) (v3 : Int32) (M : Mem) (hw : b_X11_period_26 Q n v1 v2 v3 M) {H : Heap} {locs : List Loc} {ls : Array Slot} (hl : lv_has ls 4 [(1, .int v1), (2, .int v2), (3, .int v3)]) (hP : va_P g.1 clz (yw g M) H) (hS : va_S (Af 1 g) s.heap H locs), W p l e ({ frames := 2, cells := 0, slots := 0, locals := 43 } : Room) s m args below meth c H locs 0 0 (MQ below (va_Qi Q (PB g (yw g)) (Af 1 g)) args s 0 0 (Af 1 g)) (F0 m 26 ls []) := by
  intro n
  induction n with
  | zero => intro v1 v2 v3 M hw H locs ls hl hP hS; exact absurd hw (by rw [b_X11_period_26]; exact fun h => h)
  | succ n ih =>
    intro v1 v2 v3 M hw H locs ls hl hP hS
    rw [b_X11_period_26] at hw
    refine lv_iload_n C.1 C.2.1 dX11_period_26 rfl (lv_at hl 1 rfl) ?_
    refine lv_bipush (v := 31) C.1 C.2.1 dX11_period_27 (by decide) ?_
    refine lv_icmp_eq (tgt := 50) C.1 C.2.1 dX11_period_29 (by decide) (fun h5 => ?_) (fun h5 => ?_)
    · have hw := hw.1 h5
      exact k_X11_period_50 (Q := Q) C v2 v3  _ hw (lv_sub hl [1, 2] rfl) hP hS
    · have hw := hw.2 h5
      refine lv_iload_n C.1 C.2.1 dX11_period_32 rfl (lv_at hl 2 rfl) ?_
      refine lv_bipush (v := 33) C.1 C.2.1 dX11_period_33 (by decide) ?_
      refine lv_icmp_ge (tgt := 50) C.1 C.2.1 dX11_period_35 (by decide) (fun h7 => ?_) (fun h7 => ?_)
      · have hw := hw.1 h7
        exact k_X11_period_50 (Q := Q) C v2 v3  _ hw (lv_sub hl [1, 2] rfl) hP hS
      · have hw := hw.2 h7
        refine lv_iload_n C.1 C.2.1 dX11_period_38 rfl (lv_at hl 1 rfl) ?_
        refine lv_iload_n C.1 C.2.1 dX11_period_39 rfl (lv_at hl 0 rfl) ?_
        refine goI (wf := (yw g)) (runS (w := yw g M) (As := [.int v2, .int v1]) (rest := []) C lkX11_226 (c_X11_stepped l g C.2.2.2.2.2.2.2.2.2.2 v2 v1  M _ hw) hP hS rfl rfl ⟨Nat.le_of_ble_eq_true rfl, Nat.le_of_ble_eq_true rfl⟩ hl.1 rfl (Nat.le_of_ble_eq_true rfl) dX11_period_40) hS (fun r8 M8 hw H locs hP hS => ?_)
        refine lv_istore_n (lv' := [(2, .int r8), (1, .int v1), (3, .int v3)]) C.1 C.2.1 dX11_period_43 rfl hl (by decide) rfl (fun ls hl => ?_)
        obtain ⟨x9, e9⟩ : ∃ y : Int32, y = (v3 + 1) := ⟨_, rfl⟩
        have hw := hw x9 e9
        refine lv_iinc (v := x9) (lv' := [(3, .int x9), (2, .int r8), (1, .int v1)]) C.1 C.2.1 dX11_period_44 hl (k := 2) rfl (by rw [e9]; rfl) (by decide) rfl (fun ls hl => ?_)
        refine lv_goto (tgt := 26) C.1 C.2.1 dX11_period_47 (by decide) ?_
        exact ih v1 r8 x9  _ hw (lv_sub hl [2, 1, 0] rfl) hP hS
def p_X11_period (a1 : Int32) (M : Mem) (Q : Int32 → Mem → Prop) : Prop := (∀ M1 : Mem, M1 = sI M 40 0 2 0 → (p_X11_isIn a1 1 31 M1 (fun r2 M2 => ((¬ r2 = 0 → (p_X11_stepped 31 a1 M2 (fun r4 M4 => (∃ n26 : Nat, b_X11_period_26 Q n26 a1 r4 1 M4)))) ∧ (r2 = 0 → (Q (-1) M2))))))
set_option maxRecDepth 100000 in
set_option maxHeartbeats 4000000 in
theorem c_X11_period (l : Launch) (g : Geo) (gi : GI g) (a1 : Int32) (M : Mem) (Q : Int32 → Mem → Prop) (hw : p_X11_period a1 M Q) : Met l yX11_period (Cond.code yX11_period cX11_period 4 (some .int) :: bg) ({ frames := 2, cells := 0, slots := 0, locals := 43 } : Room) (va_Pc [.ref (g.2.1 (138 + 0)), .int a1] (PW g (yw g M))) (va_Qi Q (PB g (yw g)) (Af 1 g)) 0 0 (Af 1 g) := by
  refine Met.ofW (cc := cX11_period) (maxL := 4) (ret := (some .int)) (by decide +kernel) rfl ?_
  intro p e s m args below meth c s₁ B hml hv
  obtain ⟨rfl, hv⟩ := hv
  have C := CX.start (own := RX11) B hml rfl gi hv
  have hP := hv.1
  have hS : va_S (Af 1 g) s.heap s.heap [] := va_S.rf
  have hl := lv_entry ([.ref (g.2.1 (138 + 0)), .int a1]) (n := 4) (Nat.le_of_ble_eq_true rfl)
  rw [lg_entry_eq]
  generalize (lg_sl ([.ref (g.2.1 (138 + 0)), .int a1]) ++ List.replicate (4 - (lg_sl ([.ref (g.2.1 (138 + 0)), .int a1])).length) Slot.unset).toArray = ls at hl ⊢
  have hl : lv_has ls 4 [(0, .ref (g.2.1 (138 + 0))), (1, .int a1)] := hl
  unfold p_X11_period at hw
  refine lv_aload_n C.1 C.2.1 dX11_period_0 rfl (lv_at hl 0 rfl) ?_
  refine lv_iconst (v := 0) C.1 C.2.1 dX11_period_1 (by decide) ?_
  refine pX11_76 C hP hS Nat.zero_lt_one dX11_period_2 (fun M1 e1 H locs hP hS => ?_)
  have hw := hw M1 e1
  refine lv_iload_n C.1 C.2.1 dX11_period_5 rfl (lv_at hl 1 rfl) ?_
  refine lv_iconst (v := 1) C.1 C.2.1 dX11_period_6 (by decide) ?_
  refine lv_bipush (v := 31) C.1 C.2.1 dX11_period_7 (by decide) ?_
  refine goI (wf := (yw g)) (runS (w := yw g M1) (As := [.int a1, .int 1, .int 31]) (rest := []) C lkX11_166 (c_X11_isIn l g C.2.2.2.2.2.2.2.2.2.2 a1 1 31  M1 _ hw) hP hS rfl rfl ⟨Nat.le_of_ble_eq_true rfl, Nat.le_of_ble_eq_true rfl⟩ hl.1 rfl (Nat.le_of_ble_eq_true rfl) dX11_period_9) hS (fun r2 M2 hw H locs hP hS => ?_)
  obtain ⟨hw, hz2⟩ := hw
  refine lv_if_ne (tgt := 17) C.1 C.2.1 dX11_period_12 (by decide) (fun h3 => ?_) (fun h3 => ?_)
  · have hw := hw.1 h3
    refine lv_bipush (v := 31) C.1 C.2.1 dX11_period_17 (by decide) ?_
    refine lv_iload_n C.1 C.2.1 dX11_period_19 rfl (lv_at hl 1 rfl) ?_
    refine goI (wf := (yw g)) (runS (w := yw g M2) (As := [.int 31, .int a1]) (rest := []) C lkX11_226 (c_X11_stepped l g C.2.2.2.2.2.2.2.2.2.2 31 a1  M2 _ hw) hP hS rfl rfl ⟨Nat.le_of_ble_eq_true rfl, Nat.le_of_ble_eq_true rfl⟩ hl.1 rfl (Nat.le_of_ble_eq_true rfl) dX11_period_20) hS (fun r4 M4 hw H locs hP hS => ?_)
    refine lv_istore_n (lv' := [(2, .int r4), (0, .ref (g.2.1 (138 + 0))), (1, .int a1)]) C.1 C.2.1 dX11_period_23 rfl hl (by decide) rfl (fun ls hl => ?_)
    refine lv_iconst (v := 1) C.1 C.2.1 dX11_period_24 (by decide) ?_
    refine lv_istore_n (lv' := [(3, .int 1), (2, .int r4), (0, .ref (g.2.1 (138 + 0))), (1, .int a1)]) C.1 C.2.1 dX11_period_25 rfl hl (by decide) rfl (fun ls hl => ?_)
    obtain ⟨n9, hw⟩ := hw
    exact k_X11_period_26 (Q := Q) C n9 a1 r4 1  _ hw (lv_sub hl [3, 1, 0] rfl) hP hS
  · have hw := hw.2 h3
    refine lv_iconst (v := (-1)) C.1 C.2.1 dX11_period_15 (by decide) ?_
    exact retI (wf := (yw g)) C hP hS hw dX11_period_16
def b_X11_crossed_6 (Q : Int32 → Mem → Prop) : Nat → Int32 → Int32 → Int32 → Int32 → Int32 → Mem → Prop
  | 0, _, _, _, _, _, _ => False
  | n + 1, v1, v2, v3, v4, v5, M => ((31 ≤ v5 → (Q v4 M)) ∧ (¬ 31 ≤ v5 → (p_X11_chipBy v1 v5 M (fun r2 M2 => (p_X11_chipBy v2 (((v5 + v3) - (v5 + v3) / 31 * 31)) M2 (fun r3 M3 => (∀ x4 : Int32, x4 = (v4 + (r2 * r3)) → (∀ x5 : Int32, x5 = (v5 + 1) → (b_X11_crossed_6 Q n v1 v2 v3 x4 x5 M3)))))))))
set_option maxRecDepth 100000 in
set_option maxHeartbeats 4000000 in
theorem k_X11_crossed_6 {p : Program} {l : Launch} {e : Env} {s : State} {m : MethodId} {args : Array Value} {below : List Frame} {meth : Method} {c : Code} {g : Geo} (C : CX g p s m args meth c cX11_crossed 6 (some .int) RX11) {Q : Int32 → Mem → Prop} : ∀ (n : Nat) (v1 : Int32) (v2 : Int32) (v3 : Int32) (v4 : Int32) (v5 : Int32) (M : Mem) (hw : b_X11_crossed_6 Q n v1 v2 v3 v4 v5 M) {H : Heap} {locs : List Loc} {ls : Array Slot} (hl : lv_has ls 6 [(0, .ref (g.2.1 (138 + 0))), (1, .int v1), (2, .int v2), (3, .int v3), (4, .int v4), (5, .int v5)]) (hP : va_P g.1 clz (yw g M) H) (hS : va_S (Af 1 g) s.heap H locs), W p l e ({ frames := 1, cells := 0, slots := 0, locals := 22 } : Room) s m args below meth c H locs 0 0 (MQ below (va_Qi Q (PB g (yw g)) (Af 1 g)) args s 0 0 (Af 1 g)) (F0 m 6 ls []) := by
  intro n
  induction n with
  | zero => intro v1 v2 v3 v4 v5 M hw H locs ls hl hP hS; exact absurd hw (by rw [b_X11_crossed_6]; exact fun h => h)
  | succ n ih =>
    intro v1 v2 v3 v4 v5 M hw H locs ls hl hP hS
    rw [b_X11_crossed_6] at hw
    refine lv_iload C.1 C.2.1 dX11_crossed_6 (lv_at hl 5 rfl) ?_
    refine lv_bipush (v := 31) C.1 C.2.1 dX11_crossed_8 (by decide) ?_
    refine lv_icmp_ge (tgt := 44) C.1 C.2.1 dX11_crossed_10 (by decide) (fun h1 => ?_) (fun h1 => ?_)
    · have hw := hw.1 h1
      refine lv_iload C.1 C.2.1 dX11_crossed_44 (lv_at hl 4 rfl) ?_
      exact retI (wf := (yw g)) C hP hS hw dX11_crossed_46
    · have hw := hw.2 h1
      refine lv_iload C.1 C.2.1 dX11_crossed_13 (lv_at hl 4 rfl) ?_
      refine lv_aload_n C.1 C.2.1 dX11_crossed_15 rfl (lv_at hl 0 rfl) ?_
      refine lv_iload_n C.1 C.2.1 dX11_crossed_16 rfl (lv_at hl 1 rfl) ?_
      refine lv_iload C.1 C.2.1 dX11_crossed_17 (lv_at hl 5 rfl) ?_
      refine goI (wf := (yw g)) (runV (w := yw g M) (As := [.int v1, .int v5]) (rest := [.int v4]) C lkX11_229 (c_X11_chipBy l g C.2.2.2.2.2.2.2.2.2.2 v1 v5  M _ hw) hP hS rfl rfl ⟨Nat.le_of_ble_eq_true rfl, Nat.le_of_ble_eq_true rfl⟩ (xx_40 Nat.zero_lt_one) rfl rfl hl.1 rfl (Nat.le_of_ble_eq_true rfl) dX11_crossed_19) hS (fun r2 M2 hw H locs hP hS => ?_)
      refine lv_aload_n C.1 C.2.1 dX11_crossed_22 rfl (lv_at hl 0 rfl) ?_
      refine lv_iload_n C.1 C.2.1 dX11_crossed_23 rfl (lv_at hl 2 rfl) ?_
      refine lv_iload C.1 C.2.1 dX11_crossed_24 (lv_at hl 5 rfl) ?_
      refine lv_iload_n C.1 C.2.1 dX11_crossed_26 rfl (lv_at hl 3 rfl) ?_
      refine lv_iadd C.1 C.2.1 dX11_crossed_27 ?_
      refine lv_bipush (v := 31) C.1 C.2.1 dX11_crossed_28 (by decide) ?_
      refine lv_irem C.1 C.2.1 dX11_crossed_30 (by decide) ?_
      refine goI (wf := (yw g)) (runV (w := yw g M2) (As := [.int v2, .int ((v5 + v3) - (v5 + v3) / 31 * 31)]) (rest := [.int r2, .int v4]) C lkX11_229 (c_X11_chipBy l g C.2.2.2.2.2.2.2.2.2.2 v2 (((v5 + v3) - (v5 + v3) / 31 * 31))  M2 _ hw) hP hS rfl rfl ⟨Nat.le_of_ble_eq_true rfl, Nat.le_of_ble_eq_true rfl⟩ (xx_40 Nat.zero_lt_one) rfl rfl hl.1 rfl (Nat.le_of_ble_eq_true rfl) dX11_crossed_31) hS (fun r3 M3 hw H locs hP hS => ?_)
      refine lv_imul C.1 C.2.1 dX11_crossed_34 ?_
      refine lv_iadd C.1 C.2.1 dX11_crossed_35 ?_
      refine lv_topi (fun x4 e4 => ?_)
      have hw := hw x4 e4
      refine lv_istore (lv' := [(4, .int x4), (0, .ref (g.2.1 (138 + 0))), (1, .int v1), (2, .int v2), (3, .int v3), (5, .int v5)]) C.1 C.2.1 dX11_crossed_36 hl (by decide) rfl (fun ls hl => ?_)
      obtain ⟨x5, e5⟩ : ∃ y : Int32, y = (v5 + 1) := ⟨_, rfl⟩
      have hw := hw x5 e5
      refine lv_iinc (v := x5) (lv' := [(5, .int x5), (4, .int x4), (0, .ref (g.2.1 (138 + 0))), (1, .int v1), (2, .int v2), (3, .int v3)]) C.1 C.2.1 dX11_crossed_38 hl (k := 5) rfl (by rw [e5]; rfl) (by decide) rfl (fun ls hl => ?_)
      refine lv_goto (tgt := 6) C.1 C.2.1 dX11_crossed_41 (by decide) ?_
      exact ih v1 v2 v3 x4 x5  _ hw (lv_sub hl [2, 3, 4, 5, 1, 0] rfl) hP hS
def p_X11_crossed (a1 : Int32) (a2 : Int32) (a3 : Int32) (M : Mem) (Q : Int32 → Mem → Prop) : Prop := (∃ n6 : Nat, b_X11_crossed_6 Q n6 a1 a2 a3 0 0 M)
set_option maxRecDepth 100000 in
set_option maxHeartbeats 4000000 in
theorem c_X11_crossed (l : Launch) (g : Geo) (gi : GI g) (a1 : Int32) (a2 : Int32) (a3 : Int32) (M : Mem) (Q : Int32 → Mem → Prop) (hw : p_X11_crossed a1 a2 a3 M Q) : Met l yX11_crossed (Cond.code yX11_crossed cX11_crossed 6 (some .int) :: bg) ({ frames := 1, cells := 0, slots := 0, locals := 22 } : Room) (va_Pc [.ref (g.2.1 (138 + 0)), .int a1, .int a2, .int a3] (PW g (yw g M))) (va_Qi Q (PB g (yw g)) (Af 1 g)) 0 0 (Af 1 g) := by
  refine Met.ofW (cc := cX11_crossed) (maxL := 6) (ret := (some .int)) (by decide +kernel) rfl ?_
  intro p e s m args below meth c s₁ B hml hv
  obtain ⟨rfl, hv⟩ := hv
  have C := CX.start (own := RX11) B hml rfl gi hv
  have hP := hv.1
  have hS : va_S (Af 1 g) s.heap s.heap [] := va_S.rf
  have hl := lv_entry ([.ref (g.2.1 (138 + 0)), .int a1, .int a2, .int a3]) (n := 6) (Nat.le_of_ble_eq_true rfl)
  rw [lg_entry_eq]
  generalize (lg_sl ([.ref (g.2.1 (138 + 0)), .int a1, .int a2, .int a3]) ++ List.replicate (6 - (lg_sl ([.ref (g.2.1 (138 + 0)), .int a1, .int a2, .int a3])).length) Slot.unset).toArray = ls at hl ⊢
  have hl : lv_has ls 6 [(0, .ref (g.2.1 (138 + 0))), (1, .int a1), (2, .int a2), (3, .int a3)] := hl
  unfold p_X11_crossed at hw
  refine lv_iconst (v := 0) C.1 C.2.1 dX11_crossed_0 (by decide) ?_
  refine lv_istore (lv' := [(4, .int 0), (0, .ref (g.2.1 (138 + 0))), (1, .int a1), (2, .int a2), (3, .int a3)]) C.1 C.2.1 dX11_crossed_1 hl (by decide) rfl (fun ls hl => ?_)
  refine lv_iconst (v := 0) C.1 C.2.1 dX11_crossed_3 (by decide) ?_
  refine lv_istore (lv' := [(5, .int 0), (4, .int 0), (0, .ref (g.2.1 (138 + 0))), (1, .int a1), (2, .int a2), (3, .int a3)]) C.1 C.2.1 dX11_crossed_4 hl (by decide) rfl (fun ls hl => ?_)
  obtain ⟨n9, hw⟩ := hw
  exact k_X11_crossed_6 (Q := Q) C n9 a1 a2 a3 0 0  _ hw (lv_sub hl [2, 3, 4, 5, 1, 0] rfl) hP hS
def p_X11_cross (a1 : Int32) (a2 : Int32) (a3 : Int32) (M : Mem) (Q : Int32 → Mem → Prop) : Prop := (∀ M1 : Mem, M1 = sI M 40 0 2 0 → (p_X11_isBird a1 M1 (fun r2 M2 => ((r2 = 0 → (Q (-99) M2)) ∧ (¬ r2 = 0 → (p_X11_isBird a2 M2 (fun r4 M4 => ((r4 = 0 → (Q (-99) M4)) ∧ (¬ r4 = 0 → (p_X11_isIn a3 0 30 M4 (fun r6 M6 => ((r6 = 0 → (Q (-99) M6)) ∧ (¬ r6 = 0 → (p_X11_birdOf a1 1 M6 (fun r8 M8 => (p_X11_birdOf a2 1 M8 (fun r9 M9 => (p_X11_crossed r8 r9 a3 M9 (fun r10 M10 => (Q r10 M10))))))))))))))))))))
set_option maxRecDepth 100000 in
set_option maxHeartbeats 4000000 in
theorem c_X11_cross (l : Launch) (g : Geo) (gi : GI g) (a1 : Int32) (a2 : Int32) (a3 : Int32) (M : Mem) (Q : Int32 → Mem → Prop) (hw : p_X11_cross a1 a2 a3 M Q) : Met l yX11_cross (Cond.code yX11_cross cX11_cross 4 (some .int) :: bg) ({ frames := 2, cells := 0, slots := 0, locals := 47 } : Room) (va_Pc [.ref (g.2.1 (138 + 0)), .int a1, .int a2, .int a3] (PW g (yw g M))) (va_Qi Q (PB g (yw g)) (Af 1 g)) 0 0 (Af 1 g) := by
  refine Met.ofW (cc := cX11_cross) (maxL := 4) (ret := (some .int)) (by decide +kernel) rfl ?_
  intro p e s m args below meth c s₁ B hml hv
  obtain ⟨rfl, hv⟩ := hv
  have C := CX.start (own := RX11) B hml rfl gi hv
  have hP := hv.1
  have hS : va_S (Af 1 g) s.heap s.heap [] := va_S.rf
  have hl := lv_entry ([.ref (g.2.1 (138 + 0)), .int a1, .int a2, .int a3]) (n := 4) (Nat.le_of_ble_eq_true rfl)
  rw [lg_entry_eq]
  generalize (lg_sl ([.ref (g.2.1 (138 + 0)), .int a1, .int a2, .int a3]) ++ List.replicate (4 - (lg_sl ([.ref (g.2.1 (138 + 0)), .int a1, .int a2, .int a3])).length) Slot.unset).toArray = ls at hl ⊢
  have hl : lv_has ls 4 [(0, .ref (g.2.1 (138 + 0))), (1, .int a1), (2, .int a2), (3, .int a3)] := hl
  unfold p_X11_cross at hw
  refine lv_aload_n C.1 C.2.1 dX11_cross_0 rfl (lv_at hl 0 rfl) ?_
  refine lv_iconst (v := 0) C.1 C.2.1 dX11_cross_1 (by decide) ?_
  refine pX11_76 C hP hS Nat.zero_lt_one dX11_cross_2 (fun M1 e1 H locs hP hS => ?_)
  have hw := hw M1 e1
  refine lv_aload_n C.1 C.2.1 dX11_cross_5 rfl (lv_at hl 0 rfl) ?_
  refine lv_iload_n C.1 C.2.1 dX11_cross_6 rfl (lv_at hl 1 rfl) ?_
  refine goI (wf := (yw g)) (runV (w := yw g M1) (As := [.int a1]) (rest := []) C lkX11_216 (c_X11_isBird l g C.2.2.2.2.2.2.2.2.2.2 a1  M1 _ hw) hP hS rfl rfl ⟨Nat.le_of_ble_eq_true rfl, Nat.le_of_ble_eq_true rfl⟩ (xx_40 Nat.zero_lt_one) rfl rfl hl.1 rfl (Nat.le_of_ble_eq_true rfl) dX11_cross_7) hS (fun r2 M2 hw H locs hP hS => ?_)
  obtain ⟨hw, hz2⟩ := hw
  refine lv_if_eq (tgt := 51) C.1 C.2.1 dX11_cross_10 (by decide) (fun h3 => ?_) (fun h3 => ?_)
  · have hw := hw.1 h3
    refine lv_bipush (v := (-99)) C.1 C.2.1 dX11_cross_51 (by decide) ?_
    exact retI (wf := (yw g)) C hP hS hw dX11_cross_53
  · have hw := hw.2 h3
    refine lv_aload_n C.1 C.2.1 dX11_cross_13 rfl (lv_at hl 0 rfl) ?_
    refine lv_iload_n C.1 C.2.1 dX11_cross_14 rfl (lv_at hl 2 rfl) ?_
    refine goI (wf := (yw g)) (runV (w := yw g M2) (As := [.int a2]) (rest := []) C lkX11_216 (c_X11_isBird l g C.2.2.2.2.2.2.2.2.2.2 a2  M2 _ hw) hP hS rfl rfl ⟨Nat.le_of_ble_eq_true rfl, Nat.le_of_ble_eq_true rfl⟩ (xx_40 Nat.zero_lt_one) rfl rfl hl.1 rfl (Nat.le_of_ble_eq_true rfl) dX11_cross_15) hS (fun r4 M4 hw H locs hP hS => ?_)
    obtain ⟨hw, hz4⟩ := hw
    refine lv_if_eq (tgt := 51) C.1 C.2.1 dX11_cross_18 (by decide) (fun h5 => ?_) (fun h5 => ?_)
    · have hw := hw.1 h5
      refine lv_bipush (v := (-99)) C.1 C.2.1 dX11_cross_51 (by decide) ?_
      exact retI (wf := (yw g)) C hP hS hw dX11_cross_53
    · have hw := hw.2 h5
      refine lv_iload_n C.1 C.2.1 dX11_cross_21 rfl (lv_at hl 3 rfl) ?_
      refine lv_iconst (v := 0) C.1 C.2.1 dX11_cross_22 (by decide) ?_
      refine lv_bipush (v := 30) C.1 C.2.1 dX11_cross_23 (by decide) ?_
      refine goI (wf := (yw g)) (runS (w := yw g M4) (As := [.int a3, .int 0, .int 30]) (rest := []) C lkX11_166 (c_X11_isIn l g C.2.2.2.2.2.2.2.2.2.2 a3 0 30  M4 _ hw) hP hS rfl rfl ⟨Nat.le_of_ble_eq_true rfl, Nat.le_of_ble_eq_true rfl⟩ hl.1 rfl (Nat.le_of_ble_eq_true rfl) dX11_cross_25) hS (fun r6 M6 hw H locs hP hS => ?_)
      obtain ⟨hw, hz6⟩ := hw
      refine lv_if_eq (tgt := 51) C.1 C.2.1 dX11_cross_28 (by decide) (fun h7 => ?_) (fun h7 => ?_)
      · have hw := hw.1 h7
        refine lv_bipush (v := (-99)) C.1 C.2.1 dX11_cross_51 (by decide) ?_
        exact retI (wf := (yw g)) C hP hS hw dX11_cross_53
      · have hw := hw.2 h7
        refine lv_aload_n C.1 C.2.1 dX11_cross_31 rfl (lv_at hl 0 rfl) ?_
        refine lv_aload_n C.1 C.2.1 dX11_cross_32 rfl (lv_at hl 0 rfl) ?_
        refine lv_iload_n C.1 C.2.1 dX11_cross_33 rfl (lv_at hl 1 rfl) ?_
        refine lv_iconst (v := 1) C.1 C.2.1 dX11_cross_34 (by decide) ?_
        refine goI (wf := (yw g)) (runV (w := yw g M6) (As := [.int a1, .int 1]) (rest := [.ref (g.2.1 (138 + 0))]) C lkX11_160 (c_X11_birdOf l g C.2.2.2.2.2.2.2.2.2.2 a1 1  M6 _ hw) hP hS rfl rfl ⟨Nat.le_of_ble_eq_true rfl, Nat.le_of_ble_eq_true rfl⟩ (xx_40 Nat.zero_lt_one) rfl rfl hl.1 rfl (Nat.le_of_ble_eq_true rfl) dX11_cross_35) hS (fun r8 M8 hw H locs hP hS => ?_)
        refine lv_aload_n C.1 C.2.1 dX11_cross_38 rfl (lv_at hl 0 rfl) ?_
        refine lv_iload_n C.1 C.2.1 dX11_cross_39 rfl (lv_at hl 2 rfl) ?_
        refine lv_iconst (v := 1) C.1 C.2.1 dX11_cross_40 (by decide) ?_
        refine goI (wf := (yw g)) (runV (w := yw g M8) (As := [.int a2, .int 1]) (rest := [.int r8, .ref (g.2.1 (138 + 0))]) C lkX11_160 (c_X11_birdOf l g C.2.2.2.2.2.2.2.2.2.2 a2 1  M8 _ hw) hP hS rfl rfl ⟨Nat.le_of_ble_eq_true rfl, Nat.le_of_ble_eq_true rfl⟩ (xx_40 Nat.zero_lt_one) rfl rfl hl.1 rfl (Nat.le_of_ble_eq_true rfl) dX11_cross_41) hS (fun r9 M9 hw H locs hP hS => ?_)
        refine lv_iload_n C.1 C.2.1 dX11_cross_44 rfl (lv_at hl 3 rfl) ?_
        refine goI (wf := (yw g)) (runV (w := yw g M9) (As := [.int r8, .int r9, .int a3]) (rest := []) C lkX11_232 (c_X11_crossed l g C.2.2.2.2.2.2.2.2.2.2 r8 r9 a3  M9 _ hw) hP hS rfl rfl ⟨Nat.le_of_ble_eq_true rfl, Nat.le_of_ble_eq_true rfl⟩ (xx_40 Nat.zero_lt_one) rfl rfl hl.1 rfl (Nat.le_of_ble_eq_true rfl) dX11_cross_45) hS (fun r10 M10 hw H locs hP hS => ?_)
        refine lv_goto (tgt := 53) C.1 C.2.1 dX11_cross_48 (by decide) ?_
        exact retI (wf := (yw g)) C hP hS hw dX11_cross_53
def b_X11_worstOf_52 (Q : Int32 → Mem → Prop) (k6 : Int32 → Int32 → Int32 → Int32 → Mem → Prop) (v1 : Int32) (v2 : Int32) (v5 : Int32) (s0 : Int32) (M : Mem) : Prop := (∀ x5 : Int32, x5 = (v5 + 1) → (k6 v1 v2 s0 x5 M))
set_option maxRecDepth 100000 in
set_option maxHeartbeats 4000000 in
theorem k_X11_worstOf_52 {p : Program} {l : Launch} {e : Env} {s : State} {m : MethodId} {args : Array Value} {below : List Frame} {meth : Method} {c : Code} {g : Geo} (C : CX g p s m args meth c cX11_worstOf 7 (some .int) RX11) {Q : Int32 → Mem → Prop} {k6 : Int32 → Int32 → Int32 → Int32 → Mem → Prop} (hk6 : ∀ (v1 : Int32) (v2 : Int32) (v4 : Int32) (v5 : Int32) (M : Mem), k6 v1 v2 v4 v5 M → ∀ (H : Heap) (locs : List Loc) (ls : Array Slot), lv_has ls 7 [(0, .ref (g.2.1 (138 + 0))), (1, .int v1), (2, .int v2), (4, .int v4), (5, .int v5)] → va_P g.1 clz (yw g M) H → va_S (Af 1 g) s.heap H locs → W p l e ({ frames := 2, cells := 0, slots := 0, locals := 47 } : Room) s m args below meth c H locs 0 0 (MQ below (va_Qi Q (PB g (yw g)) (Af 1 g)) args s 0 0 (Af 1 g)) (F0 m 6 ls [])) (v1 : Int32) (v2 : Int32) (v5 : Int32) (s0 : Int32) (M : Mem) (hw : b_X11_worstOf_52 Q k6 v1 v2 v5 s0 M) {H : Heap} {locs : List Loc} {ls : Array Slot} (hl : lv_has ls 7 [(0, .ref (g.2.1 (138 + 0))), (1, .int v1), (2, .int v2), (5, .int v5)]) (hP : va_P g.1 clz (yw g M) H) (hS : va_S (Af 1 g) s.heap H locs) : W p l e ({ frames := 2, cells := 0, slots := 0, locals := 47 } : Room) s m args below meth c H locs 0 0 (MQ below (va_Qi Q (PB g (yw g)) (Af 1 g)) args s 0 0 (Af 1 g)) (F0 m 52 ls [.int s0]) := by
  unfold b_X11_worstOf_52 at hw
  refine lv_istore (lv' := [(4, .int s0), (0, .ref (g.2.1 (138 + 0))), (1, .int v1), (2, .int v2), (5, .int v5)]) C.1 C.2.1 dX11_worstOf_52 hl (by decide) rfl (fun ls hl => ?_)
  obtain ⟨x5, e5⟩ : ∃ y : Int32, y = (v5 + 1) := ⟨_, rfl⟩
  have hw := hw x5 e5
  refine lv_iinc (v := x5) (lv' := [(5, .int x5), (4, .int s0), (0, .ref (g.2.1 (138 + 0))), (1, .int v1), (2, .int v2)]) C.1 C.2.1 dX11_worstOf_54 hl (k := 4) rfl (by rw [e5]; rfl) (by decide) rfl (fun ls hl => ?_)
  refine lv_goto (tgt := 6) C.1 C.2.1 dX11_worstOf_57 (by decide) ?_
  exact hk6 v1 v2 s0 x5  _ hw _ _ _ (lv_sub hl [2, 3, 4, 1, 0] rfl) hP hS
def b_X11_worstOf_36 (Q : Int32 → Mem → Prop) (k6 : Int32 → Int32 → Int32 → Int32 → Mem → Prop) (v1 : Int32) (v2 : Int32) (v4 : Int32) (v5 : Int32) (s0 : Int32) (M : Mem) : Prop := ((s0 ≤ v4 → (b_X11_worstOf_52 Q k6 v1 v2 v5 v4 M)) ∧ (¬ s0 ≤ v4 → (b_X11_worstOf_52 Q k6 v1 v2 v5 s0 M)))
set_option maxRecDepth 100000 in
set_option maxHeartbeats 4000000 in
theorem k_X11_worstOf_36 {p : Program} {l : Launch} {e : Env} {s : State} {m : MethodId} {args : Array Value} {below : List Frame} {meth : Method} {c : Code} {g : Geo} (C : CX g p s m args meth c cX11_worstOf 7 (some .int) RX11) {Q : Int32 → Mem → Prop} {k6 : Int32 → Int32 → Int32 → Int32 → Mem → Prop} (hk6 : ∀ (v1 : Int32) (v2 : Int32) (v4 : Int32) (v5 : Int32) (M : Mem), k6 v1 v2 v4 v5 M → ∀ (H : Heap) (locs : List Loc) (ls : Array Slot), lv_has ls 7 [(0, .ref (g.2.1 (138 + 0))), (1, .int v1), (2, .int v2), (4, .int v4), (5, .int v5)] → va_P g.1 clz (yw g M) H → va_S (Af 1 g) s.heap H locs → W p l e ({ frames := 2, cells := 0, slots := 0, locals := 47 } : Room) s m args below meth c H locs 0 0 (MQ below (va_Qi Q (PB g (yw g)) (Af 1 g)) args s 0 0 (Af 1 g)) (F0 m 6 ls [])) (v1 : Int32) (v2 : Int32) (v4 : Int32) (v5 : Int32) (s0 : Int32) (M : Mem) (hw : b_X11_worstOf_36 Q k6 v1 v2 v4 v5 s0 M) {H : Heap} {locs : List Loc} {ls : Array Slot} (hl : lv_has ls 7 [(0, .ref (g.2.1 (138 + 0))), (1, .int v1), (2, .int v2), (4, .int v4), (5, .int v5)]) (hP : va_P g.1 clz (yw g M) H) (hS : va_S (Af 1 g) s.heap H locs) : W p l e ({ frames := 2, cells := 0, slots := 0, locals := 47 } : Room) s m args below meth c H locs 0 0 (MQ below (va_Qi Q (PB g (yw g)) (Af 1 g)) args s 0 0 (Af 1 g)) (F0 m 36 ls [.int s0]) := by
  unfold b_X11_worstOf_36 at hw
  refine lv_istore (lv' := [(6, .int s0), (0, .ref (g.2.1 (138 + 0))), (1, .int v1), (2, .int v2), (4, .int v4), (5, .int v5)]) C.1 C.2.1 dX11_worstOf_36 hl (by decide) rfl (fun ls hl => ?_)
  refine lv_iload C.1 C.2.1 dX11_worstOf_38 (lv_at hl 0 rfl) ?_
  refine lv_iload C.1 C.2.1 dX11_worstOf_40 (lv_at hl 4 rfl) ?_
  refine lv_icmp_le (tgt := 50) C.1 C.2.1 dX11_worstOf_42 (by decide) (fun h4 => ?_) (fun h4 => ?_)
  · have hw := hw.1 h4
    refine lv_iload C.1 C.2.1 dX11_worstOf_50 (lv_at hl 4 rfl) ?_
    exact k_X11_worstOf_52 (Q := Q) C hk6 v1 v2 v5 v4  _ hw (lv_sub hl [1, 2, 3, 5] rfl) hP hS
  · have hw := hw.2 h4
    refine lv_iload C.1 C.2.1 dX11_worstOf_45 (lv_at hl 0 rfl) ?_
    refine lv_goto (tgt := 52) C.1 C.2.1 dX11_worstOf_47 (by decide) ?_
    exact k_X11_worstOf_52 (Q := Q) C hk6 v1 v2 v5 s0  _ hw (lv_sub hl [1, 2, 3, 5] rfl) hP hS
def b_X11_worstOf_6 (Q : Int32 → Mem → Prop) : Nat → Int32 → Int32 → Int32 → Int32 → Mem → Prop
  | 0, _, _, _, _, _ => False
  | n + 1, v1, v2, v4, v5, M => ((31 ≤ v5 → (Q v4 M)) ∧ (¬ 31 ≤ v5 → (p_X11_crossed v1 v2 v5 M (fun r2 M2 => ((0 ≤ r2 → (b_X11_worstOf_36 Q (fun v1 v2 v4 v5 M => b_X11_worstOf_6 Q n v1 v2 v4 v5 M) v1 v2 v4 v5 r2 M2)) ∧ (¬ 0 ≤ r2 → (b_X11_worstOf_36 Q (fun v1 v2 v4 v5 M => b_X11_worstOf_6 Q n v1 v2 v4 v5 M) v1 v2 v4 v5 ((-r2)) M2)))))))
set_option maxRecDepth 100000 in
set_option maxHeartbeats 4000000 in
theorem k_X11_worstOf_6 {p : Program} {l : Launch} {e : Env} {s : State} {m : MethodId} {args : Array Value} {below : List Frame} {meth : Method} {c : Code} {g : Geo} (C : CX g p s m args meth c cX11_worstOf 7 (some .int) RX11) {Q : Int32 → Mem → Prop} : ∀ (n : Nat) (v1 : Int32) (v2 : Int32) (v4 : Int32) (v5 : Int32) (M : Mem) (hw : b_X11_worstOf_6 Q n v1 v2 v4 v5 M) {H : Heap} {locs : List Loc} {ls : Array Slot} (hl : lv_has ls 7 [(0, .ref (g.2.1 (138 + 0))), (1, .int v1), (2, .int v2), (4, .int v4), (5, .int v5)]) (hP : va_P g.1 clz (yw g M) H) (hS : va_S (Af 1 g) s.heap H locs), W p l e ({ frames := 2, cells := 0, slots := 0, locals := 47 } : Room) s m args below meth c H locs 0 0 (MQ below (va_Qi Q (PB g (yw g)) (Af 1 g)) args s 0 0 (Af 1 g)) (F0 m 6 ls []) := by
  intro n
  induction n with
  | zero => intro v1 v2 v4 v5 M hw H locs ls hl hP hS; exact absurd hw (by rw [b_X11_worstOf_6]; exact fun h => h)
  | succ n ih =>
    intro v1 v2 v4 v5 M hw H locs ls hl hP hS
    rw [b_X11_worstOf_6] at hw
    refine lv_iload C.1 C.2.1 dX11_worstOf_6 (lv_at hl 4 rfl) ?_
    refine lv_bipush (v := 31) C.1 C.2.1 dX11_worstOf_8 (by decide) ?_
    refine lv_icmp_ge (tgt := 60) C.1 C.2.1 dX11_worstOf_10 (by decide) (fun h1 => ?_) (fun h1 => ?_)
    · have hw := hw.1 h1
      refine lv_iload C.1 C.2.1 dX11_worstOf_60 (lv_at hl 3 rfl) ?_
      exact retI (wf := (yw g)) C hP hS hw dX11_worstOf_62
    · have hw := hw.2 h1
      refine lv_aload_n C.1 C.2.1 dX11_worstOf_13 rfl (lv_at hl 0 rfl) ?_
      refine lv_iload_n C.1 C.2.1 dX11_worstOf_14 rfl (lv_at hl 1 rfl) ?_
      refine lv_iload_n C.1 C.2.1 dX11_worstOf_15 rfl (lv_at hl 2 rfl) ?_
      refine lv_iload C.1 C.2.1 dX11_worstOf_16 (lv_at hl 4 rfl) ?_
      refine goI (wf := (yw g)) (runV (w := yw g M) (As := [.int v1, .int v2, .int v5]) (rest := []) C lkX11_232 (c_X11_crossed l g C.2.2.2.2.2.2.2.2.2.2 v1 v2 v5  M _ hw) hP hS rfl rfl ⟨Nat.le_of_ble_eq_true rfl, Nat.le_of_ble_eq_true rfl⟩ (xx_40 Nat.zero_lt_one) rfl rfl hl.1 rfl (Nat.le_of_ble_eq_true rfl) dX11_worstOf_18) hS (fun r2 M2 hw H locs hP hS => ?_)
      refine lv_istore (lv' := [(6, .int r2), (0, .ref (g.2.1 (138 + 0))), (1, .int v1), (2, .int v2), (4, .int v4), (5, .int v5)]) C.1 C.2.1 dX11_worstOf_21 hl (by decide) rfl (fun ls hl => ?_)
      refine lv_iload C.1 C.2.1 dX11_worstOf_23 (lv_at hl 0 rfl) ?_
      refine lv_if_ge (tgt := 34) C.1 C.2.1 dX11_worstOf_25 (by decide) (fun h3 => ?_) (fun h3 => ?_)
      · have hw := hw.1 h3
        refine lv_iload C.1 C.2.1 dX11_worstOf_34 (lv_at hl 0 rfl) ?_
        exact k_X11_worstOf_36 (Q := Q) C (fun v1 v2 v4 v5  M hw H locs ls hl hP hS => ih v1 v2 v4 v5  M hw hl hP hS) v1 v2 v4 v5 r2  _ hw (lv_sub hl [1, 2, 3, 4, 5] rfl) hP hS
      · have hw := hw.2 h3
        refine lv_iload C.1 C.2.1 dX11_worstOf_28 (lv_at hl 0 rfl) ?_
        refine lv_ineg C.1 C.2.1 dX11_worstOf_30 ?_
        refine lv_goto (tgt := 36) C.1 C.2.1 dX11_worstOf_31 (by decide) ?_
        exact k_X11_worstOf_36 (Q := Q) C (fun v1 v2 v4 v5  M hw H locs ls hl hP hS => ih v1 v2 v4 v5  M hw hl hP hS) v1 v2 v4 v5 ((-r2))  _ hw (lv_sub hl [1, 2, 3, 4, 5] rfl) hP hS
def p_X11_worstOf (a1 : Int32) (a2 : Int32) (a3 : Int32) (M : Mem) (Q : Int32 → Mem → Prop) : Prop := (∃ n6 : Nat, b_X11_worstOf_6 Q n6 a1 a2 0 a3 M)
set_option maxRecDepth 100000 in
set_option maxHeartbeats 4000000 in
theorem c_X11_worstOf (l : Launch) (g : Geo) (gi : GI g) (a1 : Int32) (a2 : Int32) (a3 : Int32) (M : Mem) (Q : Int32 → Mem → Prop) (hw : p_X11_worstOf a1 a2 a3 M Q) : Met l yX11_worstOf (Cond.code yX11_worstOf cX11_worstOf 7 (some .int) :: bg) ({ frames := 2, cells := 0, slots := 0, locals := 47 } : Room) (va_Pc [.ref (g.2.1 (138 + 0)), .int a1, .int a2, .int a3] (PW g (yw g M))) (va_Qi Q (PB g (yw g)) (Af 1 g)) 0 0 (Af 1 g) := by
  refine Met.ofW (cc := cX11_worstOf) (maxL := 7) (ret := (some .int)) (by decide +kernel) rfl ?_
  intro p e s m args below meth c s₁ B hml hv
  obtain ⟨rfl, hv⟩ := hv
  have C := CX.start (own := RX11) B hml rfl gi hv
  have hP := hv.1
  have hS : va_S (Af 1 g) s.heap s.heap [] := va_S.rf
  have hl := lv_entry ([.ref (g.2.1 (138 + 0)), .int a1, .int a2, .int a3]) (n := 7) (Nat.le_of_ble_eq_true rfl)
  rw [lg_entry_eq]
  generalize (lg_sl ([.ref (g.2.1 (138 + 0)), .int a1, .int a2, .int a3]) ++ List.replicate (7 - (lg_sl ([.ref (g.2.1 (138 + 0)), .int a1, .int a2, .int a3])).length) Slot.unset).toArray = ls at hl ⊢
  have hl : lv_has ls 7 [(0, .ref (g.2.1 (138 + 0))), (1, .int a1), (2, .int a2), (3, .int a3)] := hl
  unfold p_X11_worstOf at hw
  refine lv_iconst (v := 0) C.1 C.2.1 dX11_worstOf_0 (by decide) ?_
  refine lv_istore (lv' := [(4, .int 0), (0, .ref (g.2.1 (138 + 0))), (1, .int a1), (2, .int a2), (3, .int a3)]) C.1 C.2.1 dX11_worstOf_1 hl (by decide) rfl (fun ls hl => ?_)
  refine lv_iload_n C.1 C.2.1 dX11_worstOf_3 rfl (lv_at hl 4 rfl) ?_
  refine lv_istore (lv' := [(5, .int a3), (4, .int 0), (0, .ref (g.2.1 (138 + 0))), (1, .int a1), (2, .int a2), (3, .int a3)]) C.1 C.2.1 dX11_worstOf_4 hl (by decide) rfl (fun ls hl => ?_)
  obtain ⟨n9, hw⟩ := hw
  exact k_X11_worstOf_6 (Q := Q) C n9 a1 a2 0 a3  _ hw (lv_sub hl [2, 3, 4, 1, 0] rfl) hP hS
def b_X11_worst_44 (Q : Int32 → Mem → Prop) (s1 : Int32) (s2 : Int32) (s3 : Int32) (M : Mem) : Prop := (p_X11_worstOf s1 s2 s3 M (fun r9 M9 => (Q r9 M9)))
set_option maxRecDepth 100000 in
set_option maxHeartbeats 4000000 in
theorem k_X11_worst_44 {p : Program} {l : Launch} {e : Env} {s : State} {m : MethodId} {args : Array Value} {below : List Frame} {meth : Method} {c : Code} {g : Geo} (C : CX g p s m args meth c cX11_worst 3 (some .int) RX11) {Q : Int32 → Mem → Prop} (s1 : Int32) (s2 : Int32) (s3 : Int32) (M : Mem) (hw : b_X11_worst_44 Q s1 s2 s3 M) {H : Heap} {locs : List Loc} {ls : Array Slot} (hl : lv_has ls 3 []) (hP : va_P g.1 clz (yw g M) H) (hS : va_S (Af 1 g) s.heap H locs) : W p l e ({ frames := 3, cells := 0, slots := 0, locals := 73 } : Room) s m args below meth c H locs 0 0 (MQ below (va_Qi Q (PB g (yw g)) (Af 1 g)) args s 0 0 (Af 1 g)) (F0 m 44 ls [.int s3, .int s2, .int s1, .ref (g.2.1 (138 + 0))]) := by
  unfold b_X11_worst_44 at hw
  refine goI (wf := (yw g)) (runV (w := yw g M) (As := [.int s1, .int s2, .int s3]) (rest := []) C lkX11_236 (c_X11_worstOf l g C.2.2.2.2.2.2.2.2.2.2 s1 s2 s3  M _ hw) hP hS rfl rfl ⟨Nat.le_of_ble_eq_true rfl, Nat.le_of_ble_eq_true rfl⟩ (xx_40 Nat.zero_lt_one) rfl rfl hl.1 rfl (Nat.le_of_ble_eq_true rfl) dX11_worst_44) hS (fun r9 M9 hw H locs hP hS => ?_)
  refine lv_goto (tgt := 52) C.1 C.2.1 dX11_worst_47 (by decide) ?_
  exact retI (wf := (yw g)) C hP hS hw dX11_worst_52
def p_X11_worst (a1 : Int32) (a2 : Int32) (M : Mem) (Q : Int32 → Mem → Prop) : Prop := (∀ M1 : Mem, M1 = sI M 40 0 2 0 → (p_X11_isBird a1 M1 (fun r2 M2 => ((r2 = 0 → (Q (-2) M2)) ∧ (¬ r2 = 0 → (p_X11_isBird a2 M2 (fun r4 M4 => ((r4 = 0 → (Q (-2) M4)) ∧ (¬ r4 = 0 → (p_X11_birdOf a1 1 M4 (fun r6 M6 => (p_X11_birdOf a2 1 M6 (fun r7 M7 => ((¬ a1 = a2 → (b_X11_worst_44 Q r6 r7 0 M7)) ∧ (a1 = a2 → (b_X11_worst_44 Q r6 r7 1 M7))))))))))))))))
set_option maxRecDepth 100000 in
set_option maxHeartbeats 4000000 in
theorem c_X11_worst (l : Launch) (g : Geo) (gi : GI g) (a1 : Int32) (a2 : Int32) (M : Mem) (Q : Int32 → Mem → Prop) (hw : p_X11_worst a1 a2 M Q) : Met l yX11_worst (Cond.code yX11_worst cX11_worst 3 (some .int) :: bg) ({ frames := 3, cells := 0, slots := 0, locals := 73 } : Room) (va_Pc [.ref (g.2.1 (138 + 0)), .int a1, .int a2] (PW g (yw g M))) (va_Qi Q (PB g (yw g)) (Af 1 g)) 0 0 (Af 1 g) := by
  refine Met.ofW (cc := cX11_worst) (maxL := 3) (ret := (some .int)) (by decide +kernel) rfl ?_
  intro p e s m args below meth c s₁ B hml hv
  obtain ⟨rfl, hv⟩ := hv
  have C := CX.start (own := RX11) B hml rfl gi hv
  have hP := hv.1
  have hS : va_S (Af 1 g) s.heap s.heap [] := va_S.rf
  have hl := lv_entry ([.ref (g.2.1 (138 + 0)), .int a1, .int a2]) (n := 3) (Nat.le_of_ble_eq_true rfl)
  rw [lg_entry_eq]
  generalize (lg_sl ([.ref (g.2.1 (138 + 0)), .int a1, .int a2]) ++ List.replicate (3 - (lg_sl ([.ref (g.2.1 (138 + 0)), .int a1, .int a2])).length) Slot.unset).toArray = ls at hl ⊢
  have hl : lv_has ls 3 [(0, .ref (g.2.1 (138 + 0))), (1, .int a1), (2, .int a2)] := hl
  unfold p_X11_worst at hw
  refine lv_aload_n C.1 C.2.1 dX11_worst_0 rfl (lv_at hl 0 rfl) ?_
  refine lv_iconst (v := 0) C.1 C.2.1 dX11_worst_1 (by decide) ?_
  refine pX11_76 C hP hS Nat.zero_lt_one dX11_worst_2 (fun M1 e1 H locs hP hS => ?_)
  have hw := hw M1 e1
  refine lv_aload_n C.1 C.2.1 dX11_worst_5 rfl (lv_at hl 0 rfl) ?_
  refine lv_iload_n C.1 C.2.1 dX11_worst_6 rfl (lv_at hl 1 rfl) ?_
  refine goI (wf := (yw g)) (runV (w := yw g M1) (As := [.int a1]) (rest := []) C lkX11_216 (c_X11_isBird l g C.2.2.2.2.2.2.2.2.2.2 a1  M1 _ hw) hP hS rfl rfl ⟨Nat.le_of_ble_eq_true rfl, Nat.le_of_ble_eq_true rfl⟩ (xx_40 Nat.zero_lt_one) rfl rfl hl.1 rfl (Nat.le_of_ble_eq_true rfl) dX11_worst_7) hS (fun r2 M2 hw H locs hP hS => ?_)
  obtain ⟨hw, hz2⟩ := hw
  refine lv_if_eq (tgt := 50) C.1 C.2.1 dX11_worst_10 (by decide) (fun h3 => ?_) (fun h3 => ?_)
  · have hw := hw.1 h3
    refine lv_bipush (v := (-2)) C.1 C.2.1 dX11_worst_50 (by decide) ?_
    exact retI (wf := (yw g)) C hP hS hw dX11_worst_52
  · have hw := hw.2 h3
    refine lv_aload_n C.1 C.2.1 dX11_worst_13 rfl (lv_at hl 0 rfl) ?_
    refine lv_iload_n C.1 C.2.1 dX11_worst_14 rfl (lv_at hl 2 rfl) ?_
    refine goI (wf := (yw g)) (runV (w := yw g M2) (As := [.int a2]) (rest := []) C lkX11_216 (c_X11_isBird l g C.2.2.2.2.2.2.2.2.2.2 a2  M2 _ hw) hP hS rfl rfl ⟨Nat.le_of_ble_eq_true rfl, Nat.le_of_ble_eq_true rfl⟩ (xx_40 Nat.zero_lt_one) rfl rfl hl.1 rfl (Nat.le_of_ble_eq_true rfl) dX11_worst_15) hS (fun r4 M4 hw H locs hP hS => ?_)
    obtain ⟨hw, hz4⟩ := hw
    refine lv_if_eq (tgt := 50) C.1 C.2.1 dX11_worst_18 (by decide) (fun h5 => ?_) (fun h5 => ?_)
    · have hw := hw.1 h5
      refine lv_bipush (v := (-2)) C.1 C.2.1 dX11_worst_50 (by decide) ?_
      exact retI (wf := (yw g)) C hP hS hw dX11_worst_52
    · have hw := hw.2 h5
      refine lv_aload_n C.1 C.2.1 dX11_worst_21 rfl (lv_at hl 0 rfl) ?_
      refine lv_aload_n C.1 C.2.1 dX11_worst_22 rfl (lv_at hl 0 rfl) ?_
      refine lv_iload_n C.1 C.2.1 dX11_worst_23 rfl (lv_at hl 1 rfl) ?_
      refine lv_iconst (v := 1) C.1 C.2.1 dX11_worst_24 (by decide) ?_
      refine goI (wf := (yw g)) (runV (w := yw g M4) (As := [.int a1, .int 1]) (rest := [.ref (g.2.1 (138 + 0))]) C lkX11_160 (c_X11_birdOf l g C.2.2.2.2.2.2.2.2.2.2 a1 1  M4 _ hw) hP hS rfl rfl ⟨Nat.le_of_ble_eq_true rfl, Nat.le_of_ble_eq_true rfl⟩ (xx_40 Nat.zero_lt_one) rfl rfl hl.1 rfl (Nat.le_of_ble_eq_true rfl) dX11_worst_25) hS (fun r6 M6 hw H locs hP hS => ?_)
      refine lv_aload_n C.1 C.2.1 dX11_worst_28 rfl (lv_at hl 0 rfl) ?_
      refine lv_iload_n C.1 C.2.1 dX11_worst_29 rfl (lv_at hl 2 rfl) ?_
      refine lv_iconst (v := 1) C.1 C.2.1 dX11_worst_30 (by decide) ?_
      refine goI (wf := (yw g)) (runV (w := yw g M6) (As := [.int a2, .int 1]) (rest := [.int r6, .ref (g.2.1 (138 + 0))]) C lkX11_160 (c_X11_birdOf l g C.2.2.2.2.2.2.2.2.2.2 a2 1  M6 _ hw) hP hS rfl rfl ⟨Nat.le_of_ble_eq_true rfl, Nat.le_of_ble_eq_true rfl⟩ (xx_40 Nat.zero_lt_one) rfl rfl hl.1 rfl (Nat.le_of_ble_eq_true rfl) dX11_worst_31) hS (fun r7 M7 hw H locs hP hS => ?_)
      refine lv_iload_n C.1 C.2.1 dX11_worst_34 rfl (lv_at hl 1 rfl) ?_
      refine lv_iload_n C.1 C.2.1 dX11_worst_35 rfl (lv_at hl 2 rfl) ?_
      refine lv_icmp_ne (tgt := 43) C.1 C.2.1 dX11_worst_36 (by decide) (fun h8 => ?_) (fun h8 => ?_)
      · have hw := hw.1 h8
        refine lv_iconst (v := 0) C.1 C.2.1 dX11_worst_43 (by decide) ?_
        exact k_X11_worst_44 (Q := Q) C r6 r7 0  _ hw (lv_sub hl [] rfl) hP hS
      · have hw := hw.2 h8
        refine lv_iconst (v := 1) C.1 C.2.1 dX11_worst_39 (by decide) ?_
        refine lv_goto (tgt := 44) C.1 C.2.1 dX11_worst_40 (by decide) ?_
        exact k_X11_worst_44 (Q := Q) C r6 r7 1  _ hw (lv_sub hl [] rfl) hP hS
def b_X11_quiet_94 (Q : Int32 → Mem → Prop) (k12 : Int32 → Int32 → Int32 → Mem → Prop) (v1 : Int32) (v3 : Int32) (s0 : Int32) (M : Mem) : Prop := (∀ x6 : Int32, x6 = (v3 + 1) → (k12 v1 s0 x6 M))
set_option maxRecDepth 100000 in
set_option maxHeartbeats 4000000 in
theorem k_X11_quiet_94 {p : Program} {l : Launch} {e : Env} {s : State} {m : MethodId} {args : Array Value} {below : List Frame} {meth : Method} {c : Code} {g : Geo} (C : CX g p s m args meth c cX11_quiet 7 (some .int) RX11) {Q : Int32 → Mem → Prop} {k12 : Int32 → Int32 → Int32 → Mem → Prop} (hk12 : ∀ (v1 : Int32) (v2 : Int32) (v3 : Int32) (M : Mem), k12 v1 v2 v3 M → ∀ (H : Heap) (locs : List Loc) (ls : Array Slot), lv_has ls 7 [(0, .ref (g.2.1 (138 + 0))), (1, .int v1), (2, .int v2), (3, .int v3)] → va_P g.1 clz (yw g M) H → va_S (Af 1 g) s.heap H locs → W p l e ({ frames := 3, cells := 0, slots := 0, locals := 73 } : Room) s m args below meth c H locs 0 0 (MQ below (va_Qi Q (PB g (yw g)) (Af 1 g)) args s 0 0 (Af 1 g)) (F0 m 12 ls [])) (v1 : Int32) (v3 : Int32) (s0 : Int32) (M : Mem) (hw : b_X11_quiet_94 Q k12 v1 v3 s0 M) {H : Heap} {locs : List Loc} {ls : Array Slot} (hl : lv_has ls 7 [(0, .ref (g.2.1 (138 + 0))), (1, .int v1), (3, .int v3)]) (hP : va_P g.1 clz (yw g M) H) (hS : va_S (Af 1 g) s.heap H locs) : W p l e ({ frames := 3, cells := 0, slots := 0, locals := 73 } : Room) s m args below meth c H locs 0 0 (MQ below (va_Qi Q (PB g (yw g)) (Af 1 g)) args s 0 0 (Af 1 g)) (F0 m 94 ls [.int s0]) := by
  unfold b_X11_quiet_94 at hw
  refine lv_istore_n (lv' := [(2, .int s0), (0, .ref (g.2.1 (138 + 0))), (1, .int v1), (3, .int v3)]) C.1 C.2.1 dX11_quiet_94 rfl hl (by decide) rfl (fun ls hl => ?_)
  obtain ⟨x6, e6⟩ : ∃ y : Int32, y = (v3 + 1) := ⟨_, rfl⟩
  have hw := hw x6 e6
  refine lv_iinc (v := x6) (lv' := [(3, .int x6), (2, .int s0), (0, .ref (g.2.1 (138 + 0))), (1, .int v1)]) C.1 C.2.1 dX11_quiet_95 hl (k := 3) rfl (by rw [e6]; rfl) (by decide) rfl (fun ls hl => ?_)
  refine lv_goto (tgt := 12) C.1 C.2.1 dX11_quiet_98 (by decide) ?_
  exact hk12 v1 s0 x6  _ hw _ _ _ (lv_sub hl [2, 3, 1, 0] rfl) hP hS
def b_X11_quiet_81 (Q : Int32 → Mem → Prop) (k12 : Int32 → Int32 → Int32 → Mem → Prop) (v2 : Int32) (v3 : Int32) (v4 : Int32) (s0 : Int32) (M : Mem) : Prop := ((v2 ≤ v4 → (b_X11_quiet_94 Q k12 s0 v3 v2 M)) ∧ (¬ v2 ≤ v4 → (b_X11_quiet_94 Q k12 s0 v3 v4 M)))
set_option maxRecDepth 100000 in
set_option maxHeartbeats 4000000 in
theorem k_X11_quiet_81 {p : Program} {l : Launch} {e : Env} {s : State} {m : MethodId} {args : Array Value} {below : List Frame} {meth : Method} {c : Code} {g : Geo} (C : CX g p s m args meth c cX11_quiet 7 (some .int) RX11) {Q : Int32 → Mem → Prop} {k12 : Int32 → Int32 → Int32 → Mem → Prop} (hk12 : ∀ (v1 : Int32) (v2 : Int32) (v3 : Int32) (M : Mem), k12 v1 v2 v3 M → ∀ (H : Heap) (locs : List Loc) (ls : Array Slot), lv_has ls 7 [(0, .ref (g.2.1 (138 + 0))), (1, .int v1), (2, .int v2), (3, .int v3)] → va_P g.1 clz (yw g M) H → va_S (Af 1 g) s.heap H locs → W p l e ({ frames := 3, cells := 0, slots := 0, locals := 73 } : Room) s m args below meth c H locs 0 0 (MQ below (va_Qi Q (PB g (yw g)) (Af 1 g)) args s 0 0 (Af 1 g)) (F0 m 12 ls [])) (v2 : Int32) (v3 : Int32) (v4 : Int32) (s0 : Int32) (M : Mem) (hw : b_X11_quiet_81 Q k12 v2 v3 v4 s0 M) {H : Heap} {locs : List Loc} {ls : Array Slot} (hl : lv_has ls 7 [(0, .ref (g.2.1 (138 + 0))), (2, .int v2), (3, .int v3), (4, .int v4)]) (hP : va_P g.1 clz (yw g M) H) (hS : va_S (Af 1 g) s.heap H locs) : W p l e ({ frames := 3, cells := 0, slots := 0, locals := 73 } : Room) s m args below meth c H locs 0 0 (MQ below (va_Qi Q (PB g (yw g)) (Af 1 g)) args s 0 0 (Af 1 g)) (F0 m 81 ls [.int s0]) := by
  unfold b_X11_quiet_81 at hw
  refine lv_istore_n (lv' := [(1, .int s0), (0, .ref (g.2.1 (138 + 0))), (2, .int v2), (3, .int v3), (4, .int v4)]) C.1 C.2.1 dX11_quiet_81 rfl hl (by decide) rfl (fun ls hl => ?_)
  refine lv_iload C.1 C.2.1 dX11_quiet_82 (lv_at hl 4 rfl) ?_
  refine lv_iload_n C.1 C.2.1 dX11_quiet_84 rfl (lv_at hl 2 rfl) ?_
  refine lv_icmp_ge (tgt := 93) C.1 C.2.1 dX11_quiet_85 (by decide) (fun h5 => ?_) (fun h5 => ?_)
  · have hw := hw.1 h5
    refine lv_iload_n C.1 C.2.1 dX11_quiet_93 rfl (lv_at hl 2 rfl) ?_
    exact k_X11_quiet_94 (Q := Q) C hk12 s0 v3 v2  _ hw (lv_sub hl [1, 0, 3] rfl) hP hS
  · have hw := hw.2 h5
    refine lv_iload C.1 C.2.1 dX11_quiet_88 (lv_at hl 4 rfl) ?_
    refine lv_goto (tgt := 94) C.1 C.2.1 dX11_quiet_90 (by decide) ?_
    exact k_X11_quiet_94 (Q := Q) C hk12 s0 v3 v4  _ hw (lv_sub hl [1, 0, 3] rfl) hP hS
def b_X11_quiet_70 (Q : Int32 → Mem → Prop) (k12 : Int32 → Int32 → Int32 → Mem → Prop) (v1 : Int32) (v2 : Int32) (v3 : Int32) (v4 : Int32) (M : Mem) : Prop := ((v2 ≤ v4 → (b_X11_quiet_81 Q k12 v2 v3 v4 v1 M)) ∧ (¬ v2 ≤ v4 → (b_X11_quiet_81 Q k12 v2 v3 v4 v3 M)))
set_option maxRecDepth 100000 in
set_option maxHeartbeats 4000000 in
theorem k_X11_quiet_70 {p : Program} {l : Launch} {e : Env} {s : State} {m : MethodId} {args : Array Value} {below : List Frame} {meth : Method} {c : Code} {g : Geo} (C : CX g p s m args meth c cX11_quiet 7 (some .int) RX11) {Q : Int32 → Mem → Prop} {k12 : Int32 → Int32 → Int32 → Mem → Prop} (hk12 : ∀ (v1 : Int32) (v2 : Int32) (v3 : Int32) (M : Mem), k12 v1 v2 v3 M → ∀ (H : Heap) (locs : List Loc) (ls : Array Slot), lv_has ls 7 [(0, .ref (g.2.1 (138 + 0))), (1, .int v1), (2, .int v2), (3, .int v3)] → va_P g.1 clz (yw g M) H → va_S (Af 1 g) s.heap H locs → W p l e ({ frames := 3, cells := 0, slots := 0, locals := 73 } : Room) s m args below meth c H locs 0 0 (MQ below (va_Qi Q (PB g (yw g)) (Af 1 g)) args s 0 0 (Af 1 g)) (F0 m 12 ls [])) (v1 : Int32) (v2 : Int32) (v3 : Int32) (v4 : Int32) (M : Mem) (hw : b_X11_quiet_70 Q k12 v1 v2 v3 v4 M) {H : Heap} {locs : List Loc} {ls : Array Slot} (hl : lv_has ls 7 [(0, .ref (g.2.1 (138 + 0))), (1, .int v1), (2, .int v2), (3, .int v3), (4, .int v4)]) (hP : va_P g.1 clz (yw g M) H) (hS : va_S (Af 1 g) s.heap H locs) : W p l e ({ frames := 3, cells := 0, slots := 0, locals := 73 } : Room) s m args below meth c H locs 0 0 (MQ below (va_Qi Q (PB g (yw g)) (Af 1 g)) args s 0 0 (Af 1 g)) (F0 m 70 ls []) := by
  unfold b_X11_quiet_70 at hw
  refine lv_iload C.1 C.2.1 dX11_quiet_70 (lv_at hl 4 rfl) ?_
  refine lv_iload_n C.1 C.2.1 dX11_quiet_72 rfl (lv_at hl 2 rfl) ?_
  refine lv_icmp_ge (tgt := 80) C.1 C.2.1 dX11_quiet_73 (by decide) (fun h4 => ?_) (fun h4 => ?_)
  · have hw := hw.1 h4
    refine lv_iload_n C.1 C.2.1 dX11_quiet_80 rfl (lv_at hl 1 rfl) ?_
    exact k_X11_quiet_81 (Q := Q) C hk12 v2 v3 v4 v1  _ hw (lv_sub hl [0, 2, 3, 4] rfl) hP hS
  · have hw := hw.2 h4
    refine lv_iload_n C.1 C.2.1 dX11_quiet_76 rfl (lv_at hl 3 rfl) ?_
    refine lv_goto (tgt := 81) C.1 C.2.1 dX11_quiet_77 (by decide) ?_
    exact k_X11_quiet_81 (Q := Q) C hk12 v2 v3 v4 v3  _ hw (lv_sub hl [0, 2, 3, 4] rfl) hP hS
def b_X11_quiet_62 (Q : Int32 → Mem → Prop) (k24 : Int32 → Int32 → Int32 → Int32 → Int32 → Mem → Prop) (v1 : Int32) (v2 : Int32) (v3 : Int32) (v5 : Int32) (s0 : Int32) (M : Mem) : Prop := (∀ x10 : Int32, x10 = (v5 + 1) → (k24 v1 v2 v3 s0 x10 M))
set_option maxRecDepth 100000 in
set_option maxHeartbeats 4000000 in
theorem k_X11_quiet_62 {p : Program} {l : Launch} {e : Env} {s : State} {m : MethodId} {args : Array Value} {below : List Frame} {meth : Method} {c : Code} {g : Geo} (C : CX g p s m args meth c cX11_quiet 7 (some .int) RX11) {Q : Int32 → Mem → Prop} {k24 : Int32 → Int32 → Int32 → Int32 → Int32 → Mem → Prop} (hk24 : ∀ (v1 : Int32) (v2 : Int32) (v3 : Int32) (v4 : Int32) (v5 : Int32) (M : Mem), k24 v1 v2 v3 v4 v5 M → ∀ (H : Heap) (locs : List Loc) (ls : Array Slot), lv_has ls 7 [(0, .ref (g.2.1 (138 + 0))), (1, .int v1), (2, .int v2), (3, .int v3), (4, .int v4), (5, .int v5)] → va_P g.1 clz (yw g M) H → va_S (Af 1 g) s.heap H locs → W p l e ({ frames := 3, cells := 0, slots := 0, locals := 73 } : Room) s m args below meth c H locs 0 0 (MQ below (va_Qi Q (PB g (yw g)) (Af 1 g)) args s 0 0 (Af 1 g)) (F0 m 24 ls [])) (v1 : Int32) (v2 : Int32) (v3 : Int32) (v5 : Int32) (s0 : Int32) (M : Mem) (hw : b_X11_quiet_62 Q k24 v1 v2 v3 v5 s0 M) {H : Heap} {locs : List Loc} {ls : Array Slot} (hl : lv_has ls 7 [(0, .ref (g.2.1 (138 + 0))), (1, .int v1), (2, .int v2), (3, .int v3), (5, .int v5)]) (hP : va_P g.1 clz (yw g M) H) (hS : va_S (Af 1 g) s.heap H locs) : W p l e ({ frames := 3, cells := 0, slots := 0, locals := 73 } : Room) s m args below meth c H locs 0 0 (MQ below (va_Qi Q (PB g (yw g)) (Af 1 g)) args s 0 0 (Af 1 g)) (F0 m 62 ls [.int s0]) := by
  unfold b_X11_quiet_62 at hw
  refine lv_istore (lv' := [(4, .int s0), (0, .ref (g.2.1 (138 + 0))), (1, .int v1), (2, .int v2), (3, .int v3), (5, .int v5)]) C.1 C.2.1 dX11_quiet_62 hl (by decide) rfl (fun ls hl => ?_)
  obtain ⟨x10, e10⟩ : ∃ y : Int32, y = (v5 + 1) := ⟨_, rfl⟩
  have hw := hw x10 e10
  refine lv_iinc (v := x10) (lv' := [(5, .int x10), (4, .int s0), (0, .ref (g.2.1 (138 + 0))), (1, .int v1), (2, .int v2), (3, .int v3)]) C.1 C.2.1 dX11_quiet_64 hl (k := 5) rfl (by rw [e10]; rfl) (by decide) rfl (fun ls hl => ?_)
  refine lv_goto (tgt := 24) C.1 C.2.1 dX11_quiet_67 (by decide) ?_
  exact hk24 v1 v2 v3 s0 x10  _ hw _ _ _ (lv_sub hl [2, 3, 4, 5, 1, 0] rfl) hP hS
def b_X11_quiet_24 (Q : Int32 → Mem → Prop) (k12 : Int32 → Int32 → Int32 → Mem → Prop) : Nat → Int32 → Int32 → Int32 → Int32 → Int32 → Mem → Prop
  | 0, _, _, _, _, _, _ => False
  | n + 1, v1, v2, v3, v4, v5, M => (((M.1 40 0 11) ≤ v5 → (b_X11_quiet_70 Q k12 v1 v2 v3 v4 M)) ∧ (¬ (M.1 40 0 11) ≤ v5 → (p_X11_birdOf v5 1 M (fun r7 M7 => (p_X11_worstOf v3 r7 0 M7 (fun r8 M8 => ((r8 ≤ v4 → (b_X11_quiet_62 Q (fun v1 v2 v3 v4 v5 M => b_X11_quiet_24 Q k12 n v1 v2 v3 v4 v5 M) v1 v2 v3 v5 v4 M8)) ∧ (¬ r8 ≤ v4 → (b_X11_quiet_62 Q (fun v1 v2 v3 v4 v5 M => b_X11_quiet_24 Q k12 n v1 v2 v3 v4 v5 M) v1 v2 v3 v5 r8 M8)))))))))
set_option maxRecDepth 100000 in
set_option maxHeartbeats 4000000 in
theorem k_X11_quiet_24 {p : Program} {l : Launch} {e : Env} {s : State} {m : MethodId} {args : Array Value} {below : List Frame} {meth : Method} {c : Code} {g : Geo} (C : CX g p s m args meth c cX11_quiet 7 (some .int) RX11) {Q : Int32 → Mem → Prop} {k12 : Int32 → Int32 → Int32 → Mem → Prop} (hk12 : ∀ (v1 : Int32) (v2 : Int32) (v3 : Int32) (M : Mem), k12 v1 v2 v3 M → ∀ (H : Heap) (locs : List Loc) (ls : Array Slot), lv_has ls 7 [(0, .ref (g.2.1 (138 + 0))), (1, .int v1), (2, .int v2), (3, .int v3)] → va_P g.1 clz (yw g M) H → va_S (Af 1 g) s.heap H locs → W p l e ({ frames := 3, cells := 0, slots := 0, locals := 73 } : Room) s m args below meth c H locs 0 0 (MQ below (va_Qi Q (PB g (yw g)) (Af 1 g)) args s 0 0 (Af 1 g)) (F0 m 12 ls [])) : ∀ (n : Nat) (v1 : Int32) (v2 : Int32) (v3 : Int32) (v4 : Int32) (v5 : Int32) (M : Mem) (hw : b_X11_quiet_24 Q k12 n v1 v2 v3 v4 v5 M) {H : Heap} {locs : List Loc} {ls : Array Slot} (hl : lv_has ls 7 [(0, .ref (g.2.1 (138 + 0))), (1, .int v1), (2, .int v2), (3, .int v3), (4, .int v4), (5, .int v5)]) (hP : va_P g.1 clz (yw g M) H) (hS : va_S (Af 1 g) s.heap H locs), W p l e ({ frames := 3, cells := 0, slots := 0, locals := 73 } : Room) s m args below meth c H locs 0 0 (MQ below (va_Qi Q (PB g (yw g)) (Af 1 g)) args s 0 0 (Af 1 g)) (F0 m 24 ls []) := by
  intro n
  induction n with
  | zero => intro v1 v2 v3 v4 v5 M hw H locs ls hl hP hS; exact absurd hw (by rw [b_X11_quiet_24]; exact fun h => h)
  | succ n ih =>
    intro v1 v2 v3 v4 v5 M hw H locs ls hl hP hS
    rw [b_X11_quiet_24] at hw
    refine lv_iload C.1 C.2.1 dX11_quiet_24 (lv_at hl 5 rfl) ?_
    refine lv_aload_n C.1 C.2.1 dX11_quiet_26 rfl (lv_at hl 0 rfl) ?_
    refine gX11_121 C hP Nat.zero_lt_one dX11_quiet_27 ?_
    refine lv_icmp_ge (tgt := 70) C.1 C.2.1 dX11_quiet_30 (by decide) (fun h3 => ?_) (fun h3 => ?_)
    · have hw := hw.1 h3
      exact k_X11_quiet_70 (Q := Q) C hk12 v1 v2 v3 v4  _ hw (lv_sub hl [0, 1, 2, 3, 4] rfl) hP hS
    · have hw := hw.2 h3
      refine lv_aload_n C.1 C.2.1 dX11_quiet_33 rfl (lv_at hl 0 rfl) ?_
      refine lv_iload_n C.1 C.2.1 dX11_quiet_34 rfl (lv_at hl 3 rfl) ?_
      refine lv_aload_n C.1 C.2.1 dX11_quiet_35 rfl (lv_at hl 0 rfl) ?_
      refine lv_iload C.1 C.2.1 dX11_quiet_36 (lv_at hl 5 rfl) ?_
      refine lv_iconst (v := 1) C.1 C.2.1 dX11_quiet_38 (by decide) ?_
      refine goI (wf := (yw g)) (runV (w := yw g M) (As := [.int v5, .int 1]) (rest := [.int v3, .ref (g.2.1 (138 + 0))]) C lkX11_160 (c_X11_birdOf l g C.2.2.2.2.2.2.2.2.2.2 v5 1  M _ hw) hP hS rfl rfl ⟨Nat.le_of_ble_eq_true rfl, Nat.le_of_ble_eq_true rfl⟩ (xx_40 Nat.zero_lt_one) rfl rfl hl.1 rfl (Nat.le_of_ble_eq_true rfl) dX11_quiet_39) hS (fun r7 M7 hw H locs hP hS => ?_)
      refine lv_iconst (v := 0) C.1 C.2.1 dX11_quiet_42 (by decide) ?_
      refine goI (wf := (yw g)) (runV (w := yw g M7) (As := [.int v3, .int r7, .int 0]) (rest := []) C lkX11_236 (c_X11_worstOf l g C.2.2.2.2.2.2.2.2.2.2 v3 r7 0  M7 _ hw) hP hS rfl rfl ⟨Nat.le_of_ble_eq_true rfl, Nat.le_of_ble_eq_true rfl⟩ (xx_40 Nat.zero_lt_one) rfl rfl hl.1 rfl (Nat.le_of_ble_eq_true rfl) dX11_quiet_43) hS (fun r8 M8 hw H locs hP hS => ?_)
      refine lv_istore (lv' := [(6, .int r8), (0, .ref (g.2.1 (138 + 0))), (1, .int v1), (2, .int v2), (3, .int v3), (4, .int v4), (5, .int v5)]) C.1 C.2.1 dX11_quiet_46 hl (by decide) rfl (fun ls hl => ?_)
      refine lv_iload C.1 C.2.1 dX11_quiet_48 (lv_at hl 0 rfl) ?_
      refine lv_iload C.1 C.2.1 dX11_quiet_50 (lv_at hl 5 rfl) ?_
      refine lv_icmp_le (tgt := 60) C.1 C.2.1 dX11_quiet_52 (by decide) (fun h9 => ?_) (fun h9 => ?_)
      · have hw := hw.1 h9
        refine lv_iload C.1 C.2.1 dX11_quiet_60 (lv_at hl 5 rfl) ?_
        exact k_X11_quiet_62 (Q := Q) C (fun v1 v2 v3 v4 v5  M hw H locs ls hl hP hS => ih v1 v2 v3 v4 v5  M hw hl hP hS) v1 v2 v3 v5 v4  _ hw (lv_sub hl [1, 2, 3, 4, 6] rfl) hP hS
      · have hw := hw.2 h9
        refine lv_iload C.1 C.2.1 dX11_quiet_55 (lv_at hl 0 rfl) ?_
        refine lv_goto (tgt := 62) C.1 C.2.1 dX11_quiet_57 (by decide) ?_
        exact k_X11_quiet_62 (Q := Q) C (fun v1 v2 v3 v4 v5  M hw H locs ls hl hP hS => ih v1 v2 v3 v4 v5  M hw hl hP hS) v1 v2 v3 v5 r8  _ hw (lv_sub hl [1, 2, 3, 4, 6] rfl) hP hS
def b_X11_quiet_12 (Q : Int32 → Mem → Prop) : Nat → Int32 → Int32 → Int32 → Mem → Prop
  | 0, _, _, _, _ => False
  | n + 1, v1, v2, v3, M => ((31 ≤ v3 → (Q v1 M)) ∧ (¬ 31 ≤ v3 → (∃ n24 : Nat, b_X11_quiet_24 Q (fun v1 v2 v3 M => b_X11_quiet_12 Q n v1 v2 v3 M) n24 v1 v2 v3 0 0 M)))
set_option maxRecDepth 100000 in
set_option maxHeartbeats 4000000 in
theorem k_X11_quiet_12 {p : Program} {l : Launch} {e : Env} {s : State} {m : MethodId} {args : Array Value} {below : List Frame} {meth : Method} {c : Code} {g : Geo} (C : CX g p s m args meth c cX11_quiet 7 (some .int) RX11) {Q : Int32 → Mem → Prop} : ∀ (n : Nat) (v1 : Int32) (v2 : Int32) (v3 : Int32) (M : Mem) (hw : b_X11_quiet_12 Q n v1 v2 v3 M) {H : Heap} {locs : List Loc} {ls : Array Slot} (hl : lv_has ls 7 [(0, .ref (g.2.1 (138 + 0))), (1, .int v1), (2, .int v2), (3, .int v3)]) (hP : va_P g.1 clz (yw g M) H) (hS : va_S (Af 1 g) s.heap H locs), W p l e ({ frames := 3, cells := 0, slots := 0, locals := 73 } : Room) s m args below meth c H locs 0 0 (MQ below (va_Qi Q (PB g (yw g)) (Af 1 g)) args s 0 0 (Af 1 g)) (F0 m 12 ls []) := by
  intro n
  induction n with
  | zero => intro v1 v2 v3 M hw H locs ls hl hP hS; exact absurd hw (by rw [b_X11_quiet_12]; exact fun h => h)
  | succ n ih =>
    intro v1 v2 v3 M hw H locs ls hl hP hS
    rw [b_X11_quiet_12] at hw
    refine lv_iload_n C.1 C.2.1 dX11_quiet_12 rfl (lv_at hl 3 rfl) ?_
    refine lv_bipush (v := 31) C.1 C.2.1 dX11_quiet_13 (by decide) ?_
    refine lv_icmp_ge (tgt := 101) C.1 C.2.1 dX11_quiet_15 (by decide) (fun h2 => ?_) (fun h2 => ?_)
    · have hw := hw.1 h2
      refine lv_iload_n C.1 C.2.1 dX11_quiet_101 rfl (lv_at hl 1 rfl) ?_
      exact retI (wf := (yw g)) C hP hS hw dX11_quiet_102
    · have hw := hw.2 h2
      refine lv_iconst (v := 0) C.1 C.2.1 dX11_quiet_18 (by decide) ?_
      refine lv_istore (lv' := [(4, .int 0), (0, .ref (g.2.1 (138 + 0))), (1, .int v1), (2, .int v2), (3, .int v3)]) C.1 C.2.1 dX11_quiet_19 hl (by decide) rfl (fun ls hl => ?_)
      refine lv_iconst (v := 0) C.1 C.2.1 dX11_quiet_21 (by decide) ?_
      refine lv_istore (lv' := [(5, .int 0), (4, .int 0), (0, .ref (g.2.1 (138 + 0))), (1, .int v1), (2, .int v2), (3, .int v3)]) C.1 C.2.1 dX11_quiet_22 hl (by decide) rfl (fun ls hl => ?_)
      obtain ⟨n9, hw⟩ := hw
      exact k_X11_quiet_24 (Q := Q) C (fun v1 v2 v3  M hw H locs ls hl hP hS => ih v1 v2 v3  M hw hl hP hS) n9 v1 v2 v3 0 0  _ hw (lv_sub hl [2, 3, 4, 5, 1, 0] rfl) hP hS
def p_X11_quiet (M : Mem) (Q : Int32 → Mem → Prop) : Prop := (∀ M1 : Mem, M1 = sI M 40 0 2 0 → (∃ n12 : Nat, b_X11_quiet_12 Q n12 0 99 0 M1))
set_option maxRecDepth 100000 in
set_option maxHeartbeats 4000000 in
theorem c_X11_quiet (l : Launch) (g : Geo) (gi : GI g) (M : Mem) (Q : Int32 → Mem → Prop) (hw : p_X11_quiet  M Q) : Met l yX11_quiet (Cond.code yX11_quiet cX11_quiet 7 (some .int) :: bg) ({ frames := 3, cells := 0, slots := 0, locals := 73 } : Room) (va_Pc [.ref (g.2.1 (138 + 0))] (PW g (yw g M))) (va_Qi Q (PB g (yw g)) (Af 1 g)) 0 0 (Af 1 g) := by
  refine Met.ofW (cc := cX11_quiet) (maxL := 7) (ret := (some .int)) (by decide +kernel) rfl ?_
  intro p e s m args below meth c s₁ B hml hv
  obtain ⟨rfl, hv⟩ := hv
  have C := CX.start (own := RX11) B hml rfl gi hv
  have hP := hv.1
  have hS : va_S (Af 1 g) s.heap s.heap [] := va_S.rf
  have hl := lv_entry ([.ref (g.2.1 (138 + 0))]) (n := 7) (Nat.le_of_ble_eq_true rfl)
  rw [lg_entry_eq]
  generalize (lg_sl ([.ref (g.2.1 (138 + 0))]) ++ List.replicate (7 - (lg_sl ([.ref (g.2.1 (138 + 0))])).length) Slot.unset).toArray = ls at hl ⊢
  have hl : lv_has ls 7 [(0, .ref (g.2.1 (138 + 0)))] := hl
  unfold p_X11_quiet at hw
  refine lv_aload_n C.1 C.2.1 dX11_quiet_0 rfl (lv_at hl 0 rfl) ?_
  refine lv_iconst (v := 0) C.1 C.2.1 dX11_quiet_1 (by decide) ?_
  refine pX11_76 C hP hS Nat.zero_lt_one dX11_quiet_2 (fun M1 e1 H locs hP hS => ?_)
  have hw := hw M1 e1
  refine lv_iconst (v := 0) C.1 C.2.1 dX11_quiet_5 (by decide) ?_
  refine lv_istore_n (lv' := [(1, .int 0), (0, .ref (g.2.1 (138 + 0)))]) C.1 C.2.1 dX11_quiet_6 rfl hl (by decide) rfl (fun ls hl => ?_)
  refine lv_bipush (v := 99) C.1 C.2.1 dX11_quiet_7 (by decide) ?_
  refine lv_istore_n (lv' := [(2, .int 99), (1, .int 0), (0, .ref (g.2.1 (138 + 0)))]) C.1 C.2.1 dX11_quiet_9 rfl hl (by decide) rfl (fun ls hl => ?_)
  refine lv_iconst (v := 0) C.1 C.2.1 dX11_quiet_10 (by decide) ?_
  refine lv_istore_n (lv' := [(3, .int 0), (2, .int 99), (1, .int 0), (0, .ref (g.2.1 (138 + 0)))]) C.1 C.2.1 dX11_quiet_11 rfl hl (by decide) rfl (fun ls hl => ?_)
  obtain ⟨n9, hw⟩ := hw
  exact k_X11_quiet_12 (Q := Q) C n9 0 99 0  _ hw (lv_sub hl [3, 2, 1, 0] rfl) hP hS
def b_X11_parityOf_53 (Q : Int32 → Mem → Prop) (k4 : Int32 → Int32 → Int32 → Mem → Prop) (v0 : Int32) (v1 : Int32) (v2 : Int32) (v3 : Int32) (M : Mem) : Prop := (∀ x3 : Int32, x3 = (v1 ||| (v3 <<< (((3 : Int32) - v2) &&& 31))) → (∀ x4 : Int32, x4 = (v2 + 1) → (k4 v0 x3 x4 M)))
set_option maxRecDepth 100000 in
set_option maxHeartbeats 4000000 in
theorem k_X11_parityOf_53 {p : Program} {l : Launch} {e : Env} {s : State} {m : MethodId} {args : Array Value} {below : List Frame} {meth : Method} {c : Code} {g : Geo} (C : CX g p s m args meth c cX11_parityOf 5 (some .int) RX11) {Q : Int32 → Mem → Prop} {k4 : Int32 → Int32 → Int32 → Mem → Prop} (hk4 : ∀ (v0 : Int32) (v1 : Int32) (v2 : Int32) (M : Mem), k4 v0 v1 v2 M → ∀ (H : Heap) (locs : List Loc) (ls : Array Slot), lv_has ls 5 [(0, .int v0), (1, .int v1), (2, .int v2)] → va_P g.1 clz (yw g M) H → va_S (Af 1 g) s.heap H locs → W p l e ({ frames := 0, cells := 0, slots := 0, locals := 0 } : Room) s m args below meth c H locs 0 0 (MQ below (va_Qi Q (PB g (yw g)) (Af 1 g)) args s 0 0 (Af 1 g)) (F0 m 4 ls [])) (v0 : Int32) (v1 : Int32) (v2 : Int32) (v3 : Int32) (M : Mem) (hw : b_X11_parityOf_53 Q k4 v0 v1 v2 v3 M) {H : Heap} {locs : List Loc} {ls : Array Slot} (hl : lv_has ls 5 [(0, .int v0), (1, .int v1), (2, .int v2), (3, .int v3)]) (hP : va_P g.1 clz (yw g M) H) (hS : va_S (Af 1 g) s.heap H locs) : W p l e ({ frames := 0, cells := 0, slots := 0, locals := 0 } : Room) s m args below meth c H locs 0 0 (MQ below (va_Qi Q (PB g (yw g)) (Af 1 g)) args s 0 0 (Af 1 g)) (F0 m 53 ls []) := by
  unfold b_X11_parityOf_53 at hw
  refine lv_iload_n C.1 C.2.1 dX11_parityOf_53 rfl (lv_at hl 1 rfl) ?_
  refine lv_iload_n C.1 C.2.1 dX11_parityOf_54 rfl (lv_at hl 3 rfl) ?_
  refine lv_iconst (v := 3) C.1 C.2.1 dX11_parityOf_55 (by decide) ?_
  refine lv_iload_n C.1 C.2.1 dX11_parityOf_56 rfl (lv_at hl 2 rfl) ?_
  refine lv_isub C.1 C.2.1 dX11_parityOf_57 ?_
  refine lv_ishl C.1 C.2.1 dX11_parityOf_58 ?_
  refine lv_ior C.1 C.2.1 dX11_parityOf_59 ?_
  refine lv_topi (fun x3 e3 => ?_)
  have hw := hw x3 e3
  refine lv_istore_n (lv' := [(1, .int x3), (0, .int v0), (2, .int v2), (3, .int v3)]) C.1 C.2.1 dX11_parityOf_60 rfl hl (by decide) rfl (fun ls hl => ?_)
  obtain ⟨x4, e4⟩ : ∃ y : Int32, y = (v2 + 1) := ⟨_, rfl⟩
  have hw := hw x4 e4
  refine lv_iinc (v := x4) (lv' := [(2, .int x4), (1, .int x3), (0, .int v0), (3, .int v3)]) C.1 C.2.1 dX11_parityOf_61 hl (k := 2) rfl (by rw [e4]; rfl) (by decide) rfl (fun ls hl => ?_)
  refine lv_goto (tgt := 4) C.1 C.2.1 dX11_parityOf_64 (by decide) ?_
  exact hk4 v0 x3 x4  _ hw _ _ _ (lv_sub hl [2, 1, 0] rfl) hP hS
def b_X11_parityOf_45 (Q : Int32 → Mem → Prop) (k14 : Int32 → Int32 → Int32 → Int32 → Int32 → Mem → Prop) (v0 : Int32) (v1 : Int32) (v2 : Int32) (v4 : Int32) (s0 : Int32) (s1 : Int32) (M : Mem) : Prop := (∀ x6 : Int32, x6 = (s0 ^^^ s1) → (∀ x7 : Int32, x7 = (v4 + 1) → (k14 v0 v1 v2 x6 x7 M)))
set_option maxRecDepth 100000 in
set_option maxHeartbeats 4000000 in
theorem k_X11_parityOf_45 {p : Program} {l : Launch} {e : Env} {s : State} {m : MethodId} {args : Array Value} {below : List Frame} {meth : Method} {c : Code} {g : Geo} (C : CX g p s m args meth c cX11_parityOf 5 (some .int) RX11) {Q : Int32 → Mem → Prop} {k14 : Int32 → Int32 → Int32 → Int32 → Int32 → Mem → Prop} (hk14 : ∀ (v0 : Int32) (v1 : Int32) (v2 : Int32) (v3 : Int32) (v4 : Int32) (M : Mem), k14 v0 v1 v2 v3 v4 M → ∀ (H : Heap) (locs : List Loc) (ls : Array Slot), lv_has ls 5 [(0, .int v0), (1, .int v1), (2, .int v2), (3, .int v3), (4, .int v4)] → va_P g.1 clz (yw g M) H → va_S (Af 1 g) s.heap H locs → W p l e ({ frames := 0, cells := 0, slots := 0, locals := 0 } : Room) s m args below meth c H locs 0 0 (MQ below (va_Qi Q (PB g (yw g)) (Af 1 g)) args s 0 0 (Af 1 g)) (F0 m 14 ls [])) (v0 : Int32) (v1 : Int32) (v2 : Int32) (v4 : Int32) (s0 : Int32) (s1 : Int32) (M : Mem) (hw : b_X11_parityOf_45 Q k14 v0 v1 v2 v4 s0 s1 M) {H : Heap} {locs : List Loc} {ls : Array Slot} (hl : lv_has ls 5 [(0, .int v0), (1, .int v1), (2, .int v2), (4, .int v4)]) (hP : va_P g.1 clz (yw g M) H) (hS : va_S (Af 1 g) s.heap H locs) : W p l e ({ frames := 0, cells := 0, slots := 0, locals := 0 } : Room) s m args below meth c H locs 0 0 (MQ below (va_Qi Q (PB g (yw g)) (Af 1 g)) args s 0 0 (Af 1 g)) (F0 m 45 ls [.int s1, .int s0]) := by
  unfold b_X11_parityOf_45 at hw
  refine lv_ixor C.1 C.2.1 dX11_parityOf_45 ?_
  refine lv_topi (fun x6 e6 => ?_)
  have hw := hw x6 e6
  refine lv_istore_n (lv' := [(3, .int x6), (0, .int v0), (1, .int v1), (2, .int v2), (4, .int v4)]) C.1 C.2.1 dX11_parityOf_46 rfl hl (by decide) rfl (fun ls hl => ?_)
  obtain ⟨x7, e7⟩ : ∃ y : Int32, y = (v4 + 1) := ⟨_, rfl⟩
  have hw := hw x7 e7
  refine lv_iinc (v := x7) (lv' := [(4, .int x7), (3, .int x6), (0, .int v0), (1, .int v1), (2, .int v2)]) C.1 C.2.1 dX11_parityOf_47 hl (k := 4) rfl (by rw [e7]; rfl) (by decide) rfl (fun ls hl => ?_)
  refine lv_goto (tgt := 14) C.1 C.2.1 dX11_parityOf_50 (by decide) ?_
  exact hk14 v0 v1 v2 x6 x7  _ hw _ _ _ (lv_sub hl [2, 3, 4, 1, 0] rfl) hP hS
def b_X11_parityOf_14 (Q : Int32 → Mem → Prop) (k4 : Int32 → Int32 → Int32 → Mem → Prop) : Nat → Int32 → Int32 → Int32 → Int32 → Int32 → Mem → Prop
  | 0, _, _, _, _, _, _ => False
  | n + 1, v0, v1, v2, v3, v4, M => ((8 < v4 → (b_X11_parityOf_53 Q k4 v0 v1 v2 v3 M)) ∧ (¬ 8 < v4 → ((¬ ((v4 >>> (v2 &&& 31)) &&& 1) = 1 → (b_X11_parityOf_45 Q (fun v0 v1 v2 v3 v4 M => b_X11_parityOf_14 Q k4 n v0 v1 v2 v3 v4 M) v0 v1 v2 v4 v3 0 M)) ∧ (((v4 >>> (v2 &&& 31)) &&& 1) = 1 → (b_X11_parityOf_45 Q (fun v0 v1 v2 v3 v4 M => b_X11_parityOf_14 Q k4 n v0 v1 v2 v3 v4 M) v0 v1 v2 v4 v3 (((v0 >>> (((8 : Int32) - v4) &&& 31)) &&& 1)) M)))))
set_option maxRecDepth 100000 in
set_option maxHeartbeats 4000000 in
theorem k_X11_parityOf_14 {p : Program} {l : Launch} {e : Env} {s : State} {m : MethodId} {args : Array Value} {below : List Frame} {meth : Method} {c : Code} {g : Geo} (C : CX g p s m args meth c cX11_parityOf 5 (some .int) RX11) {Q : Int32 → Mem → Prop} {k4 : Int32 → Int32 → Int32 → Mem → Prop} (hk4 : ∀ (v0 : Int32) (v1 : Int32) (v2 : Int32) (M : Mem), k4 v0 v1 v2 M → ∀ (H : Heap) (locs : List Loc) (ls : Array Slot), lv_has ls 5 [(0, .int v0), (1, .int v1), (2, .int v2)] → va_P g.1 clz (yw g M) H → va_S (Af 1 g) s.heap H locs → W p l e ({ frames := 0, cells := 0, slots := 0, locals := 0 } : Room) s m args below meth c H locs 0 0 (MQ below (va_Qi Q (PB g (yw g)) (Af 1 g)) args s 0 0 (Af 1 g)) (F0 m 4 ls [])) : ∀ (n : Nat) (v0 : Int32) (v1 : Int32) (v2 : Int32) (v3 : Int32) (v4 : Int32) (M : Mem) (hw : b_X11_parityOf_14 Q k4 n v0 v1 v2 v3 v4 M) {H : Heap} {locs : List Loc} {ls : Array Slot} (hl : lv_has ls 5 [(0, .int v0), (1, .int v1), (2, .int v2), (3, .int v3), (4, .int v4)]) (hP : va_P g.1 clz (yw g M) H) (hS : va_S (Af 1 g) s.heap H locs), W p l e ({ frames := 0, cells := 0, slots := 0, locals := 0 } : Room) s m args below meth c H locs 0 0 (MQ below (va_Qi Q (PB g (yw g)) (Af 1 g)) args s 0 0 (Af 1 g)) (F0 m 14 ls []) := by
  intro n
  induction n with
  | zero => intro v0 v1 v2 v3 v4 M hw H locs ls hl hP hS; exact absurd hw (by rw [b_X11_parityOf_14]; exact fun h => h)
  | succ n ih =>
    intro v0 v1 v2 v3 v4 M hw H locs ls hl hP hS
    rw [b_X11_parityOf_14] at hw
    refine lv_iload C.1 C.2.1 dX11_parityOf_14 (lv_at hl 4 rfl) ?_
    refine lv_bipush (v := 8) C.1 C.2.1 dX11_parityOf_16 (by decide) ?_
    refine lv_icmp_gt (tgt := 53) C.1 C.2.1 dX11_parityOf_18 (by decide) (fun h2 => ?_) (fun h2 => ?_)
    · have hw := hw.1 h2
      exact k_X11_parityOf_53 (Q := Q) C hk4 v0 v1 v2 v3  _ hw (lv_sub hl [0, 1, 2, 3] rfl) hP hS
    · have hw := hw.2 h2
      refine lv_iload_n C.1 C.2.1 dX11_parityOf_21 rfl (lv_at hl 3 rfl) ?_
      refine lv_iload C.1 C.2.1 dX11_parityOf_22 (lv_at hl 4 rfl) ?_
      refine lv_iload_n C.1 C.2.1 dX11_parityOf_24 rfl (lv_at hl 2 rfl) ?_
      refine lv_ishr C.1 C.2.1 dX11_parityOf_25 ?_
      refine lv_iconst (v := 1) C.1 C.2.1 dX11_parityOf_26 (by decide) ?_
      refine lv_iand C.1 C.2.1 dX11_parityOf_27 ?_
      refine lv_iconst (v := 1) C.1 C.2.1 dX11_parityOf_28 (by decide) ?_
      refine lv_icmp_ne (tgt := 44) C.1 C.2.1 dX11_parityOf_29 (by decide) (fun h5 => ?_) (fun h5 => ?_)
      · have hw := hw.1 h5
        refine lv_iconst (v := 0) C.1 C.2.1 dX11_parityOf_44 (by decide) ?_
        exact k_X11_parityOf_45 (Q := Q) C (fun v0 v1 v2 v3 v4  M hw H locs ls hl hP hS => ih v0 v1 v2 v3 v4  M hw hl hP hS) v0 v1 v2 v4 v3 0  _ hw (lv_sub hl [0, 1, 2, 4] rfl) hP hS
      · have hw := hw.2 h5
        refine lv_iload_n C.1 C.2.1 dX11_parityOf_32 rfl (lv_at hl 0 rfl) ?_
        refine lv_bipush (v := 8) C.1 C.2.1 dX11_parityOf_33 (by decide) ?_
        refine lv_iload C.1 C.2.1 dX11_parityOf_35 (lv_at hl 4 rfl) ?_
        refine lv_isub C.1 C.2.1 dX11_parityOf_37 ?_
        refine lv_ishr C.1 C.2.1 dX11_parityOf_38 ?_
        refine lv_iconst (v := 1) C.1 C.2.1 dX11_parityOf_39 (by decide) ?_
        refine lv_iand C.1 C.2.1 dX11_parityOf_40 ?_
        refine lv_goto (tgt := 45) C.1 C.2.1 dX11_parityOf_41 (by decide) ?_
        exact k_X11_parityOf_45 (Q := Q) C (fun v0 v1 v2 v3 v4  M hw H locs ls hl hP hS => ih v0 v1 v2 v3 v4  M hw hl hP hS) v0 v1 v2 v4 v3 (((v0 >>> (((8 : Int32) - v4) &&& 31)) &&& 1))  _ hw (lv_sub hl [0, 1, 2, 4] rfl) hP hS
def b_X11_parityOf_4 (Q : Int32 → Mem → Prop) : Nat → Int32 → Int32 → Int32 → Mem → Prop
  | 0, _, _, _, _ => False
  | n + 1, v0, v1, v2, M => ((4 ≤ v2 → (Q v1 M)) ∧ (¬ 4 ≤ v2 → (∃ n14 : Nat, b_X11_parityOf_14 Q (fun v0 v1 v2 M => b_X11_parityOf_4 Q n v0 v1 v2 M) n14 v0 v1 v2 0 1 M)))
set_option maxRecDepth 100000 in
set_option maxHeartbeats 4000000 in
theorem k_X11_parityOf_4 {p : Program} {l : Launch} {e : Env} {s : State} {m : MethodId} {args : Array Value} {below : List Frame} {meth : Method} {c : Code} {g : Geo} (C : CX g p s m args meth c cX11_parityOf 5 (some .int) RX11) {Q : Int32 → Mem → Prop} : ∀ (n : Nat) (v0 : Int32) (v1 : Int32) (v2 : Int32) (M : Mem) (hw : b_X11_parityOf_4 Q n v0 v1 v2 M) {H : Heap} {locs : List Loc} {ls : Array Slot} (hl : lv_has ls 5 [(0, .int v0), (1, .int v1), (2, .int v2)]) (hP : va_P g.1 clz (yw g M) H) (hS : va_S (Af 1 g) s.heap H locs), W p l e ({ frames := 0, cells := 0, slots := 0, locals := 0 } : Room) s m args below meth c H locs 0 0 (MQ below (va_Qi Q (PB g (yw g)) (Af 1 g)) args s 0 0 (Af 1 g)) (F0 m 4 ls []) := by
  intro n
  induction n with
  | zero => intro v0 v1 v2 M hw H locs ls hl hP hS; exact absurd hw (by rw [b_X11_parityOf_4]; exact fun h => h)
  | succ n ih =>
    intro v0 v1 v2 M hw H locs ls hl hP hS
    rw [b_X11_parityOf_4] at hw
    refine lv_iload_n C.1 C.2.1 dX11_parityOf_4 rfl (lv_at hl 2 rfl) ?_
    refine lv_iconst (v := 4) C.1 C.2.1 dX11_parityOf_5 (by decide) ?_
    refine lv_icmp_ge (tgt := 67) C.1 C.2.1 dX11_parityOf_6 (by decide) (fun h1 => ?_) (fun h1 => ?_)
    · have hw := hw.1 h1
      refine lv_iload_n C.1 C.2.1 dX11_parityOf_67 rfl (lv_at hl 1 rfl) ?_
      exact retI (wf := (yw g)) C hP hS hw dX11_parityOf_68
    · have hw := hw.2 h1
      refine lv_iconst (v := 0) C.1 C.2.1 dX11_parityOf_9 (by decide) ?_
      refine lv_istore_n (lv' := [(3, .int 0), (0, .int v0), (1, .int v1), (2, .int v2)]) C.1 C.2.1 dX11_parityOf_10 rfl hl (by decide) rfl (fun ls hl => ?_)
      refine lv_iconst (v := 1) C.1 C.2.1 dX11_parityOf_11 (by decide) ?_
      refine lv_istore (lv' := [(4, .int 1), (3, .int 0), (0, .int v0), (1, .int v1), (2, .int v2)]) C.1 C.2.1 dX11_parityOf_12 hl (by decide) rfl (fun ls hl => ?_)
      obtain ⟨n9, hw⟩ := hw
      exact k_X11_parityOf_14 (Q := Q) C (fun v0 v1 v2  M hw H locs ls hl hP hS => ih v0 v1 v2  M hw hl hP hS) n9 v0 v1 v2 0 1  _ hw (lv_sub hl [2, 3, 4, 1, 0] rfl) hP hS
def p_X11_parityOf (a0 : Int32) (M : Mem) (Q : Int32 → Mem → Prop) : Prop := (∃ n4 : Nat, b_X11_parityOf_4 Q n4 a0 0 0 M)
set_option maxRecDepth 100000 in
set_option maxHeartbeats 4000000 in
theorem c_X11_parityOf (l : Launch) (g : Geo) (gi : GI g) (a0 : Int32) (M : Mem) (Q : Int32 → Mem → Prop) (hw : p_X11_parityOf a0 M Q) : Met l yX11_parityOf (Cond.code yX11_parityOf cX11_parityOf 5 (some .int) :: bg) ({ frames := 0, cells := 0, slots := 0, locals := 0 } : Room) (va_Pc [.int a0] (PW g (yw g M))) (va_Qi Q (PB g (yw g)) (Af 1 g)) 0 0 (Af 1 g) := by
  refine Met.ofW (cc := cX11_parityOf) (maxL := 5) (ret := (some .int)) (by decide +kernel) rfl ?_
  intro p e s m args below meth c s₁ B hml hv
  obtain ⟨rfl, hv⟩ := hv
  have C := CX.start (own := RX11) B hml rfl gi hv
  have hP := hv.1
  have hS : va_S (Af 1 g) s.heap s.heap [] := va_S.rf
  have hl := lv_entry ([.int a0]) (n := 5) (Nat.le_of_ble_eq_true rfl)
  rw [lg_entry_eq]
  generalize (lg_sl ([.int a0]) ++ List.replicate (5 - (lg_sl ([.int a0])).length) Slot.unset).toArray = ls at hl ⊢
  have hl : lv_has ls 5 [(0, .int a0)] := hl
  unfold p_X11_parityOf at hw
  refine lv_iconst (v := 0) C.1 C.2.1 dX11_parityOf_0 (by decide) ?_
  refine lv_istore_n (lv' := [(1, .int 0), (0, .int a0)]) C.1 C.2.1 dX11_parityOf_1 rfl hl (by decide) rfl (fun ls hl => ?_)
  refine lv_iconst (v := 0) C.1 C.2.1 dX11_parityOf_2 (by decide) ?_
  refine lv_istore_n (lv' := [(2, .int 0), (1, .int 0), (0, .int a0)]) C.1 C.2.1 dX11_parityOf_3 rfl hl (by decide) rfl (fun ls hl => ?_)
  obtain ⟨n9, hw⟩ := hw
  exact k_X11_parityOf_4 (Q := Q) C n9 a0 0 0  _ hw (lv_sub hl [2, 1, 0] rfl) hP hS
def p_X11_frameOf (a0 : Int32) (a1 : Int32) (M : Mem) (Q : Int32 → Mem → Prop) : Prop := (∀ x1 : Int32, x1 = ((a0 <<< (6 &&& 31)) ||| a1) → (p_X11_parityOf x1 M (fun r2 M2 => (Q (((45056 : Int32) ||| (x1 <<< (4 &&& 31))) ||| r2) M2))))
set_option maxRecDepth 100000 in
set_option maxHeartbeats 4000000 in
theorem c_X11_frameOf (l : Launch) (g : Geo) (gi : GI g) (a0 : Int32) (a1 : Int32) (M : Mem) (Q : Int32 → Mem → Prop) (hw : p_X11_frameOf a0 a1 M Q) : Met l yX11_frameOf (Cond.code yX11_frameOf cX11_frameOf 3 (some .int) :: bg) ({ frames := 1, cells := 0, slots := 0, locals := 24 } : Room) (va_Pc [.int a0, .int a1] (PW g (yw g M))) (va_Qi Q (PB g (yw g)) (Af 1 g)) 0 0 (Af 1 g) := by
  refine Met.ofW (cc := cX11_frameOf) (maxL := 3) (ret := (some .int)) (by decide +kernel) rfl ?_
  intro p e s m args below meth c s₁ B hml hv
  obtain ⟨rfl, hv⟩ := hv
  have C := CX.start (own := RX11) B hml rfl gi hv
  have hP := hv.1
  have hS : va_S (Af 1 g) s.heap s.heap [] := va_S.rf
  have hl := lv_entry ([.int a0, .int a1]) (n := 3) (Nat.le_of_ble_eq_true rfl)
  rw [lg_entry_eq]
  generalize (lg_sl ([.int a0, .int a1]) ++ List.replicate (3 - (lg_sl ([.int a0, .int a1])).length) Slot.unset).toArray = ls at hl ⊢
  have hl : lv_has ls 3 [(0, .int a0), (1, .int a1)] := hl
  unfold p_X11_frameOf at hw
  refine lv_iload_n C.1 C.2.1 dX11_frameOf_0 rfl (lv_at hl 0 rfl) ?_
  refine lv_bipush (v := 6) C.1 C.2.1 dX11_frameOf_1 (by decide) ?_
  refine lv_ishl C.1 C.2.1 dX11_frameOf_3 ?_
  refine lv_iload_n C.1 C.2.1 dX11_frameOf_4 rfl (lv_at hl 1 rfl) ?_
  refine lv_ior C.1 C.2.1 dX11_frameOf_5 ?_
  refine lv_topi (fun x1 e1 => ?_)
  have hw := hw x1 e1
  refine lv_istore_n (lv' := [(2, .int x1), (0, .int a0), (1, .int a1)]) C.1 C.2.1 dX11_frameOf_6 rfl hl (by decide) rfl (fun ls hl => ?_)
  refine lv_ldc (v := 45056) C.1 C.2.1 C.2.2.2.2.1 (C.2.2.2.2.2.1 _ (bg_of 1617 (by decide +kernel) rfl)) dX11_frameOf_7 ?_
  refine lv_iload_n C.1 C.2.1 dX11_frameOf_9 rfl (lv_at hl 0 rfl) ?_
  refine lv_iconst (v := 4) C.1 C.2.1 dX11_frameOf_10 (by decide) ?_
  refine lv_ishl C.1 C.2.1 dX11_frameOf_11 ?_
  refine lv_ior C.1 C.2.1 dX11_frameOf_12 ?_
  refine lv_iload_n C.1 C.2.1 dX11_frameOf_13 rfl (lv_at hl 0 rfl) ?_
  refine goI (wf := (yw g)) (runS (w := yw g M) (As := [.int x1]) (rest := [.int ((45056 : Int32) ||| (x1 <<< (4 &&& 31)))]) C lkX11_240 (c_X11_parityOf l g C.2.2.2.2.2.2.2.2.2.2 x1  M _ hw) hP hS rfl rfl ⟨Nat.le_of_ble_eq_true rfl, Nat.le_of_ble_eq_true rfl⟩ hl.1 rfl (Nat.le_of_ble_eq_true rfl) dX11_frameOf_14) hS (fun r2 M2 hw H locs hP hS => ?_)
  refine lv_ior C.1 C.2.1 dX11_frameOf_17 ?_
  exact retI (wf := (yw g)) C hP hS hw dX11_frameOf_18
def b_X11_sentBit_98 (Q : Int32 → Mem → Prop) (k29 : Int32 → Int32 → Int32 → Int32 → Mem → Prop) (v1 : Int32) (v2 : Int32) (v4 : Int32) (v5 : Int32) (M : Mem) : Prop := (∀ x11 : Int32, x11 = (v5 + 1) → (k29 v1 v2 v4 x11 M))
set_option maxRecDepth 100000 in
set_option maxHeartbeats 4000000 in
theorem k_X11_sentBit_98 {p : Program} {l : Launch} {e : Env} {s : State} {m : MethodId} {args : Array Value} {below : List Frame} {meth : Method} {c : Code} {g : Geo} (C : CX g p s m args meth c cX11_sentBit 6 (some .int) RX11) {Q : Int32 → Mem → Prop} {k29 : Int32 → Int32 → Int32 → Int32 → Mem → Prop} (hk29 : ∀ (v1 : Int32) (v2 : Int32) (v4 : Int32) (v5 : Int32) (M : Mem), k29 v1 v2 v4 v5 M → ∀ (H : Heap) (locs : List Loc) (ls : Array Slot), lv_has ls 6 [(0, .ref (g.2.1 (138 + 0))), (1, .int v1), (2, .int v2), (4, .int v4), (5, .int v5)] → va_P g.1 clz (yw g M) H → va_S (Af 1 g) s.heap H locs → W p l e ({ frames := 2, cells := 0, slots := 0, locals := 46 } : Room) s m args below meth c H locs 0 0 (MQ below (va_Qi Q (PB g (yw g)) (Af 1 g)) args s 0 0 (Af 1 g)) (F0 m 29 ls [])) (v1 : Int32) (v2 : Int32) (v4 : Int32) (v5 : Int32) (M : Mem) (hw : b_X11_sentBit_98 Q k29 v1 v2 v4 v5 M) {H : Heap} {locs : List Loc} {ls : Array Slot} (hl : lv_has ls 6 [(0, .ref (g.2.1 (138 + 0))), (1, .int v1), (2, .int v2), (4, .int v4), (5, .int v5)]) (hP : va_P g.1 clz (yw g M) H) (hS : va_S (Af 1 g) s.heap H locs) : W p l e ({ frames := 2, cells := 0, slots := 0, locals := 46 } : Room) s m args below meth c H locs 0 0 (MQ below (va_Qi Q (PB g (yw g)) (Af 1 g)) args s 0 0 (Af 1 g)) (F0 m 98 ls []) := by
  unfold b_X11_sentBit_98 at hw
  obtain ⟨x11, e11⟩ : ∃ y : Int32, y = (v5 + 1) := ⟨_, rfl⟩
  have hw := hw x11 e11
  refine lv_iinc (v := x11) (lv' := [(5, .int x11), (0, .ref (g.2.1 (138 + 0))), (1, .int v1), (2, .int v2), (4, .int v4)]) C.1 C.2.1 dX11_sentBit_98 hl (k := 4) rfl (by rw [e11]; rfl) (by decide) rfl (fun ls hl => ?_)
  refine lv_goto (tgt := 29) C.1 C.2.1 dX11_sentBit_101 (by decide) ?_
  exact hk29 v1 v2 v4 x11  _ hw _ _ _ (lv_sub hl [1, 2, 3, 4, 0] rfl) hP hS
def b_X11_sentBit_59 (Q : Int32 → Mem → Prop) (v2 : Int32) (v5 : Int32) (M : Mem) : Prop := (vp_in (((3 : Int32) * v5) + 1) 60 ∧ (vp_in (((3 : Int32) * v5) + 2) 60 ∧ (p_X11_frameOf ((M.1 44 0 ((((3 : Int32) * v5) + 1) : Int32).toNatClampNeg)) ((M.1 44 0 ((((3 : Int32) * v5) + 2) : Int32).toNatClampNeg)) M (fun r14 M14 => (Q ((r14 >>> (((15 : Int32) - (v2 - v2 / 16 * 16)) &&& 31)) &&& 1) M14)))))
set_option maxRecDepth 100000 in
set_option maxHeartbeats 4000000 in
theorem k_X11_sentBit_59 {p : Program} {l : Launch} {e : Env} {s : State} {m : MethodId} {args : Array Value} {below : List Frame} {meth : Method} {c : Code} {g : Geo} (C : CX g p s m args meth c cX11_sentBit 6 (some .int) RX11) {Q : Int32 → Mem → Prop} (v2 : Int32) (v5 : Int32) (M : Mem) (hw : b_X11_sentBit_59 Q v2 v5 M) {H : Heap} {locs : List Loc} {ls : Array Slot} (hl : lv_has ls 6 [(0, .ref (g.2.1 (138 + 0))), (2, .int v2), (5, .int v5)]) (hP : va_P g.1 clz (yw g M) H) (hS : va_S (Af 1 g) s.heap H locs) : W p l e ({ frames := 2, cells := 0, slots := 0, locals := 46 } : Room) s m args below meth c H locs 0 0 (MQ below (va_Qi Q (PB g (yw g)) (Af 1 g)) args s 0 0 (Af 1 g)) (F0 m 59 ls []) := by
  unfold b_X11_sentBit_59 at hw
  refine lv_aload_n C.1 C.2.1 dX11_sentBit_59 rfl (lv_at hl 0 rfl) ?_
  refine gX11_23 C hP Nat.zero_lt_one dX11_sentBit_60 ?_
  refine lv_iconst (v := 3) C.1 C.2.1 dX11_sentBit_63 (by decide) ?_
  refine lv_iload C.1 C.2.1 dX11_sentBit_64 (lv_at hl 2 rfl) ?_
  refine lv_imul C.1 C.2.1 dX11_sentBit_66 ?_
  refine lv_iconst (v := 1) C.1 C.2.1 dX11_sentBit_67 (by decide) ?_
  refine lv_iadd C.1 C.2.1 dX11_sentBit_68 ?_
  obtain ⟨h12, hw⟩ := hw
  refine al_44 C hP Nat.zero_lt_one h12 dX11_sentBit_69 ?_
  refine lv_aload_n C.1 C.2.1 dX11_sentBit_70 rfl (lv_at hl 0 rfl) ?_
  refine gX11_23 C hP Nat.zero_lt_one dX11_sentBit_71 ?_
  refine lv_iconst (v := 3) C.1 C.2.1 dX11_sentBit_74 (by decide) ?_
  refine lv_iload C.1 C.2.1 dX11_sentBit_75 (lv_at hl 2 rfl) ?_
  refine lv_imul C.1 C.2.1 dX11_sentBit_77 ?_
  refine lv_iconst (v := 2) C.1 C.2.1 dX11_sentBit_78 (by decide) ?_
  refine lv_iadd C.1 C.2.1 dX11_sentBit_79 ?_
  obtain ⟨h13, hw⟩ := hw
  refine al_44 C hP Nat.zero_lt_one h13 dX11_sentBit_80 ?_
  refine goI (wf := (yw g)) (runS (w := yw g M) (As := [.int (M.1 44 0 ((((3 : Int32) * v5) + 1) : Int32).toNatClampNeg), .int (M.1 44 0 ((((3 : Int32) * v5) + 2) : Int32).toNatClampNeg)]) (rest := []) C lkX11_243 (c_X11_frameOf l g C.2.2.2.2.2.2.2.2.2.2 ((M.1 44 0 ((((3 : Int32) * v5) + 1) : Int32).toNatClampNeg)) ((M.1 44 0 ((((3 : Int32) * v5) + 2) : Int32).toNatClampNeg))  M _ hw) hP hS rfl rfl ⟨Nat.le_of_ble_eq_true rfl, Nat.le_of_ble_eq_true rfl⟩ hl.1 rfl (Nat.le_of_ble_eq_true rfl) dX11_sentBit_81) hS (fun r14 M14 hw H locs hP hS => ?_)
  refine lv_bipush (v := 15) C.1 C.2.1 dX11_sentBit_84 (by decide) ?_
  refine lv_iload_n C.1 C.2.1 dX11_sentBit_86 rfl (lv_at hl 1 rfl) ?_
  refine lv_bipush (v := 16) C.1 C.2.1 dX11_sentBit_87 (by decide) ?_
  refine lv_irem C.1 C.2.1 dX11_sentBit_89 (by decide) ?_
  refine lv_isub C.1 C.2.1 dX11_sentBit_90 ?_
  refine lv_ishr C.1 C.2.1 dX11_sentBit_91 ?_
  refine lv_iconst (v := 1) C.1 C.2.1 dX11_sentBit_92 (by decide) ?_
  refine lv_iand C.1 C.2.1 dX11_sentBit_93 ?_
  exact retI (wf := (yw g)) C hP hS hw dX11_sentBit_94
def b_X11_sentBit_29 (Q : Int32 → Mem → Prop) : Nat → Int32 → Int32 → Int32 → Int32 → Mem → Prop
  | 0, _, _, _, _, _ => False
  | n + 1, v1, v2, v4, v5, M => (((M.1 40 0 14) ≤ v5 → (Q 0 M)) ∧ (¬ (M.1 40 0 14) ≤ v5 → (vp_in ((3 : Int32) * v5) 60 ∧ (((M.1 44 0 (((3 : Int32) * v5) : Int32).toNatClampNeg) = v1 → ((¬ v4 = 0 → (∀ x10 : Int32, x10 = (v4 + (-1)) → (b_X11_sentBit_98 Q (fun v1 v2 v4 v5 M => b_X11_sentBit_29 Q n v1 v2 v4 v5 M) v1 v2 x10 v5 M))) ∧ (v4 = 0 → (b_X11_sentBit_59 Q v2 v5 M)))) ∧ (¬ (M.1 44 0 (((3 : Int32) * v5) : Int32).toNatClampNeg) = v1 → (b_X11_sentBit_98 Q (fun v1 v2 v4 v5 M => b_X11_sentBit_29 Q n v1 v2 v4 v5 M) v1 v2 v4 v5 M))))))
set_option maxRecDepth 100000 in
set_option maxHeartbeats 4000000 in
theorem k_X11_sentBit_29 {p : Program} {l : Launch} {e : Env} {s : State} {m : MethodId} {args : Array Value} {below : List Frame} {meth : Method} {c : Code} {g : Geo} (C : CX g p s m args meth c cX11_sentBit 6 (some .int) RX11) {Q : Int32 → Mem → Prop} : ∀ (n : Nat) (v1 : Int32) (v2 : Int32) (v4 : Int32) (v5 : Int32) (M : Mem) (hw : b_X11_sentBit_29 Q n v1 v2 v4 v5 M) {H : Heap} {locs : List Loc} {ls : Array Slot} (hl : lv_has ls 6 [(0, .ref (g.2.1 (138 + 0))), (1, .int v1), (2, .int v2), (4, .int v4), (5, .int v5)]) (hP : va_P g.1 clz (yw g M) H) (hS : va_S (Af 1 g) s.heap H locs), W p l e ({ frames := 2, cells := 0, slots := 0, locals := 46 } : Room) s m args below meth c H locs 0 0 (MQ below (va_Qi Q (PB g (yw g)) (Af 1 g)) args s 0 0 (Af 1 g)) (F0 m 29 ls []) := by
  intro n
  induction n with
  | zero => intro v1 v2 v4 v5 M hw H locs ls hl hP hS; exact absurd hw (by rw [b_X11_sentBit_29]; exact fun h => h)
  | succ n ih =>
    intro v1 v2 v4 v5 M hw H locs ls hl hP hS
    rw [b_X11_sentBit_29] at hw
    refine lv_iload C.1 C.2.1 dX11_sentBit_29 (lv_at hl 4 rfl) ?_
    refine lv_aload_n C.1 C.2.1 dX11_sentBit_31 rfl (lv_at hl 0 rfl) ?_
    refine gX11_124 C hP Nat.zero_lt_one dX11_sentBit_32 ?_
    refine lv_icmp_ge (tgt := 104) C.1 C.2.1 dX11_sentBit_35 (by decide) (fun h6 => ?_) (fun h6 => ?_)
    · have hw := hw.1 h6
      refine lv_iconst (v := 0) C.1 C.2.1 dX11_sentBit_104 (by decide) ?_
      exact retI (wf := (yw g)) C hP hS hw dX11_sentBit_105
    · have hw := hw.2 h6
      refine lv_aload_n C.1 C.2.1 dX11_sentBit_38 rfl (lv_at hl 0 rfl) ?_
      refine gX11_23 C hP Nat.zero_lt_one dX11_sentBit_39 ?_
      refine lv_iconst (v := 3) C.1 C.2.1 dX11_sentBit_42 (by decide) ?_
      refine lv_iload C.1 C.2.1 dX11_sentBit_43 (lv_at hl 4 rfl) ?_
      refine lv_imul C.1 C.2.1 dX11_sentBit_45 ?_
      obtain ⟨h7, hw⟩ := hw
      refine al_44 C hP Nat.zero_lt_one h7 dX11_sentBit_46 ?_
      refine lv_iload_n C.1 C.2.1 dX11_sentBit_47 rfl (lv_at hl 1 rfl) ?_
      refine lv_icmp_eq (tgt := 54) C.1 C.2.1 dX11_sentBit_48 (by decide) (fun h8 => ?_) (fun h8 => ?_)
      · have hw := hw.1 h8
        refine lv_iload C.1 C.2.1 dX11_sentBit_54 (lv_at hl 3 rfl) ?_
        refine lv_if_ne (tgt := 95) C.1 C.2.1 dX11_sentBit_56 (by decide) (fun h9 => ?_) (fun h9 => ?_)
        · have hw := hw.1 h9
          obtain ⟨x10, e10⟩ : ∃ y : Int32, y = (v4 + (-1)) := ⟨_, rfl⟩
          have hw := hw x10 e10
          refine lv_iinc (v := x10) (lv' := [(4, .int x10), (0, .ref (g.2.1 (138 + 0))), (1, .int v1), (2, .int v2), (5, .int v5)]) C.1 C.2.1 dX11_sentBit_95 hl (k := 3) rfl (by rw [e10]; rfl) (by decide) rfl (fun ls hl => ?_)
          exact k_X11_sentBit_98 (Q := Q) C (fun v1 v2 v4 v5  M hw H locs ls hl hP hS => ih v1 v2 v4 v5  M hw hl hP hS) v1 v2 x10 v5  _ hw (lv_sub hl [1, 2, 3, 0, 4] rfl) hP hS
        · have hw := hw.2 h9
          exact k_X11_sentBit_59 (Q := Q) C v2 v5  _ hw (lv_sub hl [0, 2, 4] rfl) hP hS
      · have hw := hw.2 h8
        refine lv_goto (tgt := 98) C.1 C.2.1 dX11_sentBit_51 (by decide) ?_
        exact k_X11_sentBit_98 (Q := Q) C (fun v1 v2 v4 v5  M hw H locs ls hl hP hS => ih v1 v2 v4 v5  M hw hl hP hS) v1 v2 v4 v5  _ hw (lv_sub hl [0, 1, 2, 3, 4] rfl) hP hS
def p_X11_sentBit (a1 : Int32) (a2 : Int32) (M : Mem) (Q : Int32 → Mem → Prop) : Prop := (p_X11_birdOf a1 9 M (fun r1 M1 => ((a2 < 0 → (Q 0 M1)) ∧ (¬ a2 < 0 → ((¬ r1 = 0 → (¬ r1 = 0 ∧ (∀ x5 : Int32, x5 = ((a2 / 16) - (a2 / 16) / r1 * r1) → (∃ n29 : Nat, b_X11_sentBit_29 Q n29 a1 a2 x5 0 M1)))) ∧ (r1 = 0 → (Q 0 M1)))))))
set_option maxRecDepth 100000 in
set_option maxHeartbeats 4000000 in
theorem c_X11_sentBit (l : Launch) (g : Geo) (gi : GI g) (a1 : Int32) (a2 : Int32) (M : Mem) (Q : Int32 → Mem → Prop) (hw : p_X11_sentBit a1 a2 M Q) : Met l yX11_sentBit (Cond.code yX11_sentBit cX11_sentBit 6 (some .int) :: bg) ({ frames := 2, cells := 0, slots := 0, locals := 46 } : Room) (va_Pc [.ref (g.2.1 (138 + 0)), .int a1, .int a2] (PW g (yw g M))) (va_Qi Q (PB g (yw g)) (Af 1 g)) 0 0 (Af 1 g) := by
  refine Met.ofW (cc := cX11_sentBit) (maxL := 6) (ret := (some .int)) (by decide +kernel) rfl ?_
  intro p e s m args below meth c s₁ B hml hv
  obtain ⟨rfl, hv⟩ := hv
  have C := CX.start (own := RX11) B hml rfl gi hv
  have hP := hv.1
  have hS : va_S (Af 1 g) s.heap s.heap [] := va_S.rf
  have hl := lv_entry ([.ref (g.2.1 (138 + 0)), .int a1, .int a2]) (n := 6) (Nat.le_of_ble_eq_true rfl)
  rw [lg_entry_eq]
  generalize (lg_sl ([.ref (g.2.1 (138 + 0)), .int a1, .int a2]) ++ List.replicate (6 - (lg_sl ([.ref (g.2.1 (138 + 0)), .int a1, .int a2])).length) Slot.unset).toArray = ls at hl ⊢
  have hl : lv_has ls 6 [(0, .ref (g.2.1 (138 + 0))), (1, .int a1), (2, .int a2)] := hl
  unfold p_X11_sentBit at hw
  refine lv_aload_n C.1 C.2.1 dX11_sentBit_0 rfl (lv_at hl 0 rfl) ?_
  refine lv_iload_n C.1 C.2.1 dX11_sentBit_1 rfl (lv_at hl 1 rfl) ?_
  refine lv_bipush (v := 9) C.1 C.2.1 dX11_sentBit_2 (by decide) ?_
  refine goI (wf := (yw g)) (runV (w := yw g M) (As := [.int a1, .int 9]) (rest := []) C lkX11_160 (c_X11_birdOf l g C.2.2.2.2.2.2.2.2.2.2 a1 9  M _ hw) hP hS rfl rfl ⟨Nat.le_of_ble_eq_true rfl, Nat.le_of_ble_eq_true rfl⟩ (xx_40 Nat.zero_lt_one) rfl rfl hl.1 rfl (Nat.le_of_ble_eq_true rfl) dX11_sentBit_4) hS (fun r1 M1 hw H locs hP hS => ?_)
  refine lv_istore_n (lv' := [(3, .int r1), (0, .ref (g.2.1 (138 + 0))), (1, .int a1), (2, .int a2)]) C.1 C.2.1 dX11_sentBit_7 rfl hl (by decide) rfl (fun ls hl => ?_)
  refine lv_iload_n C.1 C.2.1 dX11_sentBit_8 rfl (lv_at hl 3 rfl) ?_
  refine lv_if_lt (tgt := 16) C.1 C.2.1 dX11_sentBit_9 (by decide) (fun h2 => ?_) (fun h2 => ?_)
  · have hw := hw.1 h2
    refine lv_iconst (v := 0) C.1 C.2.1 dX11_sentBit_16 (by decide) ?_
    exact retI (wf := (yw g)) C hP hS hw dX11_sentBit_17
  · have hw := hw.2 h2
    refine lv_iload_n C.1 C.2.1 dX11_sentBit_12 rfl (lv_at hl 0 rfl) ?_
    refine lv_if_ne (tgt := 18) C.1 C.2.1 dX11_sentBit_13 (by decide) (fun h3 => ?_) (fun h3 => ?_)
    · have hw := hw.1 h3
      refine lv_iload_n C.1 C.2.1 dX11_sentBit_18 rfl (lv_at hl 3 rfl) ?_
      refine lv_bipush (v := 16) C.1 C.2.1 dX11_sentBit_19 (by decide) ?_
      refine lv_idiv C.1 C.2.1 dX11_sentBit_21 (by decide) ?_
      refine lv_iload_n C.1 C.2.1 dX11_sentBit_22 rfl (lv_at hl 0 rfl) ?_
      obtain ⟨h4, hw⟩ := hw
      refine lv_irem C.1 C.2.1 dX11_sentBit_23 h4 ?_
      refine lv_topi (fun x5 e5 => ?_)
      have hw := hw x5 e5
      refine lv_istore (lv' := [(4, .int x5), (3, .int r1), (0, .ref (g.2.1 (138 + 0))), (1, .int a1), (2, .int a2)]) C.1 C.2.1 dX11_sentBit_24 hl (by decide) rfl (fun ls hl => ?_)
      refine lv_iconst (v := 0) C.1 C.2.1 dX11_sentBit_26 (by decide) ?_
      refine lv_istore (lv' := [(5, .int 0), (4, .int x5), (3, .int r1), (0, .ref (g.2.1 (138 + 0))), (1, .int a1), (2, .int a2)]) C.1 C.2.1 dX11_sentBit_27 hl (by decide) rfl (fun ls hl => ?_)
      obtain ⟨n9, hw⟩ := hw
      exact k_X11_sentBit_29 (Q := Q) C n9 a1 a2 x5 0  _ hw (lv_sub hl [3, 4, 5, 1, 0] rfl) hP hS
    · have hw := hw.2 h3
      refine lv_iconst (v := 0) C.1 C.2.1 dX11_sentBit_16 (by decide) ?_
      exact retI (wf := (yw g)) C hP hS hw dX11_sentBit_17
def p_X11_bit (a1 : Int32) (a2 : Int32) (M : Mem) (Q : Int32 → Mem → Prop) : Prop := (∀ M1 : Mem, M1 = sI M 40 0 2 0 → (p_X11_isBird a1 M1 (fun r2 M2 => ((r2 = 0 → (Q (-1) M2)) ∧ (¬ r2 = 0 → (p_X11_isIn a2 0 199 M2 (fun r4 M4 => ((r4 = 0 → (Q (-1) M4)) ∧ (¬ r4 = 0 → (p_X11_sentBit a1 a2 M4 (fun r6 M6 => (Q r6 M6))))))))))))
set_option maxRecDepth 100000 in
set_option maxHeartbeats 4000000 in
theorem c_X11_bit (l : Launch) (g : Geo) (gi : GI g) (a1 : Int32) (a2 : Int32) (M : Mem) (Q : Int32 → Mem → Prop) (hw : p_X11_bit a1 a2 M Q) : Met l yX11_bit (Cond.code yX11_bit cX11_bit 3 (some .int) :: bg) ({ frames := 3, cells := 0, slots := 0, locals := 71 } : Room) (va_Pc [.ref (g.2.1 (138 + 0)), .int a1, .int a2] (PW g (yw g M))) (va_Qi Q (PB g (yw g)) (Af 1 g)) 0 0 (Af 1 g) := by
  refine Met.ofW (cc := cX11_bit) (maxL := 3) (ret := (some .int)) (by decide +kernel) rfl ?_
  intro p e s m args below meth c s₁ B hml hv
  obtain ⟨rfl, hv⟩ := hv
  have C := CX.start (own := RX11) B hml rfl gi hv
  have hP := hv.1
  have hS : va_S (Af 1 g) s.heap s.heap [] := va_S.rf
  have hl := lv_entry ([.ref (g.2.1 (138 + 0)), .int a1, .int a2]) (n := 3) (Nat.le_of_ble_eq_true rfl)
  rw [lg_entry_eq]
  generalize (lg_sl ([.ref (g.2.1 (138 + 0)), .int a1, .int a2]) ++ List.replicate (3 - (lg_sl ([.ref (g.2.1 (138 + 0)), .int a1, .int a2])).length) Slot.unset).toArray = ls at hl ⊢
  have hl : lv_has ls 3 [(0, .ref (g.2.1 (138 + 0))), (1, .int a1), (2, .int a2)] := hl
  unfold p_X11_bit at hw
  refine lv_aload_n C.1 C.2.1 dX11_bit_0 rfl (lv_at hl 0 rfl) ?_
  refine lv_iconst (v := 0) C.1 C.2.1 dX11_bit_1 (by decide) ?_
  refine pX11_76 C hP hS Nat.zero_lt_one dX11_bit_2 (fun M1 e1 H locs hP hS => ?_)
  have hw := hw M1 e1
  refine lv_aload_n C.1 C.2.1 dX11_bit_5 rfl (lv_at hl 0 rfl) ?_
  refine lv_iload_n C.1 C.2.1 dX11_bit_6 rfl (lv_at hl 1 rfl) ?_
  refine goI (wf := (yw g)) (runV (w := yw g M1) (As := [.int a1]) (rest := []) C lkX11_216 (c_X11_isBird l g C.2.2.2.2.2.2.2.2.2.2 a1  M1 _ hw) hP hS rfl rfl ⟨Nat.le_of_ble_eq_true rfl, Nat.le_of_ble_eq_true rfl⟩ (xx_40 Nat.zero_lt_one) rfl rfl hl.1 rfl (Nat.le_of_ble_eq_true rfl) dX11_bit_7) hS (fun r2 M2 hw H locs hP hS => ?_)
  obtain ⟨hw, hz2⟩ := hw
  refine lv_if_eq (tgt := 33) C.1 C.2.1 dX11_bit_10 (by decide) (fun h3 => ?_) (fun h3 => ?_)
  · have hw := hw.1 h3
    refine lv_iconst (v := (-1)) C.1 C.2.1 dX11_bit_33 (by decide) ?_
    exact retI (wf := (yw g)) C hP hS hw dX11_bit_34
  · have hw := hw.2 h3
    refine lv_iload_n C.1 C.2.1 dX11_bit_13 rfl (lv_at hl 2 rfl) ?_
    refine lv_iconst (v := 0) C.1 C.2.1 dX11_bit_14 (by decide) ?_
    refine lv_sipush (v := 199) C.1 C.2.1 dX11_bit_15 (by decide) ?_
    refine goI (wf := (yw g)) (runS (w := yw g M2) (As := [.int a2, .int 0, .int 199]) (rest := []) C lkX11_166 (c_X11_isIn l g C.2.2.2.2.2.2.2.2.2.2 a2 0 199  M2 _ hw) hP hS rfl rfl ⟨Nat.le_of_ble_eq_true rfl, Nat.le_of_ble_eq_true rfl⟩ hl.1 rfl (Nat.le_of_ble_eq_true rfl) dX11_bit_18) hS (fun r4 M4 hw H locs hP hS => ?_)
    obtain ⟨hw, hz4⟩ := hw
    refine lv_if_eq (tgt := 33) C.1 C.2.1 dX11_bit_21 (by decide) (fun h5 => ?_) (fun h5 => ?_)
    · have hw := hw.1 h5
      refine lv_iconst (v := (-1)) C.1 C.2.1 dX11_bit_33 (by decide) ?_
      exact retI (wf := (yw g)) C hP hS hw dX11_bit_34
    · have hw := hw.2 h5
      refine lv_aload_n C.1 C.2.1 dX11_bit_24 rfl (lv_at hl 0 rfl) ?_
      refine lv_iload_n C.1 C.2.1 dX11_bit_25 rfl (lv_at hl 1 rfl) ?_
      refine lv_iload_n C.1 C.2.1 dX11_bit_26 rfl (lv_at hl 2 rfl) ?_
      refine goI (wf := (yw g)) (runV (w := yw g M4) (As := [.int a1, .int a2]) (rest := []) C lkX11_246 (c_X11_sentBit l g C.2.2.2.2.2.2.2.2.2.2 a1 a2  M4 _ hw) hP hS rfl rfl ⟨Nat.le_of_ble_eq_true rfl, Nat.le_of_ble_eq_true rfl⟩ (xx_40 Nat.zero_lt_one) rfl rfl hl.1 rfl (Nat.le_of_ble_eq_true rfl) dX11_bit_27) hS (fun r6 M6 hw H locs hP hS => ?_)
      refine lv_goto (tgt := 34) C.1 C.2.1 dX11_bit_30 (by decide) ?_
      exact retI (wf := (yw g)) C hP hS hw dX11_bit_34
def p_X11_rest (a0 : Int32) (a1 : Int32) (M : Mem) (Q : Int32 → Mem → Prop) : Prop := (¬ a1 = 0 ∧ ((0 ≤ (a0 - a0 / a1 * a1) → (¬ a1 = 0 ∧ (Q (a0 - a0 / a1 * a1) M))) ∧ (¬ 0 ≤ (a0 - a0 / a1 * a1) → (¬ a1 = 0 ∧ (Q ((a0 - a0 / a1 * a1) + a1) M)))))
set_option maxRecDepth 100000 in
set_option maxHeartbeats 4000000 in
theorem c_X11_rest (l : Launch) (g : Geo) (gi : GI g) (a0 : Int32) (a1 : Int32) (M : Mem) (Q : Int32 → Mem → Prop) (hw : p_X11_rest a0 a1 M Q) : Met l yX11_rest (Cond.code yX11_rest cX11_rest 2 (some .int) :: bg) ({ frames := 0, cells := 0, slots := 0, locals := 0 } : Room) (va_Pc [.int a0, .int a1] (PW g (yw g M))) (va_Qi Q (PB g (yw g)) (Af 1 g)) 0 0 (Af 1 g) := by
  refine Met.ofW (cc := cX11_rest) (maxL := 2) (ret := (some .int)) (by decide +kernel) rfl ?_
  intro p e s m args below meth c s₁ B hml hv
  obtain ⟨rfl, hv⟩ := hv
  have C := CX.start (own := RX11) B hml rfl gi hv
  have hP := hv.1
  have hS : va_S (Af 1 g) s.heap s.heap [] := va_S.rf
  have hl := lv_entry ([.int a0, .int a1]) (n := 2) (Nat.le_of_ble_eq_true rfl)
  rw [lg_entry_eq]
  generalize (lg_sl ([.int a0, .int a1]) ++ List.replicate (2 - (lg_sl ([.int a0, .int a1])).length) Slot.unset).toArray = ls at hl ⊢
  have hl : lv_has ls 2 [(0, .int a0), (1, .int a1)] := hl
  unfold p_X11_rest at hw
  refine lv_iload_n C.1 C.2.1 dX11_rest_0 rfl (lv_at hl 0 rfl) ?_
  refine lv_iload_n C.1 C.2.1 dX11_rest_1 rfl (lv_at hl 1 rfl) ?_
  obtain ⟨h1, hw⟩ := hw
  refine lv_irem C.1 C.2.1 dX11_rest_2 h1 ?_
  refine lv_if_ge (tgt := 14) C.1 C.2.1 dX11_rest_3 (by decide) (fun h2 => ?_) (fun h2 => ?_)
  · have hw := hw.1 h2
    refine lv_iload_n C.1 C.2.1 dX11_rest_14 rfl (lv_at hl 0 rfl) ?_
    refine lv_iload_n C.1 C.2.1 dX11_rest_15 rfl (lv_at hl 1 rfl) ?_
    obtain ⟨h3, hw⟩ := hw
    refine lv_irem C.1 C.2.1 dX11_rest_16 h3 ?_
    exact retI (wf := (yw g)) C hP hS hw dX11_rest_17
  · have hw := hw.2 h2
    refine lv_iload_n C.1 C.2.1 dX11_rest_6 rfl (lv_at hl 0 rfl) ?_
    refine lv_iload_n C.1 C.2.1 dX11_rest_7 rfl (lv_at hl 1 rfl) ?_
    obtain ⟨h4, hw⟩ := hw
    refine lv_irem C.1 C.2.1 dX11_rest_8 h4 ?_
    refine lv_iload_n C.1 C.2.1 dX11_rest_9 rfl (lv_at hl 1 rfl) ?_
    refine lv_iadd C.1 C.2.1 dX11_rest_10 ?_
    refine lv_goto (tgt := 17) C.1 C.2.1 dX11_rest_11 (by decide) ?_
    exact retI (wf := (yw g)) C hP hS hw dX11_rest_17
def p_X11_quotient (a0 : Int32) (a1 : Int32) (M : Mem) (Q : Int32 → Mem → Prop) : Prop := (p_X11_rest a0 a1 M (fun r1 M1 => (¬ a1 = 0 ∧ (Q ((a0 - r1) / a1) M1))))
set_option maxRecDepth 100000 in
set_option maxHeartbeats 4000000 in
theorem c_X11_quotient (l : Launch) (g : Geo) (gi : GI g) (a0 : Int32) (a1 : Int32) (M : Mem) (Q : Int32 → Mem → Prop) (hw : p_X11_quotient a0 a1 M Q) : Met l yX11_quotient (Cond.code yX11_quotient cX11_quotient 2 (some .int) :: bg) ({ frames := 1, cells := 0, slots := 0, locals := 21 } : Room) (va_Pc [.int a0, .int a1] (PW g (yw g M))) (va_Qi Q (PB g (yw g)) (Af 1 g)) 0 0 (Af 1 g) := by
  refine Met.ofW (cc := cX11_quotient) (maxL := 2) (ret := (some .int)) (by decide +kernel) rfl ?_
  intro p e s m args below meth c s₁ B hml hv
  obtain ⟨rfl, hv⟩ := hv
  have C := CX.start (own := RX11) B hml rfl gi hv
  have hP := hv.1
  have hS : va_S (Af 1 g) s.heap s.heap [] := va_S.rf
  have hl := lv_entry ([.int a0, .int a1]) (n := 2) (Nat.le_of_ble_eq_true rfl)
  rw [lg_entry_eq]
  generalize (lg_sl ([.int a0, .int a1]) ++ List.replicate (2 - (lg_sl ([.int a0, .int a1])).length) Slot.unset).toArray = ls at hl ⊢
  have hl : lv_has ls 2 [(0, .int a0), (1, .int a1)] := hl
  unfold p_X11_quotient at hw
  refine lv_iload_n C.1 C.2.1 dX11_quotient_0 rfl (lv_at hl 0 rfl) ?_
  refine lv_iload_n C.1 C.2.1 dX11_quotient_1 rfl (lv_at hl 0 rfl) ?_
  refine lv_iload_n C.1 C.2.1 dX11_quotient_2 rfl (lv_at hl 1 rfl) ?_
  refine goI (wf := (yw g)) (runS (w := yw g M) (As := [.int a0, .int a1]) (rest := [.int a0]) C lkX11_249 (c_X11_rest l g C.2.2.2.2.2.2.2.2.2.2 a0 a1  M _ hw) hP hS rfl rfl ⟨Nat.le_of_ble_eq_true rfl, Nat.le_of_ble_eq_true rfl⟩ hl.1 rfl (Nat.le_of_ble_eq_true rfl) dX11_quotient_3) hS (fun r1 M1 hw H locs hP hS => ?_)
  refine lv_isub C.1 C.2.1 dX11_quotient_6 ?_
  refine lv_iload_n C.1 C.2.1 dX11_quotient_7 rfl (lv_at hl 1 rfl) ?_
  obtain ⟨h2, hw⟩ := hw
  refine lv_idiv C.1 C.2.1 dX11_quotient_8 h2 ?_
  exact retI (wf := (yw g)) C hP hS hw dX11_quotient_9
def p_X11_startIn (a1 : Int32) (a2 : Int32) (M : Mem) (Q : Int32 → Mem → Prop) : Prop := (p_X11_birdOf a1 3 M (fun r1 M1 => (p_X11_birdOf a1 7 M1 (fun r2 M2 => ((¬ r2 = 0 → (p_X11_birdOf a1 7 M2 (fun r4 M4 => (¬ r4 = 0 ∧ (Q (r1 + (a2 / r4)) M4))))) ∧ (r2 = 0 → (Q (r1 + 0) M2)))))))
set_option maxRecDepth 100000 in
set_option maxHeartbeats 4000000 in
theorem c_X11_startIn (l : Launch) (g : Geo) (gi : GI g) (a1 : Int32) (a2 : Int32) (M : Mem) (Q : Int32 → Mem → Prop) (hw : p_X11_startIn a1 a2 M Q) : Met l yX11_startIn (Cond.code yX11_startIn cX11_startIn 3 (some .int) :: bg) ({ frames := 1, cells := 0, slots := 0, locals := 22 } : Room) (va_Pc [.ref (g.2.1 (138 + 0)), .int a1, .int a2] (PW g (yw g M))) (va_Qi Q (PB g (yw g)) (Af 1 g)) 0 0 (Af 1 g) := by
  refine Met.ofW (cc := cX11_startIn) (maxL := 3) (ret := (some .int)) (by decide +kernel) rfl ?_
  intro p e s m args below meth c s₁ B hml hv
  obtain ⟨rfl, hv⟩ := hv
  have C := CX.start (own := RX11) B hml rfl gi hv
  have hP := hv.1
  have hS : va_S (Af 1 g) s.heap s.heap [] := va_S.rf
  have hl := lv_entry ([.ref (g.2.1 (138 + 0)), .int a1, .int a2]) (n := 3) (Nat.le_of_ble_eq_true rfl)
  rw [lg_entry_eq]
  generalize (lg_sl ([.ref (g.2.1 (138 + 0)), .int a1, .int a2]) ++ List.replicate (3 - (lg_sl ([.ref (g.2.1 (138 + 0)), .int a1, .int a2])).length) Slot.unset).toArray = ls at hl ⊢
  have hl : lv_has ls 3 [(0, .ref (g.2.1 (138 + 0))), (1, .int a1), (2, .int a2)] := hl
  unfold p_X11_startIn at hw
  refine lv_aload_n C.1 C.2.1 dX11_startIn_0 rfl (lv_at hl 0 rfl) ?_
  refine lv_iload_n C.1 C.2.1 dX11_startIn_1 rfl (lv_at hl 1 rfl) ?_
  refine lv_iconst (v := 3) C.1 C.2.1 dX11_startIn_2 (by decide) ?_
  refine goI (wf := (yw g)) (runV (w := yw g M) (As := [.int a1, .int 3]) (rest := []) C lkX11_160 (c_X11_birdOf l g C.2.2.2.2.2.2.2.2.2.2 a1 3  M _ hw) hP hS rfl rfl ⟨Nat.le_of_ble_eq_true rfl, Nat.le_of_ble_eq_true rfl⟩ (xx_40 Nat.zero_lt_one) rfl rfl hl.1 rfl (Nat.le_of_ble_eq_true rfl) dX11_startIn_3) hS (fun r1 M1 hw H locs hP hS => ?_)
  refine lv_aload_n C.1 C.2.1 dX11_startIn_6 rfl (lv_at hl 0 rfl) ?_
  refine lv_iload_n C.1 C.2.1 dX11_startIn_7 rfl (lv_at hl 1 rfl) ?_
  refine lv_bipush (v := 7) C.1 C.2.1 dX11_startIn_8 (by decide) ?_
  refine goI (wf := (yw g)) (runV (w := yw g M1) (As := [.int a1, .int 7]) (rest := [.int r1]) C lkX11_160 (c_X11_birdOf l g C.2.2.2.2.2.2.2.2.2.2 a1 7  M1 _ hw) hP hS rfl rfl ⟨Nat.le_of_ble_eq_true rfl, Nat.le_of_ble_eq_true rfl⟩ (xx_40 Nat.zero_lt_one) rfl rfl hl.1 rfl (Nat.le_of_ble_eq_true rfl) dX11_startIn_10) hS (fun r2 M2 hw H locs hP hS => ?_)
  refine lv_if_ne (tgt := 20) C.1 C.2.1 dX11_startIn_13 (by decide) (fun h3 => ?_) (fun h3 => ?_)
  · have hw := hw.1 h3
    refine lv_iload_n C.1 C.2.1 dX11_startIn_20 rfl (lv_at hl 2 rfl) ?_
    refine lv_aload_n C.1 C.2.1 dX11_startIn_21 rfl (lv_at hl 0 rfl) ?_
    refine lv_iload_n C.1 C.2.1 dX11_startIn_22 rfl (lv_at hl 1 rfl) ?_
    refine lv_bipush (v := 7) C.1 C.2.1 dX11_startIn_23 (by decide) ?_
    refine goI (wf := (yw g)) (runV (w := yw g M2) (As := [.int a1, .int 7]) (rest := [.int a2, .int r1]) C lkX11_160 (c_X11_birdOf l g C.2.2.2.2.2.2.2.2.2.2 a1 7  M2 _ hw) hP hS rfl rfl ⟨Nat.le_of_ble_eq_true rfl, Nat.le_of_ble_eq_true rfl⟩ (xx_40 Nat.zero_lt_one) rfl rfl hl.1 rfl (Nat.le_of_ble_eq_true rfl) dX11_startIn_25) hS (fun r4 M4 hw H locs hP hS => ?_)
    obtain ⟨h5, hw⟩ := hw
    refine lv_idiv C.1 C.2.1 dX11_startIn_28 h5 ?_
    refine lv_iadd C.1 C.2.1 dX11_startIn_29 ?_
    exact retI (wf := (yw g)) C hP hS hw dX11_startIn_30
  · have hw := hw.2 h3
    refine lv_iconst (v := 0) C.1 C.2.1 dX11_startIn_16 (by decide) ?_
    refine lv_goto (tgt := 29) C.1 C.2.1 dX11_startIn_17 (by decide) ?_
    refine lv_iadd C.1 C.2.1 dX11_startIn_29 ?_
    exact retI (wf := (yw g)) C hP hS hw dX11_startIn_30
def b_X11_isLoud_26 (Q : Int32 → Mem → Prop) (v1 : Int32) (v2 : Int32) (M : Mem) : Prop := (p_X11_birdOf v1 8 M (fun r4 M4 => ((r4 = 0 → (Q 1 M4)) ∧ (¬ r4 = 0 → (p_X11_birdOf v1 8 M4 (fun r6 M6 => ((r6 ≤ v2 → (Q 0 M6)) ∧ (¬ r6 ≤ v2 → (Q 1 M6)))))))))
set_option maxRecDepth 100000 in
set_option maxHeartbeats 4000000 in
theorem k_X11_isLoud_26 {p : Program} {l : Launch} {e : Env} {s : State} {m : MethodId} {args : Array Value} {below : List Frame} {meth : Method} {c : Code} {g : Geo} (C : CX g p s m args meth c cX11_isLoud 3 (some .boolean) RX11) {Q : Int32 → Mem → Prop} (v1 : Int32) (v2 : Int32) (M : Mem) (hw : b_X11_isLoud_26 Q v1 v2 M) {H : Heap} {locs : List Loc} {ls : Array Slot} (hl : lv_has ls 3 [(0, .ref (g.2.1 (138 + 0))), (1, .int v1), (2, .int v2)]) (hP : va_P g.1 clz (yw g M) H) (hS : va_S (Af 1 g) s.heap H locs) : W p l e ({ frames := 1, cells := 0, slots := 0, locals := 22 } : Room) s m args below meth c H locs 0 0 (MQ below (va_Qi (fun r M => Q r M ∧ narrow .boolean (.int r) = .int r) (PB g (yw g)) (Af 1 g)) args s 0 0 (Af 1 g)) (F0 m 26 ls []) := by
  unfold b_X11_isLoud_26 at hw
  refine lv_aload_n C.1 C.2.1 dX11_isLoud_26 rfl (lv_at hl 0 rfl) ?_
  refine lv_iload_n C.1 C.2.1 dX11_isLoud_27 rfl (lv_at hl 1 rfl) ?_
  refine lv_bipush (v := 8) C.1 C.2.1 dX11_isLoud_28 (by decide) ?_
  refine goI (wf := (yw g)) (runV (w := yw g M) (As := [.int v1, .int 8]) (rest := []) C lkX11_160 (c_X11_birdOf l g C.2.2.2.2.2.2.2.2.2.2 v1 8  M _ hw) hP hS rfl rfl ⟨Nat.le_of_ble_eq_true rfl, Nat.le_of_ble_eq_true rfl⟩ (xx_40 Nat.zero_lt_one) rfl rfl hl.1 rfl (Nat.le_of_ble_eq_true rfl) dX11_isLoud_30) hS (fun r4 M4 hw H locs hP hS => ?_)
  refine lv_if_eq (tgt := 47) C.1 C.2.1 dX11_isLoud_33 (by decide) (fun h5 => ?_) (fun h5 => ?_)
  · have hw := hw.1 h5
    refine lv_iconst (v := 1) C.1 C.2.1 dX11_isLoud_47 (by decide) ?_
    refine lv_goto (tgt := 52) C.1 C.2.1 dX11_isLoud_48 (by decide) ?_
    exact retZ (wf := (yw g)) C hP hS rfl hw dX11_isLoud_52
  · have hw := hw.2 h5
    refine lv_aload_n C.1 C.2.1 dX11_isLoud_36 rfl (lv_at hl 0 rfl) ?_
    refine lv_iload_n C.1 C.2.1 dX11_isLoud_37 rfl (lv_at hl 1 rfl) ?_
    refine lv_bipush (v := 8) C.1 C.2.1 dX11_isLoud_38 (by decide) ?_
    refine goI (wf := (yw g)) (runV (w := yw g M4) (As := [.int v1, .int 8]) (rest := []) C lkX11_160 (c_X11_birdOf l g C.2.2.2.2.2.2.2.2.2.2 v1 8  M4 _ hw) hP hS rfl rfl ⟨Nat.le_of_ble_eq_true rfl, Nat.le_of_ble_eq_true rfl⟩ (xx_40 Nat.zero_lt_one) rfl rfl hl.1 rfl (Nat.le_of_ble_eq_true rfl) dX11_isLoud_40) hS (fun r6 M6 hw H locs hP hS => ?_)
    refine lv_iload_n C.1 C.2.1 dX11_isLoud_43 rfl (lv_at hl 2 rfl) ?_
    refine lv_icmp_le (tgt := 51) C.1 C.2.1 dX11_isLoud_44 (by decide) (fun h7 => ?_) (fun h7 => ?_)
    · have hw := hw.1 h7
      refine lv_iconst (v := 0) C.1 C.2.1 dX11_isLoud_51 (by decide) ?_
      exact retZ (wf := (yw g)) C hP hS rfl hw dX11_isLoud_52
    · have hw := hw.2 h7
      refine lv_iconst (v := 1) C.1 C.2.1 dX11_isLoud_47 (by decide) ?_
      refine lv_goto (tgt := 52) C.1 C.2.1 dX11_isLoud_48 (by decide) ?_
      exact retZ (wf := (yw g)) C hP hS rfl hw dX11_isLoud_52
def p_X11_isLoud (a1 : Int32) (a2 : Int32) (M : Mem) (Q : Int32 → Mem → Prop) : Prop := (p_X11_birdOf a1 2 M (fun r1 M1 => ((r1 = 0 → (Q 0 M1)) ∧ (¬ r1 = 0 → (((M1.1 40 0 24) < 0 → (b_X11_isLoud_26 Q a1 a2 M1)) ∧ (¬ (M1.1 40 0 24) < 0 → ((a1 = (M1.1 40 0 24) → (b_X11_isLoud_26 Q a1 a2 M1)) ∧ (¬ a1 = (M1.1 40 0 24) → (Q 0 M1)))))))))
set_option maxRecDepth 100000 in
set_option maxHeartbeats 4000000 in
theorem c_X11_isLoud (l : Launch) (g : Geo) (gi : GI g) (a1 : Int32) (a2 : Int32) (M : Mem) (Q : Int32 → Mem → Prop) (hw : p_X11_isLoud a1 a2 M Q) : Met l yX11_isLoud (Cond.code yX11_isLoud cX11_isLoud 3 (some .boolean) :: bg) ({ frames := 1, cells := 0, slots := 0, locals := 22 } : Room) (va_Pc [.ref (g.2.1 (138 + 0)), .int a1, .int a2] (PW g (yw g M))) (va_Qi (fun r M => Q r M ∧ narrow .boolean (.int r) = .int r) (PB g (yw g)) (Af 1 g)) 0 0 (Af 1 g) := by
  refine Met.ofW (cc := cX11_isLoud) (maxL := 3) (ret := (some .boolean)) (by decide +kernel) rfl ?_
  intro p e s m args below meth c s₁ B hml hv
  obtain ⟨rfl, hv⟩ := hv
  have C := CX.start (own := RX11) B hml rfl gi hv
  have hP := hv.1
  have hS : va_S (Af 1 g) s.heap s.heap [] := va_S.rf
  have hl := lv_entry ([.ref (g.2.1 (138 + 0)), .int a1, .int a2]) (n := 3) (Nat.le_of_ble_eq_true rfl)
  rw [lg_entry_eq]
  generalize (lg_sl ([.ref (g.2.1 (138 + 0)), .int a1, .int a2]) ++ List.replicate (3 - (lg_sl ([.ref (g.2.1 (138 + 0)), .int a1, .int a2])).length) Slot.unset).toArray = ls at hl ⊢
  have hl : lv_has ls 3 [(0, .ref (g.2.1 (138 + 0))), (1, .int a1), (2, .int a2)] := hl
  unfold p_X11_isLoud at hw
  refine lv_aload_n C.1 C.2.1 dX11_isLoud_0 rfl (lv_at hl 0 rfl) ?_
  refine lv_iload_n C.1 C.2.1 dX11_isLoud_1 rfl (lv_at hl 1 rfl) ?_
  refine lv_iconst (v := 2) C.1 C.2.1 dX11_isLoud_2 (by decide) ?_
  refine goI (wf := (yw g)) (runV (w := yw g M) (As := [.int a1, .int 2]) (rest := []) C lkX11_160 (c_X11_birdOf l g C.2.2.2.2.2.2.2.2.2.2 a1 2  M _ hw) hP hS rfl rfl ⟨Nat.le_of_ble_eq_true rfl, Nat.le_of_ble_eq_true rfl⟩ (xx_40 Nat.zero_lt_one) rfl rfl hl.1 rfl (Nat.le_of_ble_eq_true rfl) dX11_isLoud_3) hS (fun r1 M1 hw H locs hP hS => ?_)
  refine lv_if_eq (tgt := 24) C.1 C.2.1 dX11_isLoud_6 (by decide) (fun h2 => ?_) (fun h2 => ?_)
  · have hw := hw.1 h2
    refine lv_iconst (v := 0) C.1 C.2.1 dX11_isLoud_24 (by decide) ?_
    exact retZ (wf := (yw g)) C hP hS rfl hw dX11_isLoud_25
  · have hw := hw.2 h2
    refine lv_aload_n C.1 C.2.1 dX11_isLoud_9 rfl (lv_at hl 0 rfl) ?_
    refine gX11_140 C hP Nat.zero_lt_one dX11_isLoud_10 ?_
    refine lv_if_lt (tgt := 26) C.1 C.2.1 dX11_isLoud_13 (by decide) (fun h3 => ?_) (fun h3 => ?_)
    · have hw := hw.1 h3
      exact k_X11_isLoud_26 (Q := Q) C a1 a2  _ hw (lv_sub hl [0, 1, 2] rfl) hP hS
    · have hw := hw.2 h3
      refine lv_iload_n C.1 C.2.1 dX11_isLoud_16 rfl (lv_at hl 1 rfl) ?_
      refine lv_aload_n C.1 C.2.1 dX11_isLoud_17 rfl (lv_at hl 0 rfl) ?_
      refine gX11_140 C hP Nat.zero_lt_one dX11_isLoud_18 ?_
      refine lv_icmp_eq (tgt := 26) C.1 C.2.1 dX11_isLoud_21 (by decide) (fun h8 => ?_) (fun h8 => ?_)
      · have hw := hw.1 h8
        exact k_X11_isLoud_26 (Q := Q) C a1 a2  _ hw (lv_sub hl [0, 1, 2] rfl) hP hS
      · have hw := hw.2 h8
        refine lv_iconst (v := 0) C.1 C.2.1 dX11_isLoud_24 (by decide) ?_
        exact retZ (wf := (yw g)) C hP hS rfl hw dX11_isLoud_25
def p_X11_cosOf (a1 : Int32) (M : Mem) (Q : Int32 → Mem → Prop) : Prop := (p_X11_rest a1 16 M (fun r1 M1 => (vp_in r1 16 ∧ (Q (M1.1 48 0 (r1 : Int32).toNatClampNeg) M1))))
set_option maxRecDepth 100000 in
set_option maxHeartbeats 4000000 in
theorem c_X11_cosOf (l : Launch) (g : Geo) (gi : GI g) (a1 : Int32) (M : Mem) (Q : Int32 → Mem → Prop) (hw : p_X11_cosOf a1 M Q) : Met l yX11_cosOf (Cond.code yX11_cosOf cX11_cosOf 2 (some .int) :: bg) ({ frames := 1, cells := 0, slots := 0, locals := 21 } : Room) (va_Pc [.ref (g.2.1 (138 + 0)), .int a1] (PW g (yw g M))) (va_Qi Q (PB g (yw g)) (Af 1 g)) 0 0 (Af 1 g) := by
  refine Met.ofW (cc := cX11_cosOf) (maxL := 2) (ret := (some .int)) (by decide +kernel) rfl ?_
  intro p e s m args below meth c s₁ B hml hv
  obtain ⟨rfl, hv⟩ := hv
  have C := CX.start (own := RX11) B hml rfl gi hv
  have hP := hv.1
  have hS : va_S (Af 1 g) s.heap s.heap [] := va_S.rf
  have hl := lv_entry ([.ref (g.2.1 (138 + 0)), .int a1]) (n := 2) (Nat.le_of_ble_eq_true rfl)
  rw [lg_entry_eq]
  generalize (lg_sl ([.ref (g.2.1 (138 + 0)), .int a1]) ++ List.replicate (2 - (lg_sl ([.ref (g.2.1 (138 + 0)), .int a1])).length) Slot.unset).toArray = ls at hl ⊢
  have hl : lv_has ls 2 [(0, .ref (g.2.1 (138 + 0))), (1, .int a1)] := hl
  unfold p_X11_cosOf at hw
  refine lv_aload_n C.1 C.2.1 dX11_cosOf_0 rfl (lv_at hl 0 rfl) ?_
  refine gX11_36 C hP Nat.zero_lt_one dX11_cosOf_1 ?_
  refine lv_iload_n C.1 C.2.1 dX11_cosOf_4 rfl (lv_at hl 1 rfl) ?_
  refine lv_bipush (v := 16) C.1 C.2.1 dX11_cosOf_5 (by decide) ?_
  refine goI (wf := (yw g)) (runS (w := yw g M) (As := [.int a1, .int 16]) (rest := [.ref (g.2.1 (146 + 0))]) C lkX11_249 (c_X11_rest l g C.2.2.2.2.2.2.2.2.2.2 a1 16  M _ hw) hP hS rfl rfl ⟨Nat.le_of_ble_eq_true rfl, Nat.le_of_ble_eq_true rfl⟩ hl.1 rfl (Nat.le_of_ble_eq_true rfl) dX11_cosOf_7) hS (fun r1 M1 hw H locs hP hS => ?_)
  obtain ⟨h2, hw⟩ := hw
  refine al_48 C hP Nat.zero_lt_one h2 dX11_cosOf_10 ?_
  exact retI (wf := (yw g)) C hP hS hw dX11_cosOf_11
def p_X11_sinOf (a1 : Int32) (M : Mem) (Q : Int32 → Mem → Prop) : Prop := (p_X11_rest ((a1 + 12)) 16 M (fun r1 M1 => (vp_in r1 16 ∧ (Q (M1.1 48 0 (r1 : Int32).toNatClampNeg) M1))))
set_option maxRecDepth 100000 in
set_option maxHeartbeats 4000000 in
theorem c_X11_sinOf (l : Launch) (g : Geo) (gi : GI g) (a1 : Int32) (M : Mem) (Q : Int32 → Mem → Prop) (hw : p_X11_sinOf a1 M Q) : Met l yX11_sinOf (Cond.code yX11_sinOf cX11_sinOf 2 (some .int) :: bg) ({ frames := 1, cells := 0, slots := 0, locals := 21 } : Room) (va_Pc [.ref (g.2.1 (138 + 0)), .int a1] (PW g (yw g M))) (va_Qi Q (PB g (yw g)) (Af 1 g)) 0 0 (Af 1 g) := by
  refine Met.ofW (cc := cX11_sinOf) (maxL := 2) (ret := (some .int)) (by decide +kernel) rfl ?_
  intro p e s m args below meth c s₁ B hml hv
  obtain ⟨rfl, hv⟩ := hv
  have C := CX.start (own := RX11) B hml rfl gi hv
  have hP := hv.1
  have hS : va_S (Af 1 g) s.heap s.heap [] := va_S.rf
  have hl := lv_entry ([.ref (g.2.1 (138 + 0)), .int a1]) (n := 2) (Nat.le_of_ble_eq_true rfl)
  rw [lg_entry_eq]
  generalize (lg_sl ([.ref (g.2.1 (138 + 0)), .int a1]) ++ List.replicate (2 - (lg_sl ([.ref (g.2.1 (138 + 0)), .int a1])).length) Slot.unset).toArray = ls at hl ⊢
  have hl : lv_has ls 2 [(0, .ref (g.2.1 (138 + 0))), (1, .int a1)] := hl
  unfold p_X11_sinOf at hw
  refine lv_aload_n C.1 C.2.1 dX11_sinOf_0 rfl (lv_at hl 0 rfl) ?_
  refine gX11_36 C hP Nat.zero_lt_one dX11_sinOf_1 ?_
  refine lv_iload_n C.1 C.2.1 dX11_sinOf_4 rfl (lv_at hl 1 rfl) ?_
  refine lv_bipush (v := 12) C.1 C.2.1 dX11_sinOf_5 (by decide) ?_
  refine lv_iadd C.1 C.2.1 dX11_sinOf_7 ?_
  refine lv_bipush (v := 16) C.1 C.2.1 dX11_sinOf_8 (by decide) ?_
  refine goI (wf := (yw g)) (runS (w := yw g M) (As := [.int (a1 + 12), .int 16]) (rest := [.ref (g.2.1 (146 + 0))]) C lkX11_249 (c_X11_rest l g C.2.2.2.2.2.2.2.2.2.2 ((a1 + 12)) 16  M _ hw) hP hS rfl rfl ⟨Nat.le_of_ble_eq_true rfl, Nat.le_of_ble_eq_true rfl⟩ hl.1 rfl (Nat.le_of_ble_eq_true rfl) dX11_sinOf_10) hS (fun r1 M1 hw H locs hP hS => ?_)
  obtain ⟨h2, hw⟩ := hw
  refine al_48 C hP Nat.zero_lt_one h2 dX11_sinOf_13 ?_
  exact retI (wf := (yw g)) C hP hS hw dX11_sinOf_14
def p_X11_angleOf (a0 : Int32) (a1 : Int32) (a2 : Int32) (M : Mem) (Q : Int32 → Mem → Prop) : Prop := (p_X11_quotient (((a0 - 7) * a2)) 8 M (fun r1 M1 => (Q (r1 + a1) M1)))
set_option maxRecDepth 100000 in
set_option maxHeartbeats 4000000 in
theorem c_X11_angleOf (l : Launch) (g : Geo) (gi : GI g) (a0 : Int32) (a1 : Int32) (a2 : Int32) (M : Mem) (Q : Int32 → Mem → Prop) (hw : p_X11_angleOf a0 a1 a2 M Q) : Met l yX11_angleOf (Cond.code yX11_angleOf cX11_angleOf 3 (some .int) :: bg) ({ frames := 2, cells := 0, slots := 0, locals := 42 } : Room) (va_Pc [.int a0, .int a1, .int a2] (PW g (yw g M))) (va_Qi Q (PB g (yw g)) (Af 1 g)) 0 0 (Af 1 g) := by
  refine Met.ofW (cc := cX11_angleOf) (maxL := 3) (ret := (some .int)) (by decide +kernel) rfl ?_
  intro p e s m args below meth c s₁ B hml hv
  obtain ⟨rfl, hv⟩ := hv
  have C := CX.start (own := RX11) B hml rfl gi hv
  have hP := hv.1
  have hS : va_S (Af 1 g) s.heap s.heap [] := va_S.rf
  have hl := lv_entry ([.int a0, .int a1, .int a2]) (n := 3) (Nat.le_of_ble_eq_true rfl)
  rw [lg_entry_eq]
  generalize (lg_sl ([.int a0, .int a1, .int a2]) ++ List.replicate (3 - (lg_sl ([.int a0, .int a1, .int a2])).length) Slot.unset).toArray = ls at hl ⊢
  have hl : lv_has ls 3 [(0, .int a0), (1, .int a1), (2, .int a2)] := hl
  unfold p_X11_angleOf at hw
  refine lv_iload_n C.1 C.2.1 dX11_angleOf_0 rfl (lv_at hl 0 rfl) ?_
  refine lv_bipush (v := 7) C.1 C.2.1 dX11_angleOf_1 (by decide) ?_
  refine lv_isub C.1 C.2.1 dX11_angleOf_3 ?_
  refine lv_iload_n C.1 C.2.1 dX11_angleOf_4 rfl (lv_at hl 2 rfl) ?_
  refine lv_imul C.1 C.2.1 dX11_angleOf_5 ?_
  refine lv_bipush (v := 8) C.1 C.2.1 dX11_angleOf_6 (by decide) ?_
  refine goI (wf := (yw g)) (runS (w := yw g M) (As := [.int ((a0 - 7) * a2), .int 8]) (rest := []) C lkX11_252 (c_X11_quotient l g C.2.2.2.2.2.2.2.2.2.2 (((a0 - 7) * a2)) 8  M _ hw) hP hS rfl rfl ⟨Nat.le_of_ble_eq_true rfl, Nat.le_of_ble_eq_true rfl⟩ hl.1 rfl (Nat.le_of_ble_eq_true rfl) dX11_angleOf_8) hS (fun r1 M1 hw H locs hP hS => ?_)
  refine lv_iload_n C.1 C.2.1 dX11_angleOf_11 rfl (lv_at hl 1 rfl) ?_
  refine lv_iadd C.1 C.2.1 dX11_angleOf_12 ?_
  exact retI (wf := (yw g)) C hP hS hw dX11_angleOf_13
def p_X11_made (a0 : Int64) (M : Mem) (Q : Int64 → Mem → Prop) : Prop := (Q (((a0 * 1103515245) + 12345) &&& 2147483647) M)
set_option maxRecDepth 100000 in
set_option maxHeartbeats 4000000 in
theorem c_X11_made (l : Launch) (g : Geo) (gi : GI g) (a0 : Int64) (M : Mem) (Q : Int64 → Mem → Prop) (hw : p_X11_made a0 M Q) : Met l yX11_made (Cond.code yX11_made cX11_made 2 (some .long) :: bg) ({ frames := 0, cells := 0, slots := 0, locals := 0 } : Room) (va_Pc [.long a0] (PW g (yw g M))) (va_Ql Q (PB g (yw g)) (Af 1 g)) 0 0 (Af 1 g) := by
  refine Met.ofW (cc := cX11_made) (maxL := 2) (ret := (some .long)) (by decide +kernel) rfl ?_
  intro p e s m args below meth c s₁ B hml hv
  obtain ⟨rfl, hv⟩ := hv
  have C := CX.start (own := RX11) B hml rfl gi hv
  have hP := hv.1
  have hS : va_S (Af 1 g) s.heap s.heap [] := va_S.rf
  have hl := lv_entry ([.long a0]) (n := 2) (Nat.le_of_ble_eq_true rfl)
  rw [lg_entry_eq]
  generalize (lg_sl ([.long a0]) ++ List.replicate (2 - (lg_sl ([.long a0])).length) Slot.unset).toArray = ls at hl ⊢
  have hl : lv_has ls 2 [(0, .long a0)] := hl
  unfold p_X11_made at hw
  refine lv_lload_n C.1 C.2.1 dX11_made_0 rfl (lv_at hl 0 rfl) ?_
  refine lv_ldc2 (v := 1103515245) C.1 C.2.1 C.2.2.2.2.1 (C.2.2.2.2.2.1 _ (bg_of 1632 (by decide +kernel) rfl)) dX11_made_1 ?_
  refine lv_lmul C.1 C.2.1 dX11_made_4 ?_
  refine lv_ldc2 (v := 12345) C.1 C.2.1 C.2.2.2.2.1 (C.2.2.2.2.2.1 _ (bg_of 1633 (by decide +kernel) rfl)) dX11_made_5 ?_
  refine lv_ladd C.1 C.2.1 dX11_made_8 ?_
  refine lv_ldc2 (v := 2147483647) C.1 C.2.1 C.2.2.2.2.1 (C.2.2.2.2.2.1 _ (bg_of 1634 (by decide +kernel) rfl)) dX11_made_9 ?_
  refine lv_land C.1 C.2.1 dX11_made_12 ?_
  exact retL (wf := (yw g)) C hP hS hw dX11_made_13
def p_X11_errorOf (a0 : Int64) (a2 : Int32) (M : Mem) (Q : Int32 → Mem → Prop) : Prop := (¬ ((((2 : Int32) * a2) + 1) : Int32).toInt64 = 0 ∧ (Q ((((a0 / 65536) - (a0 / 65536) / ((((2 : Int32) * a2) + 1) : Int32).toInt64 * ((((2 : Int32) * a2) + 1) : Int32).toInt64) : Int64).toInt32 - a2) M))
set_option maxRecDepth 100000 in
set_option maxHeartbeats 4000000 in
theorem c_X11_errorOf (l : Launch) (g : Geo) (gi : GI g) (a0 : Int64) (a2 : Int32) (M : Mem) (Q : Int32 → Mem → Prop) (hw : p_X11_errorOf a0 a2 M Q) : Met l yX11_errorOf (Cond.code yX11_errorOf cX11_errorOf 3 (some .int) :: bg) ({ frames := 0, cells := 0, slots := 0, locals := 0 } : Room) (va_Pc [.long a0, .int a2] (PW g (yw g M))) (va_Qi Q (PB g (yw g)) (Af 1 g)) 0 0 (Af 1 g) := by
  refine Met.ofW (cc := cX11_errorOf) (maxL := 3) (ret := (some .int)) (by decide +kernel) rfl ?_
  intro p e s m args below meth c s₁ B hml hv
  obtain ⟨rfl, hv⟩ := hv
  have C := CX.start (own := RX11) B hml rfl gi hv
  have hP := hv.1
  have hS : va_S (Af 1 g) s.heap s.heap [] := va_S.rf
  have hl := lv_entry ([.long a0, .int a2]) (n := 3) (Nat.le_of_ble_eq_true rfl)
  rw [lg_entry_eq]
  generalize (lg_sl ([.long a0, .int a2]) ++ List.replicate (3 - (lg_sl ([.long a0, .int a2])).length) Slot.unset).toArray = ls at hl ⊢
  have hl : lv_has ls 3 [(0, .long a0), (2, .int a2)] := hl
  unfold p_X11_errorOf at hw
  refine lv_lload_n C.1 C.2.1 dX11_errorOf_0 rfl (lv_at hl 0 rfl) ?_
  refine lv_ldc2 (v := 65536) C.1 C.2.1 C.2.2.2.2.1 (C.2.2.2.2.2.1 _ (bg_of 1638 (by decide +kernel) rfl)) dX11_errorOf_1 ?_
  refine lv_ldiv C.1 C.2.1 dX11_errorOf_4 (by decide) ?_
  refine lv_iconst (v := 2) C.1 C.2.1 dX11_errorOf_5 (by decide) ?_
  refine lv_iload_n C.1 C.2.1 dX11_errorOf_6 rfl (lv_at hl 1 rfl) ?_
  refine lv_imul C.1 C.2.1 dX11_errorOf_7 ?_
  refine lv_iconst (v := 1) C.1 C.2.1 dX11_errorOf_8 (by decide) ?_
  refine lv_iadd C.1 C.2.1 dX11_errorOf_9 ?_
  refine lv_i2l C.1 C.2.1 dX11_errorOf_10 rfl ?_
  obtain ⟨h1, hw⟩ := hw
  refine lv_lrem C.1 C.2.1 dX11_errorOf_11 h1 ?_
  refine lv_l2i C.1 C.2.1 dX11_errorOf_12 rfl ?_
  refine lv_iload_n C.1 C.2.1 dX11_errorOf_13 rfl (lv_at hl 1 rfl) ?_
  refine lv_isub C.1 C.2.1 dX11_errorOf_14 ?_
  exact retI (wf := (yw g)) C hP hS hw dX11_errorOf_15
def b_X11_adds_73 (Q : Mem → Prop) (v1 : Int32) (v3 : Int32) (s0 : Int32) (M : Mem) : Prop := (p_X11_birdOf v1 4 M (fun r13 M13 => (p_X11_birdOf v1 5 M13 (fun r14 M14 => (p_X11_angleOf r13 r14 v3 M14 (fun r15 M15 => (vp_in (v3 - v3 / 62 * 62) 62 ∧ (p_X11_cosOf r15 M15 (fun r17 M17 => (vp_in (v3 - v3 / 62 * 62) 62 ∧ (∀ M18 : Mem, M18 = sI M17 49 0 ((v3 - v3 / 62 * 62) : Int32).toNatClampNeg ((M15.1 49 0 ((v3 - v3 / 62 * 62) : Int32).toNatClampNeg) + (s0 * r17)) → (vp_in (v3 - v3 / 62 * 62) 62 ∧ (p_X11_sinOf r15 M18 (fun r20 M20 => (vp_in (v3 - v3 / 62 * 62) 62 ∧ (∀ M21 : Mem, M21 = sI M20 50 0 ((v3 - v3 / 62 * 62) : Int32).toNatClampNeg ((M18.1 50 0 ((v3 - v3 / 62 * 62) : Int32).toNatClampNeg) + (s0 * r20)) → (Q M21)))))))))))))))))
set_option maxRecDepth 100000 in
set_option maxHeartbeats 4000000 in
theorem k_X11_adds_73 {p : Program} {l : Launch} {e : Env} {s : State} {m : MethodId} {args : Array Value} {below : List Frame} {meth : Method} {c : Code} {g : Geo} (C : CX g p s m args meth c cX11_adds 7 none RX11) {Q : Mem → Prop} (v1 : Int32) (v3 : Int32) (s0 : Int32) (M : Mem) (hw : b_X11_adds_73 Q v1 v3 s0 M) {H : Heap} {locs : List Loc} {ls : Array Slot} (hl : lv_has ls 7 [(0, .ref (g.2.1 (138 + 0))), (1, .int v1), (3, .int v3)]) (hP : va_P g.1 clz (yw g M) H) (hS : va_S (Af 1 g) s.heap H locs) : W p l e ({ frames := 3, cells := 0, slots := 0, locals := 71 } : Room) s m args below meth c H locs 0 0 (MQ below (va_Qv Q (PB g (yw g)) (Af 1 g)) args s 0 0 (Af 1 g)) (F0 m 73 ls [.int s0]) := by
  unfold b_X11_adds_73 at hw
  refine lv_istore (lv' := [(5, .int s0), (0, .ref (g.2.1 (138 + 0))), (1, .int v1), (3, .int v3)]) C.1 C.2.1 dX11_adds_73 hl (by decide) rfl (fun ls hl => ?_)
  refine lv_aload_n C.1 C.2.1 dX11_adds_75 rfl (lv_at hl 1 rfl) ?_
  refine lv_iload_n C.1 C.2.1 dX11_adds_76 rfl (lv_at hl 2 rfl) ?_
  refine lv_iconst (v := 4) C.1 C.2.1 dX11_adds_77 (by decide) ?_
  refine goI (wf := (yw g)) (runV (w := yw g M) (As := [.int v1, .int 4]) (rest := []) C lkX11_160 (c_X11_birdOf l g C.2.2.2.2.2.2.2.2.2.2 v1 4  M _ hw) hP hS rfl rfl ⟨Nat.le_of_ble_eq_true rfl, Nat.le_of_ble_eq_true rfl⟩ (xx_40 Nat.zero_lt_one) rfl rfl hl.1 rfl (Nat.le_of_ble_eq_true rfl) dX11_adds_78) hS (fun r13 M13 hw H locs hP hS => ?_)
  refine lv_aload_n C.1 C.2.1 dX11_adds_81 rfl (lv_at hl 1 rfl) ?_
  refine lv_iload_n C.1 C.2.1 dX11_adds_82 rfl (lv_at hl 2 rfl) ?_
  refine lv_iconst (v := 5) C.1 C.2.1 dX11_adds_83 (by decide) ?_
  refine goI (wf := (yw g)) (runV (w := yw g M13) (As := [.int v1, .int 5]) (rest := [.int r13]) C lkX11_160 (c_X11_birdOf l g C.2.2.2.2.2.2.2.2.2.2 v1 5  M13 _ hw) hP hS rfl rfl ⟨Nat.le_of_ble_eq_true rfl, Nat.le_of_ble_eq_true rfl⟩ (xx_40 Nat.zero_lt_one) rfl rfl hl.1 rfl (Nat.le_of_ble_eq_true rfl) dX11_adds_84) hS (fun r14 M14 hw H locs hP hS => ?_)
  refine lv_iload_n C.1 C.2.1 dX11_adds_87 rfl (lv_at hl 3 rfl) ?_
  refine goI (wf := (yw g)) (runS (w := yw g M14) (As := [.int r13, .int r14, .int v3]) (rest := []) C lkX11_280 (c_X11_angleOf l g C.2.2.2.2.2.2.2.2.2.2 r13 r14 v3  M14 _ hw) hP hS rfl rfl ⟨Nat.le_of_ble_eq_true rfl, Nat.le_of_ble_eq_true rfl⟩ hl.1 rfl (Nat.le_of_ble_eq_true rfl) dX11_adds_88) hS (fun r15 M15 hw H locs hP hS => ?_)
  refine lv_istore (lv' := [(6, .int r15), (5, .int s0), (0, .ref (g.2.1 (138 + 0))), (1, .int v1), (3, .int v3)]) C.1 C.2.1 dX11_adds_91 hl (by decide) rfl (fun ls hl => ?_)
  refine lv_aload_n C.1 C.2.1 dX11_adds_93 rfl (lv_at hl 2 rfl) ?_
  refine gX11_39 C hP Nat.zero_lt_one dX11_adds_94 ?_
  refine lv_iload_n C.1 C.2.1 dX11_adds_97 rfl (lv_at hl 4 rfl) ?_
  refine lv_bipush (v := 62) C.1 C.2.1 dX11_adds_98 (by decide) ?_
  refine lv_irem C.1 C.2.1 dX11_adds_100 (by decide) ?_
  refine lv_dup2_11 C.1 C.2.1 dX11_adds_101 rfl rfl ?_
  obtain ⟨h16, hw⟩ := hw
  refine al_49 C hP Nat.zero_lt_one h16 dX11_adds_102 ?_
  refine lv_iload C.1 C.2.1 dX11_adds_103 (lv_at hl 1 rfl) ?_
  refine lv_aload_n C.1 C.2.1 dX11_adds_105 rfl (lv_at hl 2 rfl) ?_
  refine lv_iload C.1 C.2.1 dX11_adds_106 (lv_at hl 0 rfl) ?_
  refine goI (wf := (yw g)) (runV (w := yw g M15) (As := [.int r15]) (rest := [.int s0, .int (M15.1 49 0 ((v3 - v3 / 62 * 62) : Int32).toNatClampNeg), .int (v3 - v3 / 62 * 62), .ref (g.2.1 (147 + 0))]) C lkX11_283 (c_X11_cosOf l g C.2.2.2.2.2.2.2.2.2.2 r15  M15 _ hw) hP hS rfl rfl ⟨Nat.le_of_ble_eq_true rfl, Nat.le_of_ble_eq_true rfl⟩ (xx_40 Nat.zero_lt_one) rfl rfl hl.1 rfl (Nat.le_of_ble_eq_true rfl) dX11_adds_108) hS (fun r17 M17 hw H locs hP hS => ?_)
  refine lv_imul C.1 C.2.1 dX11_adds_111 ?_
  refine lv_iadd C.1 C.2.1 dX11_adds_112 ?_
  obtain ⟨h18, hw⟩ := hw
  refine as_49 C hP hS Nat.zero_lt_one h18 dX11_adds_113 (fun M18 e18 H locs hP hS => ?_)
  have hw := hw M18 e18
  refine lv_aload_n C.1 C.2.1 dX11_adds_114 rfl (lv_at hl 2 rfl) ?_
  refine gX11_42 C hP Nat.zero_lt_one dX11_adds_115 ?_
  refine lv_iload_n C.1 C.2.1 dX11_adds_118 rfl (lv_at hl 4 rfl) ?_
  refine lv_bipush (v := 62) C.1 C.2.1 dX11_adds_119 (by decide) ?_
  refine lv_irem C.1 C.2.1 dX11_adds_121 (by decide) ?_
  refine lv_dup2_11 C.1 C.2.1 dX11_adds_122 rfl rfl ?_
  obtain ⟨h19, hw⟩ := hw
  refine al_50 C hP Nat.zero_lt_one h19 dX11_adds_123 ?_
  refine lv_iload C.1 C.2.1 dX11_adds_124 (lv_at hl 1 rfl) ?_
  refine lv_aload_n C.1 C.2.1 dX11_adds_126 rfl (lv_at hl 2 rfl) ?_
  refine lv_iload C.1 C.2.1 dX11_adds_127 (lv_at hl 0 rfl) ?_
  refine goI (wf := (yw g)) (runV (w := yw g M18) (As := [.int r15]) (rest := [.int s0, .int (M18.1 50 0 ((v3 - v3 / 62 * 62) : Int32).toNatClampNeg), .int (v3 - v3 / 62 * 62), .ref (g.2.1 (148 + 0))]) C lkX11_286 (c_X11_sinOf l g C.2.2.2.2.2.2.2.2.2.2 r15  M18 _ hw) hP hS rfl rfl ⟨Nat.le_of_ble_eq_true rfl, Nat.le_of_ble_eq_true rfl⟩ (xx_40 Nat.zero_lt_one) rfl rfl hl.1 rfl (Nat.le_of_ble_eq_true rfl) dX11_adds_129) hS (fun r20 M20 hw H locs hP hS => ?_)
  refine lv_imul C.1 C.2.1 dX11_adds_132 ?_
  refine lv_iadd C.1 C.2.1 dX11_adds_133 ?_
  obtain ⟨h21, hw⟩ := hw
  refine as_50 C hP hS Nat.zero_lt_one h21 dX11_adds_134 (fun M21 e21 H locs hP hS => ?_)
  have hw := hw M21 e21
  exact retV (wf := (yw g)) C hP hS hw dX11_adds_135
def p_X11_adds (a1 : Int32) (a2 : Int32) (a3 : Int32) (M : Mem) (Q : Mem → Prop) : Prop := (p_X11_isLoud a1 a2 M (fun r1 M1 => ((¬ r1 = 0 → (p_X11_startIn a1 a2 M1 (fun r3 M3 => (∀ x4 : Int32, x4 = (a3 - r3) → (p_X11_birdOf a1 6 M3 (fun r5 M5 => (p_X11_birdOf a1 1 M5 (fun r6 M6 => (p_X11_rest x4 62 M6 (fun r7 M7 => (p_X11_chipBy r6 ((r7 / 2)) M7 (fun r8 M8 => (∀ x9 : Int32, x9 = (r5 * r8) → (p_X11_quotient x4 62 M8 (fun r10 M10 => (p_X11_sentBit a1 r10 M10 (fun r11 M11 => ((¬ r11 = 1 → (b_X11_adds_73 Q a1 a3 x9 M11)) ∧ (r11 = 1 → (b_X11_adds_73 Q a1 a3 ((-x9)) M11)))))))))))))))))))) ∧ (r1 = 0 → (Q M1)))))
set_option maxRecDepth 100000 in
set_option maxHeartbeats 4000000 in
theorem c_X11_adds (l : Launch) (g : Geo) (gi : GI g) (a1 : Int32) (a2 : Int32) (a3 : Int32) (M : Mem) (Q : Mem → Prop) (hw : p_X11_adds a1 a2 a3 M Q) : Met l yX11_adds (Cond.code yX11_adds cX11_adds 7 none :: bg) ({ frames := 3, cells := 0, slots := 0, locals := 71 } : Room) (va_Pc [.ref (g.2.1 (138 + 0)), .int a1, .int a2, .int a3] (PW g (yw g M))) (va_Qv Q (PB g (yw g)) (Af 1 g)) 0 0 (Af 1 g) := by
  refine Met.ofW (cc := cX11_adds) (maxL := 7) (ret := none) (by decide +kernel) rfl ?_
  intro p e s m args below meth c s₁ B hml hv
  obtain ⟨rfl, hv⟩ := hv
  have C := CX.start (own := RX11) B hml rfl gi hv
  have hP := hv.1
  have hS : va_S (Af 1 g) s.heap s.heap [] := va_S.rf
  have hl := lv_entry ([.ref (g.2.1 (138 + 0)), .int a1, .int a2, .int a3]) (n := 7) (Nat.le_of_ble_eq_true rfl)
  rw [lg_entry_eq]
  generalize (lg_sl ([.ref (g.2.1 (138 + 0)), .int a1, .int a2, .int a3]) ++ List.replicate (7 - (lg_sl ([.ref (g.2.1 (138 + 0)), .int a1, .int a2, .int a3])).length) Slot.unset).toArray = ls at hl ⊢
  have hl : lv_has ls 7 [(0, .ref (g.2.1 (138 + 0))), (1, .int a1), (2, .int a2), (3, .int a3)] := hl
  unfold p_X11_adds at hw
  refine lv_aload_n C.1 C.2.1 dX11_adds_0 rfl (lv_at hl 0 rfl) ?_
  refine lv_iload_n C.1 C.2.1 dX11_adds_1 rfl (lv_at hl 1 rfl) ?_
  refine lv_iload_n C.1 C.2.1 dX11_adds_2 rfl (lv_at hl 2 rfl) ?_
  refine goI (wf := (yw g)) (runV (w := yw g M) (As := [.int a1, .int a2]) (rest := []) C lkX11_274 (c_X11_isLoud l g C.2.2.2.2.2.2.2.2.2.2 a1 a2  M _ hw) hP hS rfl rfl ⟨Nat.le_of_ble_eq_true rfl, Nat.le_of_ble_eq_true rfl⟩ (xx_40 Nat.zero_lt_one) rfl rfl hl.1 rfl (Nat.le_of_ble_eq_true rfl) dX11_adds_3) hS (fun r1 M1 hw H locs hP hS => ?_)
  obtain ⟨hw, hz1⟩ := hw
  refine lv_if_ne (tgt := 10) C.1 C.2.1 dX11_adds_6 (by decide) (fun h2 => ?_) (fun h2 => ?_)
  · have hw := hw.1 h2
    refine lv_iload_n C.1 C.2.1 dX11_adds_10 rfl (lv_at hl 3 rfl) ?_
    refine lv_aload_n C.1 C.2.1 dX11_adds_11 rfl (lv_at hl 0 rfl) ?_
    refine lv_iload_n C.1 C.2.1 dX11_adds_12 rfl (lv_at hl 1 rfl) ?_
    refine lv_iload_n C.1 C.2.1 dX11_adds_13 rfl (lv_at hl 2 rfl) ?_
    refine goI (wf := (yw g)) (runV (w := yw g M1) (As := [.int a1, .int a2]) (rest := [.int a3]) C lkX11_277 (c_X11_startIn l g C.2.2.2.2.2.2.2.2.2.2 a1 a2  M1 _ hw) hP hS rfl rfl ⟨Nat.le_of_ble_eq_true rfl, Nat.le_of_ble_eq_true rfl⟩ (xx_40 Nat.zero_lt_one) rfl rfl hl.1 rfl (Nat.le_of_ble_eq_true rfl) dX11_adds_14) hS (fun r3 M3 hw H locs hP hS => ?_)
    refine lv_isub C.1 C.2.1 dX11_adds_17 ?_
    refine lv_topi (fun x4 e4 => ?_)
    have hw := hw x4 e4
    refine lv_istore (lv' := [(4, .int x4), (0, .ref (g.2.1 (138 + 0))), (1, .int a1), (2, .int a2), (3, .int a3)]) C.1 C.2.1 dX11_adds_18 hl (by decide) rfl (fun ls hl => ?_)
    refine lv_aload_n C.1 C.2.1 dX11_adds_20 rfl (lv_at hl 1 rfl) ?_
    refine lv_iload_n C.1 C.2.1 dX11_adds_21 rfl (lv_at hl 2 rfl) ?_
    refine lv_bipush (v := 6) C.1 C.2.1 dX11_adds_22 (by decide) ?_
    refine goI (wf := (yw g)) (runV (w := yw g M3) (As := [.int a1, .int 6]) (rest := []) C lkX11_160 (c_X11_birdOf l g C.2.2.2.2.2.2.2.2.2.2 a1 6  M3 _ hw) hP hS rfl rfl ⟨Nat.le_of_ble_eq_true rfl, Nat.le_of_ble_eq_true rfl⟩ (xx_40 Nat.zero_lt_one) rfl rfl hl.1 rfl (Nat.le_of_ble_eq_true rfl) dX11_adds_24) hS (fun r5 M5 hw H locs hP hS => ?_)
    refine lv_aload_n C.1 C.2.1 dX11_adds_27 rfl (lv_at hl 1 rfl) ?_
    refine lv_aload_n C.1 C.2.1 dX11_adds_28 rfl (lv_at hl 1 rfl) ?_
    refine lv_iload_n C.1 C.2.1 dX11_adds_29 rfl (lv_at hl 2 rfl) ?_
    refine lv_iconst (v := 1) C.1 C.2.1 dX11_adds_30 (by decide) ?_
    refine goI (wf := (yw g)) (runV (w := yw g M5) (As := [.int a1, .int 1]) (rest := [.ref (g.2.1 (138 + 0)), .int r5]) C lkX11_160 (c_X11_birdOf l g C.2.2.2.2.2.2.2.2.2.2 a1 1  M5 _ hw) hP hS rfl rfl ⟨Nat.le_of_ble_eq_true rfl, Nat.le_of_ble_eq_true rfl⟩ (xx_40 Nat.zero_lt_one) rfl rfl hl.1 rfl (Nat.le_of_ble_eq_true rfl) dX11_adds_31) hS (fun r6 M6 hw H locs hP hS => ?_)
    refine lv_iload C.1 C.2.1 dX11_adds_34 (lv_at hl 0 rfl) ?_
    refine lv_bipush (v := 62) C.1 C.2.1 dX11_adds_36 (by decide) ?_
    refine goI (wf := (yw g)) (runS (w := yw g M6) (As := [.int x4, .int 62]) (rest := [.int r6, .ref (g.2.1 (138 + 0)), .int r5]) C lkX11_249 (c_X11_rest l g C.2.2.2.2.2.2.2.2.2.2 x4 62  M6 _ hw) hP hS rfl rfl ⟨Nat.le_of_ble_eq_true rfl, Nat.le_of_ble_eq_true rfl⟩ hl.1 rfl (Nat.le_of_ble_eq_true rfl) dX11_adds_38) hS (fun r7 M7 hw H locs hP hS => ?_)
    refine lv_iconst (v := 2) C.1 C.2.1 dX11_adds_41 (by decide) ?_
    refine lv_idiv C.1 C.2.1 dX11_adds_42 (by decide) ?_
    refine goI (wf := (yw g)) (runV (w := yw g M7) (As := [.int r6, .int (r7 / 2)]) (rest := [.int r5]) C lkX11_229 (c_X11_chipBy l g C.2.2.2.2.2.2.2.2.2.2 r6 ((r7 / 2))  M7 _ hw) hP hS rfl rfl ⟨Nat.le_of_ble_eq_true rfl, Nat.le_of_ble_eq_true rfl⟩ (xx_40 Nat.zero_lt_one) rfl rfl hl.1 rfl (Nat.le_of_ble_eq_true rfl) dX11_adds_43) hS (fun r8 M8 hw H locs hP hS => ?_)
    refine lv_imul C.1 C.2.1 dX11_adds_46 ?_
    refine lv_topi (fun x9 e9 => ?_)
    have hw := hw x9 e9
    refine lv_istore (lv' := [(5, .int x9), (4, .int x4), (0, .ref (g.2.1 (138 + 0))), (1, .int a1), (2, .int a2), (3, .int a3)]) C.1 C.2.1 dX11_adds_47 hl (by decide) rfl (fun ls hl => ?_)
    refine lv_aload_n C.1 C.2.1 dX11_adds_49 rfl (lv_at hl 2 rfl) ?_
    refine lv_iload_n C.1 C.2.1 dX11_adds_50 rfl (lv_at hl 3 rfl) ?_
    refine lv_iload C.1 C.2.1 dX11_adds_51 (lv_at hl 1 rfl) ?_
    refine lv_bipush (v := 62) C.1 C.2.1 dX11_adds_53 (by decide) ?_
    refine goI (wf := (yw g)) (runS (w := yw g M8) (As := [.int x4, .int 62]) (rest := [.int a1, .ref (g.2.1 (138 + 0))]) C lkX11_252 (c_X11_quotient l g C.2.2.2.2.2.2.2.2.2.2 x4 62  M8 _ hw) hP hS rfl rfl ⟨Nat.le_of_ble_eq_true rfl, Nat.le_of_ble_eq_true rfl⟩ hl.1 rfl (Nat.le_of_ble_eq_true rfl) dX11_adds_55) hS (fun r10 M10 hw H locs hP hS => ?_)
    refine goI (wf := (yw g)) (runV (w := yw g M10) (As := [.int a1, .int r10]) (rest := []) C lkX11_246 (c_X11_sentBit l g C.2.2.2.2.2.2.2.2.2.2 a1 r10  M10 _ hw) hP hS rfl rfl ⟨Nat.le_of_ble_eq_true rfl, Nat.le_of_ble_eq_true rfl⟩ (xx_40 Nat.zero_lt_one) rfl rfl hl.1 rfl (Nat.le_of_ble_eq_true rfl) dX11_adds_58) hS (fun r11 M11 hw H locs hP hS => ?_)
    refine lv_iconst (v := 1) C.1 C.2.1 dX11_adds_61 (by decide) ?_
    refine lv_icmp_ne (tgt := 71) C.1 C.2.1 dX11_adds_62 (by decide) (fun h12 => ?_) (fun h12 => ?_)
    · have hw := hw.1 h12
      refine lv_iload C.1 C.2.1 dX11_adds_71 (lv_at hl 0 rfl) ?_
      exact k_X11_adds_73 (Q := Q) C a1 a3 x9  _ hw (lv_sub hl [2, 3, 5] rfl) hP hS
    · have hw := hw.2 h12
      refine lv_iload C.1 C.2.1 dX11_adds_65 (lv_at hl 0 rfl) ?_
      refine lv_ineg C.1 C.2.1 dX11_adds_67 ?_
      refine lv_goto (tgt := 73) C.1 C.2.1 dX11_adds_68 (by decide) ?_
      exact k_X11_adds_73 (Q := Q) C a1 a3 ((-x9))  _ hw (lv_sub hl [2, 3, 5] rfl) hP hS
  · have hw := hw.2 h2
    exact retV (wf := (yw g)) C hP hS hw dX11_adds_9
