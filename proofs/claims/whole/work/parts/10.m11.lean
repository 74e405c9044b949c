def b_X11_laySamples_87 (Q : Mem → Prop) (k2 : Int32 → Int32 → Mem → Prop) (v1 : Int32) (v2 : Int32) (M : Mem) : Prop := (∀ x10 : Int32, x10 = (v2 + 1) → (k2 v1 x10 M))
set_option maxRecDepth 100000 in
set_option maxHeartbeats 4000000 in
theorem k_X11_laySamples_87 {p : Program} {l : Launch} {e : Env} {s : State} {m : MethodId} {args : Array Value} {below : List Frame} {meth : Method} {c : Code} {g : Geo} (C : CX g p s m args meth c cX11_laySamples 7 none RX11) {Q : Mem → Prop} {k2 : Int32 → Int32 → Mem → Prop} (hk2 : ∀ (v1 : Int32) (v2 : Int32) (M : Mem), k2 v1 v2 M → ∀ (H : Heap) (locs : List Loc) (ls : Array Slot), lv_has ls 7 [(0, .ref (g.2.1 (138 + 0))), (1, .int v1), (2, .int v2)] → va_P g.1 clz (yw g M) H → va_S (Af 1 g) s.heap H locs → W p l e ({ frames := 4, cells := 0, slots := 0, locals := 97 } : Room) s m args below meth c H locs 0 0 (MQ below (va_Qv Q (PB g (yw g)) (Af 1 g)) args s 0 0 (Af 1 g)) (F0 m 2 ls [])) (v1 : Int32) (v2 : Int32) (M : Mem) (hw : b_X11_laySamples_87 Q k2 v1 v2 M) {H : Heap} {locs : List Loc} {ls : Array Slot} (hl : lv_has ls 7 [(0, .ref (g.2.1 (138 + 0))), (1, .int v1), (2, .int v2)]) (hP : va_P g.1 clz (yw g M) H) (hS : va_S (Af 1 g) s.heap H locs) : W p l e ({ frames := 4, cells := 0, slots := 0, locals := 97 } : Room) s m args below meth c H locs 0 0 (MQ below (va_Qv Q (PB g (yw g)) (Af 1 g)) args s 0 0 (Af 1 g)) (F0 m 87 ls []) := by
  unfold b_X11_laySamples_87 at hw
  obtain ⟨x10, e10⟩ : ∃ y : Int32, y = (v2 + 1) := ⟨_, rfl⟩
  have hw := hw x10 e10
  refine lv_iinc (v := x10) (lv' := [(2, .int x10), (0, .ref (g.2.1 (138 + 0))), (1, .int v1)]) C.1 C.2.1 dX11_laySamples_87 hl (k := 2) rfl (by rw [e10]; rfl) (by decide) rfl (fun ls hl => ?_)
  refine lv_goto (tgt := 2) C.1 C.2.1 dX11_laySamples_90 (by decide) ?_
  exact hk2 v1 x10  _ hw _ _ _ (lv_sub hl [1, 2, 0] rfl) hP hS
def b_X11_laySamples_64 (Q : Mem → Prop) (k2 : Int32 → Int32 → Mem → Prop) : Nat → Int32 → Int32 → Int32 → Int32 → Mem → Prop
  | 0, _, _, _, _, _ => False
  | n + 1, v1, v2, v3, v6, M => (((M.1 40 0 11) ≤ v6 → (b_X11_laySamples_87 Q k2 v1 v2 M)) ∧ (¬ (M.1 40 0 11) ≤ v6 → (p_X11_adds v6 v1 v3 M (fun M11 => (∀ x12 : Int32, x12 = (v6 + 1) → (b_X11_laySamples_64 Q k2 n v1 v2 v3 x12 M11))))))
set_option maxRecDepth 100000 in
set_option maxHeartbeats 4000000 in
theorem k_X11_laySamples_64 {p : Program} {l : Launch} {e : Env} {s : State} {m : MethodId} {args : Array Value} {below : List Frame} {meth : Method} {c : Code} {g : Geo} (C : CX g p s m args meth c cX11_laySamples 7 none RX11) {Q : Mem → Prop} {k2 : Int32 → Int32 → Mem → Prop} (hk2 : ∀ (v1 : Int32) (v2 : Int32) (M : Mem), k2 v1 v2 M → ∀ (H : Heap) (locs : List Loc) (ls : Array Slot), lv_has ls 7 [(0, .ref (g.2.1 (138 + 0))), (1, .int v1), (2, .int v2)] → va_P g.1 clz (yw g M) H → va_S (Af 1 g) s.heap H locs → W p l e ({ frames := 4, cells := 0, slots := 0, locals := 97 } : Room) s m args below meth c H locs 0 0 (MQ below (va_Qv Q (PB g (yw g)) (Af 1 g)) args s 0 0 (Af 1 g)) (F0 m 2 ls [])) : ∀ (n : Nat) (v1 : Int32) (v2 : Int32) (v3 : Int32) (v6 : Int32) (M : Mem) (hw : b_X11_laySamples_64 Q k2 n v1 v2 v3 v6 M) {H : Heap} {locs : List Loc} {ls : Array Slot} (hl : lv_has ls 7 [(0, .ref (g.2.1 (138 + 0))), (1, .int v1), (2, .int v2), (3, .int v3), (6, .int v6)]) (hP : va_P g.1 clz (yw g M) H) (hS : va_S (Af 1 g) s.heap H locs), W p l e ({ frames := 4, cells := 0, slots := 0, locals := 97 } : Room) s m args below meth c H locs 0 0 (MQ below (va_Qv Q (PB g (yw g)) (Af 1 g)) args s 0 0 (Af 1 g)) (F0 m 64 ls []) := by
  intro n
  induction n with
  | zero => intro v1 v2 v3 v6 M hw H locs ls hl hP hS; exact absurd hw (by rw [b_X11_laySamples_64]; exact fun h => h)
  | succ n ih =>
    intro v1 v2 v3 v6 M hw H locs ls hl hP hS
    rw [b_X11_laySamples_64] at hw
    refine lv_iload C.1 C.2.1 dX11_laySamples_64 (lv_at hl 4 rfl) ?_
    refine lv_aload_n C.1 C.2.1 dX11_laySamples_66 rfl (lv_at hl 0 rfl) ?_
    refine gX11_121 C hP Nat.zero_lt_one dX11_laySamples_67 ?_
    refine lv_icmp_ge (tgt := 87) C.1 C.2.1 dX11_laySamples_70 (by decide) (fun h9 => ?_) (fun h9 => ?_)
    · have hw := hw.1 h9
      exact k_X11_laySamples_87 (Q := Q) C hk2 v1 v2  _ hw (lv_sub hl [0, 1, 2] rfl) hP hS
    · have hw := hw.2 h9
      refine lv_aload_n C.1 C.2.1 dX11_laySamples_73 rfl (lv_at hl 0 rfl) ?_
      refine lv_iload C.1 C.2.1 dX11_laySamples_74 (lv_at hl 4 rfl) ?_
      refine lv_iload_n C.1 C.2.1 dX11_laySamples_76 rfl (lv_at hl 1 rfl) ?_
      refine lv_iload_n C.1 C.2.1 dX11_laySamples_77 rfl (lv_at hl 3 rfl) ?_
      refine goV (wf := (yw g)) (runV (w := yw g M) (As := [.int v6, .int v1, .int v3]) (rest := []) C lkX11_271 (c_X11_adds l g C.2.2.2.2.2.2.2.2.2.2 v6 v1 v3  M _ hw) hP hS rfl rfl ⟨Nat.le_of_ble_eq_true rfl, Nat.le_of_ble_eq_true rfl⟩ (xx_40 Nat.zero_lt_one) rfl rfl hl.1 rfl (Nat.le_of_ble_eq_true rfl) dX11_laySamples_78) hS (fun M11 hw H locs hP hS => ?_)
      obtain ⟨x12, e12⟩ : ∃ y : Int32, y = (v6 + 1) := ⟨_, rfl⟩
      have hw := hw x12 e12
      refine lv_iinc (v := x12) (lv' := [(6, .int x12), (0, .ref (g.2.1 (138 + 0))), (1, .int v1), (2, .int v2), (3, .int v3)]) C.1 C.2.1 dX11_laySamples_81 hl (k := 4) rfl (by rw [e12]; rfl) (by decide) rfl (fun ls hl => ?_)
      refine lv_goto (tgt := 64) C.1 C.2.1 dX11_laySamples_84 (by decide) ?_
      exact ih v1 v2 v3 x12  _ hw (lv_sub hl [1, 2, 3, 4, 0] rfl) hP hS
def b_X11_laySamples_2 (Q : Mem → Prop) : Nat → Int32 → Int32 → Mem → Prop
  | 0, _, _, _ => False
  | n + 1, v1, v2, M => ((62 ≤ v2 → (Q M)) ∧ (¬ 62 ≤ v2 → (∀ x2 : Int32, x2 = (((62 : Int32) * v1) + v2) → (p_X11_made ((((M.1 40 0 23) : Int32).toInt64 + (x2 : Int32).toInt64)) M (fun r3 M3 => (p_X11_errorOf r3 ((M3.1 40 0 22)) M3 (fun r4 M4 => (vp_in v2 62 ∧ (∀ M5 : Mem, M5 = sI M4 49 0 (v2 : Int32).toNatClampNeg r4 → (p_X11_made r3 M5 (fun r6 M6 => (p_X11_errorOf r6 ((M6.1 40 0 22)) M6 (fun r7 M7 => (vp_in v2 62 ∧ (∀ M8 : Mem, M8 = sI M7 50 0 (v2 : Int32).toNatClampNeg r7 → (∃ n64 : Nat, b_X11_laySamples_64 Q (fun v1 v2 M => b_X11_laySamples_2 Q n v1 v2 M) n64 v1 v2 x2 0 M8))))))))))))))))
set_option maxRecDepth 100000 in
set_option maxHeartbeats 4000000 in
theorem k_X11_laySamples_2 {p : Program} {l : Launch} {e : Env} {s : State} {m : MethodId} {args : Array Value} {below : List Frame} {meth : Method} {c : Code} {g : Geo} (C : CX g p s m args meth c cX11_laySamples 7 none RX11) {Q : Mem → Prop} : ∀ (n : Nat) (v1 : Int32) (v2 : Int32) (M : Mem) (hw : b_X11_laySamples_2 Q n v1 v2 M) {H : Heap} {locs : List Loc} {ls : Array Slot} (hl : lv_has ls 7 [(0, .ref (g.2.1 (138 + 0))), (1, .int v1), (2, .int v2)]) (hP : va_P g.1 clz (yw g M) H) (hS : va_S (Af 1 g) s.heap H locs), W p l e ({ frames := 4, cells := 0, slots := 0, locals := 97 } : Room) s m args below meth c H locs 0 0 (MQ below (va_Qv Q (PB g (yw g)) (Af 1 g)) args s 0 0 (Af 1 g)) (F0 m 2 ls []) := by
  intro n
  induction n with
  | zero => intro v1 v2 M hw H locs ls hl hP hS; exact absurd hw (by rw [b_X11_laySamples_2]; exact fun h => h)
  | succ n ih =>
    intro v1 v2 M hw H locs ls hl hP hS
    rw [b_X11_laySamples_2] at hw
    refine lv_iload_n C.1 C.2.1 dX11_laySamples_2 rfl (lv_at hl 2 rfl) ?_
    refine lv_bipush (v := 62) C.1 C.2.1 dX11_laySamples_3 (by decide) ?_
    refine lv_icmp_ge (tgt := 93) C.1 C.2.1 dX11_laySamples_5 (by decide) (fun h1 => ?_) (fun h1 => ?_)
    · have hw := hw.1 h1
      exact retV (wf := (yw g)) C hP hS hw dX11_laySamples_93
    · have hw := hw.2 h1
      refine lv_bipush (v := 62) C.1 C.2.1 dX11_laySamples_8 (by decide) ?_
      refine lv_iload_n C.1 C.2.1 dX11_laySamples_10 rfl (lv_at hl 1 rfl) ?_
      refine lv_imul C.1 C.2.1 dX11_laySamples_11 ?_
      refine lv_iload_n C.1 C.2.1 dX11_laySamples_12 rfl (lv_at hl 2 rfl) ?_
      refine lv_iadd C.1 C.2.1 dX11_laySamples_13 ?_
      refine lv_topi (fun x2 e2 => ?_)
      have hw := hw x2 e2
      refine lv_istore_n (lv' := [(3, .int x2), (0, .ref (g.2.1 (138 + 0))), (1, .int v1), (2, .int v2)]) C.1 C.2.1 dX11_laySamples_14 rfl hl (by decide) rfl (fun ls hl => ?_)
      refine lv_aload_n C.1 C.2.1 dX11_laySamples_15 rfl (lv_at hl 1 rfl) ?_
      refine gX11_137 C hP Nat.zero_lt_one dX11_laySamples_16 ?_
      refine lv_i2l C.1 C.2.1 dX11_laySamples_19 rfl ?_
      refine lv_iload_n C.1 C.2.1 dX11_laySamples_20 rfl (lv_at hl 0 rfl) ?_
      refine lv_i2l C.1 C.2.1 dX11_laySamples_21 rfl ?_
      refine lv_ladd C.1 C.2.1 dX11_laySamples_22 ?_
      refine goL (wf := (yw g)) (runS (w := yw g M) (As := [.long (((M.1 40 0 23) : Int32).toInt64 + (x2 : Int32).toInt64)]) (rest := []) C lkX11_263 (c_X11_made l g C.2.2.2.2.2.2.2.2.2.2 ((((M.1 40 0 23) : Int32).toInt64 + (x2 : Int32).toInt64))  M _ hw) hP hS rfl rfl ⟨Nat.le_of_ble_eq_true rfl, Nat.le_of_ble_eq_true rfl⟩ hl.1 rfl (Nat.le_of_ble_eq_true rfl) dX11_laySamples_23) hS (fun r3 M3 hw H locs hP hS => ?_)
      refine lv_lstore (lv' := [(4, .long r3), (3, .int x2), (0, .ref (g.2.1 (138 + 0))), (1, .int v1), (2, .int v2)]) C.1 C.2.1 dX11_laySamples_26 hl (by decide) rfl (fun ls hl => ?_)
      refine lv_aload_n C.1 C.2.1 dX11_laySamples_28 rfl (lv_at hl 2 rfl) ?_
      refine gX11_39 C hP Nat.zero_lt_one dX11_laySamples_29 ?_
      refine lv_iload_n C.1 C.2.1 dX11_laySamples_32 rfl (lv_at hl 4 rfl) ?_
      refine lv_lload C.1 C.2.1 dX11_laySamples_33 (lv_at hl 0 rfl) ?_
      refine lv_aload_n C.1 C.2.1 dX11_laySamples_35 rfl (lv_at hl 2 rfl) ?_
      refine gX11_134 C hP Nat.zero_lt_one dX11_laySamples_36 ?_
      refine goI (wf := (yw g)) (runS (w := yw g M3) (As := [.long r3, .int (M3.1 40 0 22)]) (rest := [.int v2, .ref (g.2.1 (147 + 0))]) C lkX11_267 (c_X11_errorOf l g C.2.2.2.2.2.2.2.2.2.2 r3 ((M3.1 40 0 22))  M3 _ hw) hP hS rfl rfl ⟨Nat.le_of_ble_eq_true rfl, Nat.le_of_ble_eq_true rfl⟩ hl.1 rfl (Nat.le_of_ble_eq_true rfl) dX11_laySamples_39) hS (fun r4 M4 hw H locs hP hS => ?_)
      obtain ⟨h5, hw⟩ := hw
      refine as_49 C hP hS Nat.zero_lt_one h5 dX11_laySamples_42 (fun M5 e5 H locs hP hS => ?_)
      have hw := hw M5 e5
      refine lv_aload_n C.1 C.2.1 dX11_laySamples_43 rfl (lv_at hl 2 rfl) ?_
      refine gX11_42 C hP Nat.zero_lt_one dX11_laySamples_44 ?_
      refine lv_iload_n C.1 C.2.1 dX11_laySamples_47 rfl (lv_at hl 4 rfl) ?_
      refine lv_lload C.1 C.2.1 dX11_laySamples_48 (lv_at hl 0 rfl) ?_
      refine goL (wf := (yw g)) (runS (w := yw g M5) (As := [.long r3]) (rest := [.int v2, .ref (g.2.1 (148 + 0))]) C lkX11_263 (c_X11_made l g C.2.2.2.2.2.2.2.2.2.2 r3  M5 _ hw) hP hS rfl rfl ⟨Nat.le_of_ble_eq_true rfl, Nat.le_of_ble_eq_true rfl⟩ hl.1 rfl (Nat.le_of_ble_eq_true rfl) dX11_laySamples_50) hS (fun r6 M6 hw H locs hP hS => ?_)
      refine lv_aload_n C.1 C.2.1 dX11_laySamples_53 rfl (lv_at hl 2 rfl) ?_
      refine gX11_134 C hP Nat.zero_lt_one dX11_laySamples_54 ?_
      refine goI (wf := (yw g)) (runS (w := yw g M6) (As := [.long r6, .int (M6.1 40 0 22)]) (rest := [.int v2, .ref (g.2.1 (148 + 0))]) C lkX11_267 (c_X11_errorOf l g C.2.2.2.2.2.2.2.2.2.2 r6 ((M6.1 40 0 22))  M6 _ hw) hP hS rfl rfl ⟨Nat.le_of_ble_eq_true rfl, Nat.le_of_ble_eq_true rfl⟩ hl.1 rfl (Nat.le_of_ble_eq_true rfl) dX11_laySamples_57) hS (fun r7 M7 hw H locs hP hS => ?_)
      obtain ⟨h8, hw⟩ := hw
      refine as_50 C hP hS Nat.zero_lt_one h8 dX11_laySamples_60 (fun M8 e8 H locs hP hS => ?_)
      have hw := hw M8 e8
      refine lv_iconst (v := 0) C.1 C.2.1 dX11_laySamples_61 (by decide) ?_
      refine lv_istore (lv' := [(6, .int 0), (4, .long r3), (3, .int x2), (0, .ref (g.2.1 (138 + 0))), (1, .int v1), (2, .int v2)]) C.1 C.2.1 dX11_laySamples_62 hl (by decide) rfl (fun ls hl => ?_)
      obtain ⟨n9, hw⟩ := hw
      exact k_X11_laySamples_64 (Q := Q) C (fun v1 v2  M hw H locs ls hl hP hS => ih v1 v2  M hw hl hP hS) n9 v1 v2 x2 0  _ hw (lv_sub hl [3, 4, 5, 2, 0] rfl) hP hS
def p_X11_laySamples (a1 : Int32) (M : Mem) (Q : Mem → Prop) : Prop := (∃ n2 : Nat, b_X11_laySamples_2 Q n2 a1 0 M)
set_option maxRecDepth 100000 in
set_option maxHeartbeats 4000000 in
theorem c_X11_laySamples (l : Launch) (g : Geo) (gi : GI g) (a1 : Int32) (M : Mem) (Q : Mem → Prop) (hw : p_X11_laySamples a1 M Q) : Met l yX11_laySamples (Cond.code yX11_laySamples cX11_laySamples 7 none :: bg) ({ frames := 4, cells := 0, slots := 0, locals := 97 } : Room) (va_Pc [.ref (g.2.1 (138 + 0)), .int a1] (PW g (yw g M))) (va_Qv Q (PB g (yw g)) (Af 1 g)) 0 0 (Af 1 g) := by
  refine Met.ofW (cc := cX11_laySamples) (maxL := 7) (ret := none) (by decide +kernel) rfl ?_
  intro p e s m args below meth c s₁ B hml hv
  obtain ⟨rfl, hv⟩ := hv
  have C := CX.start (own := RX11) B hml rfl gi hv
  have hP := hv.1
  have hS : va_S (Af 1 g) s.heap s.heap [] := va_S.rf
  have hl := lv_entry ([.ref (g.2.1 (138 + 0)), .int a1]) (n := 7) (Nat.le_of_ble_eq_true rfl)
  rw [lg_entry_eq]
  generalize (lg_sl ([.ref (g.2.1 (138 + 0)), .int a1]) ++ List.replicate (7 - (lg_sl ([.ref (g.2.1 (138 + 0)), .int a1])).length) Slot.unset).toArray = ls at hl ⊢
  have hl : lv_has ls 7 [(0, .ref (g.2.1 (138 + 0))), (1, .int a1)] := hl
  unfold p_X11_laySamples at hw
  refine lv_iconst (v := 0) C.1 C.2.1 dX11_laySamples_0 (by decide) ?_
  refine lv_istore_n (lv' := [(2, .int 0), (0, .ref (g.2.1 (138 + 0))), (1, .int a1)]) C.1 C.2.1 dX11_laySamples_1 rfl hl (by decide) rfl (fun ls hl => ?_)
  obtain ⟨n9, hw⟩ := hw
  exact k_X11_laySamples_2 (Q := Q) C n9 a1 0  _ hw (lv_sub hl [1, 2, 0] rfl) hP hS
def p_X11_sample (a1 : Int32) (a2 : Int32) (M : Mem) (Q : Int32 → Mem → Prop) : Prop := (∀ M1 : Mem, M1 = sI M 40 0 2 0 → (p_X11_isIn a1 0 12399 M1 (fun r2 M2 => ((r2 = 0 → (Q 0 M2)) ∧ (¬ r2 = 0 → (p_X11_isIn a2 0 1 M2 (fun r4 M4 => ((¬ r4 = 0 → (p_X11_laySamples ((a1 / 62)) M4 (fun M6 => ((¬ a2 = 0 → (vp_in (a1 - a1 / 62 * 62) 62 ∧ (Q (M6.1 50 0 ((a1 - a1 / 62 * 62) : Int32).toNatClampNeg) M6))) ∧ (a2 = 0 → (vp_in (a1 - a1 / 62 * 62) 62 ∧ (Q (M6.1 49 0 ((a1 - a1 / 62 * 62) : Int32).toNatClampNeg) M6))))))) ∧ (r4 = 0 → (Q 0 M4))))))))))
set_option maxRecDepth 100000 in
set_option maxHeartbeats 4000000 in
theorem c_X11_sample (l : Launch) (g : Geo) (gi : GI g) (a1 : Int32) (a2 : Int32) (M : Mem) (Q : Int32 → Mem → Prop) (hw : p_X11_sample a1 a2 M Q) : Met l yX11_sample (Cond.code yX11_sample cX11_sample 3 (some .int) :: bg) ({ frames := 5, cells := 0, slots := 0, locals := 123 } : Room) (va_Pc [.ref (g.2.1 (138 + 0)), .int a1, .int a2] (PW g (yw g M))) (va_Qi Q (PB g (yw g)) (Af 1 g)) 0 0 (Af 1 g) := by
  refine Met.ofW (cc := cX11_sample) (maxL := 3) (ret := (some .int)) (by decide +kernel) rfl ?_
  intro p e s m args below meth c s₁ B hml hv
  obtain ⟨rfl, hv⟩ := hv
  have C := CX.start (own := RX11) B hml rfl gi hv
  have hP := hv.1
  have hS : va_S (Af 1 g) s.heap s.heap [] := va_S.rf
  have hl := lv_entry ([.ref (g.2.1 (138 + 0)), .int a1, .int a2]) (n := 3) (Nat.le_of_ble_eq_true rfl)
  rw [lg_entry_eq]
  generalize (lg_sl ([.ref (g.2.1 (138 + 0)), .int a1, .int a2]) ++ List.replicate (3 - (lg_sl ([.ref (g.2.1 (138 + 0)), .int a1, .int a2])).length) Slot.unset).toArray = ls at hl ⊢
  have hl : lv_has ls 3 [(0, .ref (g.2.1 (138 + 0))), (1, .int a1), (2, .int a2)] := hl
  unfold p_X11_sample at hw
  refine lv_aload_n C.1 C.2.1 dX11_sample_0 rfl (lv_at hl 0 rfl) ?_
  refine lv_iconst (v := 0) C.1 C.2.1 dX11_sample_1 (by decide) ?_
  refine pX11_76 C hP hS Nat.zero_lt_one dX11_sample_2 (fun M1 e1 H locs hP hS => ?_)
  have hw := hw M1 e1
  refine lv_iload_n C.1 C.2.1 dX11_sample_5 rfl (lv_at hl 1 rfl) ?_
  refine lv_iconst (v := 0) C.1 C.2.1 dX11_sample_6 (by decide) ?_
  refine lv_sipush (v := 12399) C.1 C.2.1 dX11_sample_7 (by decide) ?_
  refine goI (wf := (yw g)) (runS (w := yw g M1) (As := [.int a1, .int 0, .int 12399]) (rest := []) C lkX11_166 (c_X11_isIn l g C.2.2.2.2.2.2.2.2.2.2 a1 0 12399  M1 _ hw) hP hS rfl rfl ⟨Nat.le_of_ble_eq_true rfl, Nat.le_of_ble_eq_true rfl⟩ hl.1 rfl (Nat.le_of_ble_eq_true rfl) dX11_sample_10) hS (fun r2 M2 hw H locs hP hS => ?_)
  obtain ⟨hw, hz2⟩ := hw
  refine lv_if_eq (tgt := 25) C.1 C.2.1 dX11_sample_13 (by decide) (fun h3 => ?_) (fun h3 => ?_)
  · have hw := hw.1 h3
    refine lv_iconst (v := 0) C.1 C.2.1 dX11_sample_25 (by decide) ?_
    exact retI (wf := (yw g)) C hP hS hw dX11_sample_26
  · have hw := hw.2 h3
    refine lv_iload_n C.1 C.2.1 dX11_sample_16 rfl (lv_at hl 2 rfl) ?_
    refine lv_iconst (v := 0) C.1 C.2.1 dX11_sample_17 (by decide) ?_
    refine lv_iconst (v := 1) C.1 C.2.1 dX11_sample_18 (by decide) ?_
    refine goI (wf := (yw g)) (runS (w := yw g M2) (As := [.int a2, .int 0, .int 1]) (rest := []) C lkX11_166 (c_X11_isIn l g C.2.2.2.2.2.2.2.2.2.2 a2 0 1  M2 _ hw) hP hS rfl rfl ⟨Nat.le_of_ble_eq_true rfl, Nat.le_of_ble_eq_true rfl⟩ hl.1 rfl (Nat.le_of_ble_eq_true rfl) dX11_sample_19) hS (fun r4 M4 hw H locs hP hS => ?_)
    obtain ⟨hw, hz4⟩ := hw
    refine lv_if_ne (tgt := 27) C.1 C.2.1 dX11_sample_22 (by decide) (fun h5 => ?_) (fun h5 => ?_)
    · have hw := hw.1 h5
      refine lv_aload_n C.1 C.2.1 dX11_sample_27 rfl (lv_at hl 0 rfl) ?_
      refine lv_iload_n C.1 C.2.1 dX11_sample_28 rfl (lv_at hl 1 rfl) ?_
      refine lv_bipush (v := 62) C.1 C.2.1 dX11_sample_29 (by decide) ?_
      refine lv_idiv C.1 C.2.1 dX11_sample_31 (by decide) ?_
      refine goV (wf := (yw g)) (runV (w := yw g M4) (As := [.int (a1 / 62)]) (rest := []) C lkX11_289 (c_X11_laySamples l g C.2.2.2.2.2.2.2.2.2.2 ((a1 / 62))  M4 _ hw) hP hS rfl rfl ⟨Nat.le_of_ble_eq_true rfl, Nat.le_of_ble_eq_true rfl⟩ (xx_40 Nat.zero_lt_one) rfl rfl hl.1 rfl (Nat.le_of_ble_eq_true rfl) dX11_sample_32) hS (fun M6 hw H locs hP hS => ?_)
      refine lv_iload_n C.1 C.2.1 dX11_sample_35 rfl (lv_at hl 2 rfl) ?_
      refine lv_if_ne (tgt := 51) C.1 C.2.1 dX11_sample_36 (by decide) (fun h7 => ?_) (fun h7 => ?_)
      · have hw := hw.1 h7
        refine lv_aload_n C.1 C.2.1 dX11_sample_51 rfl (lv_at hl 0 rfl) ?_
        refine gX11_42 C hP Nat.zero_lt_one dX11_sample_52 ?_
        refine lv_iload_n C.1 C.2.1 dX11_sample_55 rfl (lv_at hl 1 rfl) ?_
        refine lv_bipush (v := 62) C.1 C.2.1 dX11_sample_56 (by decide) ?_
        refine lv_irem C.1 C.2.1 dX11_sample_58 (by decide) ?_
        obtain ⟨h8, hw⟩ := hw
        refine al_50 C hP Nat.zero_lt_one h8 dX11_sample_59 ?_
        exact retI (wf := (yw g)) C hP hS hw dX11_sample_60
      · have hw := hw.2 h7
        refine lv_aload_n C.1 C.2.1 dX11_sample_39 rfl (lv_at hl 0 rfl) ?_
        refine gX11_39 C hP Nat.zero_lt_one dX11_sample_40 ?_
        refine lv_iload_n C.1 C.2.1 dX11_sample_43 rfl (lv_at hl 1 rfl) ?_
        refine lv_bipush (v := 62) C.1 C.2.1 dX11_sample_44 (by decide) ?_
        refine lv_irem C.1 C.2.1 dX11_sample_46 (by decide) ?_
        obtain ⟨h9, hw⟩ := hw
        refine al_49 C hP Nat.zero_lt_one h9 dX11_sample_47 ?_
        refine lv_goto (tgt := 60) C.1 C.2.1 dX11_sample_48 (by decide) ?_
        exact retI (wf := (yw g)) C hP hS hw dX11_sample_60
    · have hw := hw.2 h5
      refine lv_iconst (v := 0) C.1 C.2.1 dX11_sample_25 (by decide) ?_
      exact retI (wf := (yw g)) C hP hS hw dX11_sample_26
def b_X11_turnsBack_3 (Q : Mem → Prop) : Nat → Int32 → Int32 → Int32 → Int32 → Mem → Prop
  | 0, _, _, _, _, _ => False
  | n + 1, v1, v2, v3, v4, M => ((62 ≤ v4 → (Q M)) ∧ (¬ 62 ≤ v4 → (p_X11_angleOf v2 v3 ((((62 : Int32) * v1) + v4)) M (fun r2 M2 => (vp_in v4 62 ∧ (p_X11_cosOf r2 M2 (fun r4 M4 => (vp_in v4 62 ∧ (p_X11_sinOf r2 M4 (fun r6 M6 => (vp_in v4 62 ∧ (∀ M7 : Mem, M7 = sI M6 51 0 (v4 : Int32).toNatClampNeg (((M2.1 49 0 (v4 : Int32).toNatClampNeg) * r4) + ((M4.1 50 0 (v4 : Int32).toNatClampNeg) * r6)) → (vp_in v4 62 ∧ (p_X11_cosOf r2 M7 (fun r9 M9 => (vp_in v4 62 ∧ (p_X11_sinOf r2 M9 (fun r11 M11 => (vp_in v4 62 ∧ (∀ M12 : Mem, M12 = sI M11 52 0 (v4 : Int32).toNatClampNeg (((M7.1 50 0 (v4 : Int32).toNatClampNeg) * r9) - ((M9.1 49 0 (v4 : Int32).toNatClampNeg) * r11)) → (∀ x13 : Int32, x13 = (v4 + 1) → (b_X11_turnsBack_3 Q n v1 v2 v3 x13 M12))))))))))))))))))))))
set_option maxRecDepth 100000 in
set_option maxHeartbeats 4000000 in
theorem k_X11_turnsBack_3 {p : Program} {l : Launch} {e : Env} {s : State} {m : MethodId} {args : Array Value} {below : List Frame} {meth : Method} {c : Code} {g : Geo} (C : CX g p s m args meth c cX11_turnsBack 6 none RX11) {Q : Mem → Prop} : ∀ (n : Nat) (v1 : Int32) (v2 : Int32) (v3 : Int32) (v4 : Int32) (M : Mem) (hw : b_X11_turnsBack_3 Q n v1 v2 v3 v4 M) {H : Heap} {locs : List Loc} {ls : Array Slot} (hl : lv_has ls 6 [(0, .ref (g.2.1 (138 + 0))), (1, .int v1), (2, .int v2), (3, .int v3), (4, .int v4)]) (hP : va_P g.1 clz (yw g M) H) (hS : va_S (Af 1 g) s.heap H locs), W p l e ({ frames := 3, cells := 0, slots := 0, locals := 64 } : Room) s m args below meth c H locs 0 0 (MQ below (va_Qv Q (PB g (yw g)) (Af 1 g)) args s 0 0 (Af 1 g)) (F0 m 3 ls []) := by
  intro n
  induction n with
  | zero => intro v1 v2 v3 v4 M hw H locs ls hl hP hS; exact absurd hw (by rw [b_X11_turnsBack_3]; exact fun h => h)
  | succ n ih =>
    intro v1 v2 v3 v4 M hw H locs ls hl hP hS
    rw [b_X11_turnsBack_3] at hw
    refine lv_iload C.1 C.2.1 dX11_turnsBack_3 (lv_at hl 4 rfl) ?_
    refine lv_bipush (v := 62) C.1 C.2.1 dX11_turnsBack_5 (by decide) ?_
    refine lv_icmp_ge (tgt := 102) C.1 C.2.1 dX11_turnsBack_7 (by decide) (fun h1 => ?_) (fun h1 => ?_)
    · have hw := hw.1 h1
      exact retV (wf := (yw g)) C hP hS hw dX11_turnsBack_102
    · have hw := hw.2 h1
      refine lv_iload_n C.1 C.2.1 dX11_turnsBack_10 rfl (lv_at hl 2 rfl) ?_
      refine lv_iload_n C.1 C.2.1 dX11_turnsBack_11 rfl (lv_at hl 3 rfl) ?_
      refine lv_bipush (v := 62) C.1 C.2.1 dX11_turnsBack_12 (by decide) ?_
      refine lv_iload_n C.1 C.2.1 dX11_turnsBack_14 rfl (lv_at hl 1 rfl) ?_
      refine lv_imul C.1 C.2.1 dX11_turnsBack_15 ?_
      refine lv_iload C.1 C.2.1 dX11_turnsBack_16 (lv_at hl 4 rfl) ?_
      refine lv_iadd C.1 C.2.1 dX11_turnsBack_18 ?_
      refine goI (wf := (yw g)) (runS (w := yw g M) (As := [.int v2, .int v3, .int (((62 : Int32) * v1) + v4)]) (rest := []) C lkX11_280 (c_X11_angleOf l g C.2.2.2.2.2.2.2.2.2.2 v2 v3 ((((62 : Int32) * v1) + v4))  M _ hw) hP hS rfl rfl ⟨Nat.le_of_ble_eq_true rfl, Nat.le_of_ble_eq_true rfl⟩ hl.1 rfl (Nat.le_of_ble_eq_true rfl) dX11_turnsBack_19) hS (fun r2 M2 hw H locs hP hS => ?_)
      refine lv_istore (lv' := [(5, .int r2), (0, .ref (g.2.1 (138 + 0))), (1, .int v1), (2, .int v2), (3, .int v3), (4, .int v4)]) C.1 C.2.1 dX11_turnsBack_22 hl (by decide) rfl (fun ls hl => ?_)
      refine lv_aload_n C.1 C.2.1 dX11_turnsBack_24 rfl (lv_at hl 1 rfl) ?_
      refine gX11_45 C hP Nat.zero_lt_one dX11_turnsBack_25 ?_
      refine lv_iload C.1 C.2.1 dX11_turnsBack_28 (lv_at hl 5 rfl) ?_
      refine lv_aload_n C.1 C.2.1 dX11_turnsBack_30 rfl (lv_at hl 1 rfl) ?_
      refine gX11_39 C hP Nat.zero_lt_one dX11_turnsBack_31 ?_
      refine lv_iload C.1 C.2.1 dX11_turnsBack_34 (lv_at hl 5 rfl) ?_
      obtain ⟨h3, hw⟩ := hw
      refine al_49 C hP Nat.zero_lt_one h3 dX11_turnsBack_36 ?_
      refine lv_aload_n C.1 C.2.1 dX11_turnsBack_37 rfl (lv_at hl 1 rfl) ?_
      refine lv_iload C.1 C.2.1 dX11_turnsBack_38 (lv_at hl 0 rfl) ?_
      refine goI (wf := (yw g)) (runV (w := yw g M2) (As := [.int r2]) (rest := [.int (M2.1 49 0 (v4 : Int32).toNatClampNeg), .int v4, .ref (g.2.1 (149 + 0))]) C lkX11_283 (c_X11_cosOf l g C.2.2.2.2.2.2.2.2.2.2 r2  M2 _ hw) hP hS rfl rfl ⟨Nat.le_of_ble_eq_true rfl, Nat.le_of_ble_eq_true rfl⟩ (xx_40 Nat.zero_lt_one) rfl rfl hl.1 rfl (Nat.le_of_ble_eq_true rfl) dX11_turnsBack_40) hS (fun r4 M4 hw H locs hP hS => ?_)
      refine lv_imul C.1 C.2.1 dX11_turnsBack_43 ?_
      refine lv_aload_n C.1 C.2.1 dX11_turnsBack_44 rfl (lv_at hl 1 rfl) ?_
      refine gX11_42 C hP Nat.zero_lt_one dX11_turnsBack_45 ?_
      refine lv_iload C.1 C.2.1 dX11_turnsBack_48 (lv_at hl 5 rfl) ?_
      obtain ⟨h5, hw⟩ := hw
      refine al_50 C hP Nat.zero_lt_one h5 dX11_turnsBack_50 ?_
      refine lv_aload_n C.1 C.2.1 dX11_turnsBack_51 rfl (lv_at hl 1 rfl) ?_
      refine lv_iload C.1 C.2.1 dX11_turnsBack_52 (lv_at hl 0 rfl) ?_
      refine goI (wf := (yw g)) (runV (w := yw g M4) (As := [.int r2]) (rest := [.int (M4.1 50 0 (v4 : Int32).toNatClampNeg), .int ((M2.1 49 0 (v4 : Int32).toNatClampNeg) * r4), .int v4, .ref (g.2.1 (149 + 0))]) C lkX11_286 (c_X11_sinOf l g C.2.2.2.2.2.2.2.2.2.2 r2  M4 _ hw) hP hS rfl rfl ⟨Nat.le_of_ble_eq_true rfl, Nat.le_of_ble_eq_true rfl⟩ (xx_40 Nat.zero_lt_one) rfl rfl hl.1 rfl (Nat.le_of_ble_eq_true rfl) dX11_turnsBack_54) hS (fun r6 M6 hw H locs hP hS => ?_)
      refine lv_imul C.1 C.2.1 dX11_turnsBack_57 ?_
      refine lv_iadd C.1 C.2.1 dX11_turnsBack_58 ?_
      obtain ⟨h7, hw⟩ := hw
      refine as_51 C hP hS Nat.zero_lt_one h7 dX11_turnsBack_59 (fun M7 e7 H locs hP hS => ?_)
      have hw := hw M7 e7
      refine lv_aload_n C.1 C.2.1 dX11_turnsBack_60 rfl (lv_at hl 1 rfl) ?_
      refine gX11_48 C hP Nat.zero_lt_one dX11_turnsBack_61 ?_
      refine lv_iload C.1 C.2.1 dX11_turnsBack_64 (lv_at hl 5 rfl) ?_
      refine lv_aload_n C.1 C.2.1 dX11_turnsBack_66 rfl (lv_at hl 1 rfl) ?_
      refine gX11_42 C hP Nat.zero_lt_one dX11_turnsBack_67 ?_
      refine lv_iload C.1 C.2.1 dX11_turnsBack_70 (lv_at hl 5 rfl) ?_
      obtain ⟨h8, hw⟩ := hw
      refine al_50 C hP Nat.zero_lt_one h8 dX11_turnsBack_72 ?_
      refine lv_aload_n C.1 C.2.1 dX11_turnsBack_73 rfl (lv_at hl 1 rfl) ?_
      refine lv_iload C.1 C.2.1 dX11_turnsBack_74 (lv_at hl 0 rfl) ?_
      refine goI (wf := (yw g)) (runV (w := yw g M7) (As := [.int r2]) (rest := [.int (M7.1 50 0 (v4 : Int32).toNatClampNeg), .int v4, .ref (g.2.1 (150 + 0))]) C lkX11_283 (c_X11_cosOf l g C.2.2.2.2.2.2.2.2.2.2 r2  M7 _ hw) hP hS rfl rfl ⟨Nat.le_of_ble_eq_true rfl, Nat.le_of_ble_eq_true rfl⟩ (xx_40 Nat.zero_lt_one) rfl rfl hl.1 rfl (Nat.le_of_ble_eq_true rfl) dX11_turnsBack_76) hS (fun r9 M9 hw H locs hP hS => ?_)
      refine lv_imul C.1 C.2.1 dX11_turnsBack_79 ?_
      refine lv_aload_n C.1 C.2.1 dX11_turnsBack_80 rfl (lv_at hl 1 rfl) ?_
      refine gX11_39 C hP Nat.zero_lt_one dX11_turnsBack_81 ?_
      refine lv_iload C.1 C.2.1 dX11_turnsBack_84 (lv_at hl 5 rfl) ?_
      obtain ⟨h10, hw⟩ := hw
      refine al_49 C hP Nat.zero_lt_one h10 dX11_turnsBack_86 ?_
      refine lv_aload_n C.1 C.2.1 dX11_turnsBack_87 rfl (lv_at hl 1 rfl) ?_
      refine lv_iload C.1 C.2.1 dX11_turnsBack_88 (lv_at hl 0 rfl) ?_
      refine goI (wf := (yw g)) (runV (w := yw g M9) (As := [.int r2]) (rest := [.int (M9.1 49 0 (v4 : Int32).toNatClampNeg), .int ((M7.1 50 0 (v4 : Int32).toNatClampNeg) * r9), .int v4, .ref (g.2.1 (150 + 0))]) C lkX11_286 (c_X11_sinOf l g C.2.2.2.2.2.2.2.2.2.2 r2  M9 _ hw) hP hS rfl rfl ⟨Nat.le_of_ble_eq_true rfl, Nat.le_of_ble_eq_true rfl⟩ (xx_40 Nat.zero_lt_one) rfl rfl hl.1 rfl (Nat.le_of_ble_eq_true rfl) dX11_turnsBack_90) hS (fun r11 M11 hw H locs hP hS => ?_)
      refine lv_imul C.1 C.2.1 dX11_turnsBack_93 ?_
      refine lv_isub C.1 C.2.1 dX11_turnsBack_94 ?_
      obtain ⟨h12, hw⟩ := hw
      refine as_52 C hP hS Nat.zero_lt_one h12 dX11_turnsBack_95 (fun M12 e12 H locs hP hS => ?_)
      have hw := hw M12 e12
      obtain ⟨x13, e13⟩ : ∃ y : Int32, y = (v4 + 1) := ⟨_, rfl⟩
      have hw := hw x13 e13
      refine lv_iinc (v := x13) (lv' := [(4, .int x13), (5, .int r2), (0, .ref (g.2.1 (138 + 0))), (1, .int v1), (2, .int v2), (3, .int v3)]) C.1 C.2.1 dX11_turnsBack_96 hl (k := 5) rfl (by rw [e13]; rfl) (by decide) rfl (fun ls hl => ?_)
      refine lv_goto (tgt := 3) C.1 C.2.1 dX11_turnsBack_99 (by decide) ?_
      exact ih v1 v2 v3 x13  _ hw (lv_sub hl [2, 3, 4, 5, 0] rfl) hP hS
def p_X11_turnsBack (a1 : Int32) (a2 : Int32) (a3 : Int32) (M : Mem) (Q : Mem → Prop) : Prop := (∃ n3 : Nat, b_X11_turnsBack_3 Q n3 a1 a2 a3 0 M)
set_option maxRecDepth 100000 in
set_option maxHeartbeats 4000000 in
theorem c_X11_turnsBack (l : Launch) (g : Geo) (gi : GI g) (a1 : Int32) (a2 : Int32) (a3 : Int32) (M : Mem) (Q : Mem → Prop) (hw : p_X11_turnsBack a1 a2 a3 M Q) : Met l yX11_turnsBack (Cond.code yX11_turnsBack cX11_turnsBack 6 none :: bg) ({ frames := 3, cells := 0, slots := 0, locals := 64 } : Room) (va_Pc [.ref (g.2.1 (138 + 0)), .int a1, .int a2, .int a3] (PW g (yw g M))) (va_Qv Q (PB g (yw g)) (Af 1 g)) 0 0 (Af 1 g) := by
  refine Met.ofW (cc := cX11_turnsBack) (maxL := 6) (ret := none) (by decide +kernel) rfl ?_
  intro p e s m args below meth c s₁ B hml hv
  obtain ⟨rfl, hv⟩ := hv
  have C := CX.start (own := RX11) B hml rfl gi hv
  have hP := hv.1
  have hS : va_S (Af 1 g) s.heap s.heap [] := va_S.rf
  have hl := lv_entry ([.ref (g.2.1 (138 + 0)), .int a1, .int a2, .int a3]) (n := 6) (Nat.le_of_ble_eq_true rfl)
  rw [lg_entry_eq]
  generalize (lg_sl ([.ref (g.2.1 (138 + 0)), .int a1, .int a2, .int a3]) ++ List.replicate (6 - (lg_sl ([.ref (g.2.1 (138 + 0)), .int a1, .int a2, .int a3])).length) Slot.unset).toArray = ls at hl ⊢
  have hl : lv_has ls 6 [(0, .ref (g.2.1 (138 + 0))), (1, .int a1), (2, .int a2), (3, .int a3)] := hl
  unfold p_X11_turnsBack at hw
  refine lv_iconst (v := 0) C.1 C.2.1 dX11_turnsBack_0 (by decide) ?_
  refine lv_istore (lv' := [(4, .int 0), (0, .ref (g.2.1 (138 + 0))), (1, .int a1), (2, .int a2), (3, .int a3)]) C.1 C.2.1 dX11_turnsBack_1 hl (by decide) rfl (fun ls hl => ?_)
  obtain ⟨n9, hw⟩ := hw
  exact k_X11_turnsBack_3 (Q := Q) C n9 a1 a2 a3 0  _ hw (lv_sub hl [1, 2, 3, 4, 0] rfl) hP hS
def b_X11_powerBy_72 (Q : Int32 → Mem → Prop) (v3 : Int32) (v4 : Int32) (M : Mem) : Prop := (p_X11_quotient v3 64 M (fun r2 M2 => (∀ M3 : Mem, M3 = sI M2 40 0 29 r2 → (p_X11_quotient v4 64 M3 (fun r4 M4 => (∀ M5 : Mem, M5 = sI M4 40 0 30 r4 → (Q (((M5.1 40 0 29) * (M5.1 40 0 29)) + ((M5.1 40 0 30) * (M5.1 40 0 30))) M5)))))))
set_option maxRecDepth 100000 in
set_option maxHeartbeats 4000000 in
theorem k_X11_powerBy_72 {p : Program} {l : Launch} {e : Env} {s : State} {m : MethodId} {args : Array Value} {below : List Frame} {meth : Method} {c : Code} {g : Geo} (C : CX g p s m args meth c cX11_powerBy 7 (some .int) RX11) {Q : Int32 → Mem → Prop} (v3 : Int32) (v4 : Int32) (M : Mem) (hw : b_X11_powerBy_72 Q v3 v4 M) {H : Heap} {locs : List Loc} {ls : Array Slot} (hl : lv_has ls 7 [(0, .ref (g.2.1 (138 + 0))), (3, .int v3), (4, .int v4)]) (hP : va_P g.1 clz (yw g M) H) (hS : va_S (Af 1 g) s.heap H locs) : W p l e ({ frames := 2, cells := 0, slots := 0, locals := 42 } : Room) s m args below meth c H locs 0 0 (MQ below (va_Qi Q (PB g (yw g)) (Af 1 g)) args s 0 0 (Af 1 g)) (F0 m 72 ls []) := by
  unfold b_X11_powerBy_72 at hw
  refine lv_aload_n C.1 C.2.1 dX11_powerBy_72 rfl (lv_at hl 0 rfl) ?_
  refine lv_iload_n C.1 C.2.1 dX11_powerBy_73 rfl (lv_at hl 1 rfl) ?_
  refine lv_bipush (v := 64) C.1 C.2.1 dX11_powerBy_74 (by decide) ?_
  refine goI (wf := (yw g)) (runS (w := yw g M) (As := [.int v3, .int 64]) (rest := [.ref (g.2.1 (138 + 0))]) C lkX11_252 (c_X11_quotient l g C.2.2.2.2.2.2.2.2.2.2 v3 64  M _ hw) hP hS rfl rfl ⟨Nat.le_of_ble_eq_true rfl, Nat.le_of_ble_eq_true rfl⟩ hl.1 rfl (Nat.le_of_ble_eq_true rfl) dX11_powerBy_76) hS (fun r2 M2 hw H locs hP hS => ?_)
  refine pX11_293 C hP hS Nat.zero_lt_one dX11_powerBy_79 (fun M3 e3 H locs hP hS => ?_)
  have hw := hw M3 e3
  refine lv_aload_n C.1 C.2.1 dX11_powerBy_82 rfl (lv_at hl 0 rfl) ?_
  refine lv_iload C.1 C.2.1 dX11_powerBy_83 (lv_at hl 2 rfl) ?_
  refine lv_bipush (v := 64) C.1 C.2.1 dX11_powerBy_85 (by decide) ?_
  refine goI (wf := (yw g)) (runS (w := yw g M3) (As := [.int v4, .int 64]) (rest := [.ref (g.2.1 (138 + 0))]) C lkX11_252 (c_X11_quotient l g C.2.2.2.2.2.2.2.2.2.2 v4 64  M3 _ hw) hP hS rfl rfl ⟨Nat.le_of_ble_eq_true rfl, Nat.le_of_ble_eq_true rfl⟩ hl.1 rfl (Nat.le_of_ble_eq_true rfl) dX11_powerBy_87) hS (fun r4 M4 hw H locs hP hS => ?_)
  refine pX11_296 C hP hS Nat.zero_lt_one dX11_powerBy_90 (fun M5 e5 H locs hP hS => ?_)
  have hw := hw M5 e5
  refine lv_aload_n C.1 C.2.1 dX11_powerBy_93 rfl (lv_at hl 0 rfl) ?_
  refine gX11_293 C hP Nat.zero_lt_one dX11_powerBy_94 ?_
  refine lv_aload_n C.1 C.2.1 dX11_powerBy_97 rfl (lv_at hl 0 rfl) ?_
  refine gX11_293 C hP Nat.zero_lt_one dX11_powerBy_98 ?_
  refine lv_imul C.1 C.2.1 dX11_powerBy_101 ?_
  refine lv_aload_n C.1 C.2.1 dX11_powerBy_102 rfl (lv_at hl 0 rfl) ?_
  refine gX11_296 C hP Nat.zero_lt_one dX11_powerBy_103 ?_
  refine lv_aload_n C.1 C.2.1 dX11_powerBy_106 rfl (lv_at hl 0 rfl) ?_
  refine gX11_296 C hP Nat.zero_lt_one dX11_powerBy_107 ?_
  refine lv_imul C.1 C.2.1 dX11_powerBy_110 ?_
  refine lv_iadd C.1 C.2.1 dX11_powerBy_111 ?_
  exact retI (wf := (yw g)) C hP hS hw dX11_powerBy_112
def b_X11_powerBy_8 (Q : Int32 → Mem → Prop) : Nat → Int32 → Int32 → Int32 → Int32 → Int32 → Mem → Prop
  | 0, _, _, _, _, _, _ => False
  | n + 1, v1, v2, v3, v4, v5, M => ((62 ≤ v5 → (b_X11_powerBy_72 Q v3 v4 M)) ∧ (¬ 62 ≤ v5 → (p_X11_birdOf v1 1 M (fun r6 M6 => (p_X11_rest ((v5 - v2)) 62 M6 (fun r7 M7 => (p_X11_chipBy r6 ((r7 / 2)) M7 (fun r8 M8 => (vp_in v5 62 ∧ (∀ x10 : Int32, x10 = (v3 + (r8 * (M8.1 51 0 (v5 : Int32).toNatClampNeg))) → (vp_in v5 62 ∧ (∀ x12 : Int32, x12 = (v4 + (r8 * (M8.1 52 0 (v5 : Int32).toNatClampNeg))) → (∀ x13 : Int32, x13 = (v5 + 1) → (b_X11_powerBy_8 Q n v1 v2 x10 x12 x13 M8))))))))))))))
set_option maxRecDepth 100000 in
set_option maxHeartbeats 4000000 in
theorem k_X11_powerBy_8 {p : Program} {l : Launch} {e : Env} {s : State} {m : MethodId} {args : Array Value} {below : List Frame} {meth : Method} {c : Code} {g : Geo} (C : CX g p s m args meth c cX11_powerBy 7 (some .int) RX11) {Q : Int32 → Mem → Prop} : ∀ (n : Nat) (v1 : Int32) (v2 : Int32) (v3 : Int32) (v4 : Int32) (v5 : Int32) (M : Mem) (hw : b_X11_powerBy_8 Q n v1 v2 v3 v4 v5 M) {H : Heap} {locs : List Loc} {ls : Array Slot} (hl : lv_has ls 7 [(0, .ref (g.2.1 (138 + 0))), (1, .int v1), (2, .int v2), (3, .int v3), (4, .int v4), (5, .int v5)]) (hP : va_P g.1 clz (yw g M) H) (hS : va_S (Af 1 g) s.heap H locs), W p l e ({ frames := 2, cells := 0, slots := 0, locals := 42 } : Room) s m args below meth c H locs 0 0 (MQ below (va_Qi Q (PB g (yw g)) (Af 1 g)) args s 0 0 (Af 1 g)) (F0 m 8 ls []) := by
  intro n
  induction n with
  | zero => intro v1 v2 v3 v4 v5 M hw H locs ls hl hP hS; exact absurd hw (by rw [b_X11_powerBy_8]; exact fun h => h)
  | succ n ih =>
    intro v1 v2 v3 v4 v5 M hw H locs ls hl hP hS
    rw [b_X11_powerBy_8] at hw
    refine lv_iload C.1 C.2.1 dX11_powerBy_8 (lv_at hl 5 rfl) ?_
    refine lv_bipush (v := 62) C.1 C.2.1 dX11_powerBy_10 (by decide) ?_
    refine lv_icmp_ge (tgt := 72) C.1 C.2.1 dX11_powerBy_12 (by decide) (fun h1 => ?_) (fun h1 => ?_)
    · have hw := hw.1 h1
      exact k_X11_powerBy_72 (Q := Q) C v3 v4  _ hw (lv_sub hl [0, 3, 4] rfl) hP hS
    · have hw := hw.2 h1
      refine lv_aload_n C.1 C.2.1 dX11_powerBy_15 rfl (lv_at hl 0 rfl) ?_
      refine lv_aload_n C.1 C.2.1 dX11_powerBy_16 rfl (lv_at hl 0 rfl) ?_
      refine lv_iload_n C.1 C.2.1 dX11_powerBy_17 rfl (lv_at hl 1 rfl) ?_
      refine lv_iconst (v := 1) C.1 C.2.1 dX11_powerBy_18 (by decide) ?_
      refine goI (wf := (yw g)) (runV (w := yw g M) (As := [.int v1, .int 1]) (rest := [.ref (g.2.1 (138 + 0))]) C lkX11_160 (c_X11_birdOf l g C.2.2.2.2.2.2.2.2.2.2 v1 1  M _ hw) hP hS rfl rfl ⟨Nat.le_of_ble_eq_true rfl, Nat.le_of_ble_eq_true rfl⟩ (xx_40 Nat.zero_lt_one) rfl rfl hl.1 rfl (Nat.le_of_ble_eq_true rfl) dX11_powerBy_19) hS (fun r6 M6 hw H locs hP hS => ?_)
      refine lv_iload C.1 C.2.1 dX11_powerBy_22 (lv_at hl 5 rfl) ?_
      refine lv_iload_n C.1 C.2.1 dX11_powerBy_24 rfl (lv_at hl 2 rfl) ?_
      refine lv_isub C.1 C.2.1 dX11_powerBy_25 ?_
      refine lv_bipush (v := 62) C.1 C.2.1 dX11_powerBy_26 (by decide) ?_
      refine goI (wf := (yw g)) (runS (w := yw g M6) (As := [.int (v5 - v2), .int 62]) (rest := [.int r6, .ref (g.2.1 (138 + 0))]) C lkX11_249 (c_X11_rest l g C.2.2.2.2.2.2.2.2.2.2 ((v5 - v2)) 62  M6 _ hw) hP hS rfl rfl ⟨Nat.le_of_ble_eq_true rfl, Nat.le_of_ble_eq_true rfl⟩ hl.1 rfl (Nat.le_of_ble_eq_true rfl) dX11_powerBy_28) hS (fun r7 M7 hw H locs hP hS => ?_)
      refine lv_iconst (v := 2) C.1 C.2.1 dX11_powerBy_31 (by decide) ?_
      refine lv_idiv C.1 C.2.1 dX11_powerBy_32 (by decide) ?_
      refine goI (wf := (yw g)) (runV (w := yw g M7) (As := [.int r6, .int (r7 / 2)]) (rest := []) C lkX11_229 (c_X11_chipBy l g C.2.2.2.2.2.2.2.2.2.2 r6 ((r7 / 2))  M7 _ hw) hP hS rfl rfl ⟨Nat.le_of_ble_eq_true rfl, Nat.le_of_ble_eq_true rfl⟩ (xx_40 Nat.zero_lt_one) rfl rfl hl.1 rfl (Nat.le_of_ble_eq_true rfl) dX11_powerBy_33) hS (fun r8 M8 hw H locs hP hS => ?_)
      refine lv_istore (lv' := [(6, .int r8), (0, .ref (g.2.1 (138 + 0))), (1, .int v1), (2, .int v2), (3, .int v3), (4, .int v4), (5, .int v5)]) C.1 C.2.1 dX11_powerBy_36 hl (by decide) rfl (fun ls hl => ?_)
      refine lv_iload_n C.1 C.2.1 dX11_powerBy_38 rfl (lv_at hl 4 rfl) ?_
      refine lv_iload C.1 C.2.1 dX11_powerBy_39 (lv_at hl 0 rfl) ?_
      refine lv_aload_n C.1 C.2.1 dX11_powerBy_41 rfl (lv_at hl 1 rfl) ?_
      refine gX11_45 C hP Nat.zero_lt_one dX11_powerBy_42 ?_
      refine lv_iload C.1 C.2.1 dX11_powerBy_45 (lv_at hl 6 rfl) ?_
      obtain ⟨h9, hw⟩ := hw
      refine al_51 C hP Nat.zero_lt_one h9 dX11_powerBy_47 ?_
      refine lv_imul C.1 C.2.1 dX11_powerBy_48 ?_
      refine lv_iadd C.1 C.2.1 dX11_powerBy_49 ?_
      refine lv_topi (fun x10 e10 => ?_)
      have hw := hw x10 e10
      refine lv_istore_n (lv' := [(3, .int x10), (6, .int r8), (0, .ref (g.2.1 (138 + 0))), (1, .int v1), (2, .int v2), (4, .int v4), (5, .int v5)]) C.1 C.2.1 dX11_powerBy_50 rfl hl (by decide) rfl (fun ls hl => ?_)
      refine lv_iload C.1 C.2.1 dX11_powerBy_51 (lv_at hl 5 rfl) ?_
      refine lv_iload C.1 C.2.1 dX11_powerBy_53 (lv_at hl 1 rfl) ?_
      refine lv_aload_n C.1 C.2.1 dX11_powerBy_55 rfl (lv_at hl 2 rfl) ?_
      refine gX11_48 C hP Nat.zero_lt_one dX11_powerBy_56 ?_
      refine lv_iload C.1 C.2.1 dX11_powerBy_59 (lv_at hl 6 rfl) ?_
      obtain ⟨h11, hw⟩ := hw
      refine al_52 C hP Nat.zero_lt_one h11 dX11_powerBy_61 ?_
      refine lv_imul C.1 C.2.1 dX11_powerBy_62 ?_
      refine lv_iadd C.1 C.2.1 dX11_powerBy_63 ?_
      refine lv_topi (fun x12 e12 => ?_)
      have hw := hw x12 e12
      refine lv_istore (lv' := [(4, .int x12), (3, .int x10), (6, .int r8), (0, .ref (g.2.1 (138 + 0))), (1, .int v1), (2, .int v2), (5, .int v5)]) C.1 C.2.1 dX11_powerBy_64 hl (by decide) rfl (fun ls hl => ?_)
      obtain ⟨x13, e13⟩ : ∃ y : Int32, y = (v5 + 1) := ⟨_, rfl⟩
      have hw := hw x13 e13
      refine lv_iinc (v := x13) (lv' := [(5, .int x13), (4, .int x12), (3, .int x10), (6, .int r8), (0, .ref (g.2.1 (138 + 0))), (1, .int v1), (2, .int v2)]) C.1 C.2.1 dX11_powerBy_66 hl (k := 6) rfl (by rw [e13]; rfl) (by decide) rfl (fun ls hl => ?_)
      refine lv_goto (tgt := 8) C.1 C.2.1 dX11_powerBy_69 (by decide) ?_
      exact ih v1 v2 x10 x12 x13  _ hw (lv_sub hl [4, 5, 6, 2, 1, 0] rfl) hP hS
def p_X11_powerBy (a1 : Int32) (a2 : Int32) (M : Mem) (Q : Int32 → Mem → Prop) : Prop := (∃ n8 : Nat, b_X11_powerBy_8 Q n8 a1 a2 0 0 0 M)
set_option maxRecDepth 100000 in
set_option maxHeartbeats 4000000 in
theorem c_X11_powerBy (l : Launch) (g : Geo) (gi : GI g) (a1 : Int32) (a2 : Int32) (M : Mem) (Q : Int32 → Mem → Prop) (hw : p_X11_powerBy a1 a2 M Q) : Met l yX11_powerBy (Cond.code yX11_powerBy cX11_powerBy 7 (some .int) :: bg) ({ frames := 2, cells := 0, slots := 0, locals := 42 } : Room) (va_Pc [.ref (g.2.1 (138 + 0)), .int a1, .int a2] (PW g (yw g M))) (va_Qi Q (PB g (yw g)) (Af 1 g)) 0 0 (Af 1 g) := by
  refine Met.ofW (cc := cX11_powerBy) (maxL := 7) (ret := (some .int)) (by decide +kernel) rfl ?_
  intro p e s m args below meth c s₁ B hml hv
  obtain ⟨rfl, hv⟩ := hv
  have C := CX.start (own := RX11) B hml rfl gi hv
  have hP := hv.1
  have hS : va_S (Af 1 g) s.heap s.heap [] := va_S.rf
  have hl := lv_entry ([.ref (g.2.1 (138 + 0)), .int a1, .int a2]) (n := 7) (Nat.le_of_ble_eq_true rfl)
  rw [lg_entry_eq]
  generalize (lg_sl ([.ref (g.2.1 (138 + 0)), .int a1, .int a2]) ++ List.replicate (7 - (lg_sl ([.ref (g.2.1 (138 + 0)), .int a1, .int a2])).length) Slot.unset).toArray = ls at hl ⊢
  have hl : lv_has ls 7 [(0, .ref (g.2.1 (138 + 0))), (1, .int a1), (2, .int a2)] := hl
  unfold p_X11_powerBy at hw
  refine lv_iconst (v := 0) C.1 C.2.1 dX11_powerBy_0 (by decide) ?_
  refine lv_istore_n (lv' := [(3, .int 0), (0, .ref (g.2.1 (138 + 0))), (1, .int a1), (2, .int a2)]) C.1 C.2.1 dX11_powerBy_1 rfl hl (by decide) rfl (fun ls hl => ?_)
  refine lv_iconst (v := 0) C.1 C.2.1 dX11_powerBy_2 (by decide) ?_
  refine lv_istore (lv' := [(4, .int 0), (3, .int 0), (0, .ref (g.2.1 (138 + 0))), (1, .int a1), (2, .int a2)]) C.1 C.2.1 dX11_powerBy_3 hl (by decide) rfl (fun ls hl => ?_)
  refine lv_iconst (v := 0) C.1 C.2.1 dX11_powerBy_5 (by decide) ?_
  refine lv_istore (lv' := [(5, .int 0), (4, .int 0), (3, .int 0), (0, .ref (g.2.1 (138 + 0))), (1, .int a1), (2, .int a2)]) C.1 C.2.1 dX11_powerBy_6 hl (by decide) rfl (fun ls hl => ?_)
  obtain ⟨n9, hw⟩ := hw
  exact k_X11_powerBy_8 (Q := Q) C n9 a1 a2 0 0 0  _ hw (lv_sub hl [3, 4, 5, 2, 1, 0] rfl) hP hS
def p_X11_sum (a1 : Int32) (a2 : Int32) (a3 : Int32) (a4 : Int32) (a5 : Int32) (M : Mem) (Q : Int32 → Mem → Prop) : Prop := (∀ M1 : Mem, M1 = sI M 40 0 2 0 → (p_X11_isBird a1 M1 (fun r2 M2 => ((r2 = 0 → (Q 0 M2)) ∧ (¬ r2 = 0 → (p_X11_isIn a2 0 199 M2 (fun r4 M4 => ((r4 = 0 → (Q 0 M4)) ∧ (¬ r4 = 0 → (p_X11_isIn a3 0 929 M4 (fun r6 M6 => ((r6 = 0 → (Q 0 M6)) ∧ (¬ r6 = 0 → (p_X11_isIn a4 0 15 M6 (fun r8 M8 => ((r8 = 0 → (Q 0 M8)) ∧ (¬ r8 = 0 → (p_X11_isIn a5 0 2 M8 (fun r10 M10 => ((¬ r10 = 0 → (p_X11_laySamples a2 M10 (fun M12 => (p_X11_turnsBack a2 ((a3 / 62)) a4 M12 (fun M13 => (p_X11_powerBy a1 ((a3 - a3 / 62 * 62)) M13 (fun r14 M14 => ((¬ a5 = 0 → ((¬ a5 = 1 → (Q r14 M14)) ∧ (a5 = 1 → (Q (M14.1 40 0 30) M14)))) ∧ (a5 = 0 → (Q (M14.1 40 0 29) M14)))))))))) ∧ (r10 = 0 → (Q 0 M10))))))))))))))))))))))
set_option maxRecDepth 100000 in
set_option maxHeartbeats 4000000 in
theorem c_X11_sum (l : Launch) (g : Geo) (gi : GI g) (a1 : Int32) (a2 : Int32) (a3 : Int32) (a4 : Int32) (a5 : Int32) (M : Mem) (Q : Int32 → Mem → Prop) (hw : p_X11_sum a1 a2 a3 a4 a5 M Q) : Met l yX11_sum (Cond.code yX11_sum cX11_sum 7 (some .int) :: bg) ({ frames := 5, cells := 0, slots := 0, locals := 123 } : Room) (va_Pc [.ref (g.2.1 (138 + 0)), .int a1, .int a2, .int a3, .int a4, .int a5] (PW g (yw g M))) (va_Qi Q (PB g (yw g)) (Af 1 g)) 0 0 (Af 1 g) := by
  refine Met.ofW (cc := cX11_sum) (maxL := 7) (ret := (some .int)) (by decide +kernel) rfl ?_
  intro p e s m args below meth c s₁ B hml hv
  obtain ⟨rfl, hv⟩ := hv
  have C := CX.start (own := RX11) B hml rfl gi hv
  have hP := hv.1
  have hS : va_S (Af 1 g) s.heap s.heap [] := va_S.rf
  have hl := lv_entry ([.ref (g.2.1 (138 + 0)), .int a1, .int a2, .int a3, .int a4, .int a5]) (n := 7) (Nat.le_of_ble_eq_true rfl)
  rw [lg_entry_eq]
  generalize (lg_sl ([.ref (g.2.1 (138 + 0)), .int a1, .int a2, .int a3, .int a4, .int a5]) ++ List.replicate (7 - (lg_sl ([.ref (g.2.1 (138 + 0)), .int a1, .int a2, .int a3, .int a4, .int a5])).length) Slot.unset).toArray = ls at hl ⊢
  have hl : lv_has ls 7 [(0, .ref (g.2.1 (138 + 0))), (1, .int a1), (2, .int a2), (3, .int a3), (4, .int a4), (5, .int a5)] := hl
  unfold p_X11_sum at hw
  refine lv_aload_n C.1 C.2.1 dX11_sum_0 rfl (lv_at hl 0 rfl) ?_
  refine lv_iconst (v := 0) C.1 C.2.1 dX11_sum_1 (by decide) ?_
  refine pX11_76 C hP hS Nat.zero_lt_one dX11_sum_2 (fun M1 e1 H locs hP hS => ?_)
  have hw := hw M1 e1
  refine lv_aload_n C.1 C.2.1 dX11_sum_5 rfl (lv_at hl 0 rfl) ?_
  refine lv_iload_n C.1 C.2.1 dX11_sum_6 rfl (lv_at hl 1 rfl) ?_
  refine goI (wf := (yw g)) (runV (w := yw g M1) (As := [.int a1]) (rest := []) C lkX11_216 (c_X11_isBird l g C.2.2.2.2.2.2.2.2.2.2 a1  M1 _ hw) hP hS rfl rfl ⟨Nat.le_of_ble_eq_true rfl, Nat.le_of_ble_eq_true rfl⟩ (xx_40 Nat.zero_lt_one) rfl rfl hl.1 rfl (Nat.le_of_ble_eq_true rfl) dX11_sum_7) hS (fun r2 M2 hw H locs hP hS => ?_)
  obtain ⟨hw, hz2⟩ := hw
  refine lv_if_eq (tgt := 56) C.1 C.2.1 dX11_sum_10 (by decide) (fun h3 => ?_) (fun h3 => ?_)
  · have hw := hw.1 h3
    refine lv_iconst (v := 0) C.1 C.2.1 dX11_sum_56 (by decide) ?_
    exact retI (wf := (yw g)) C hP hS hw dX11_sum_57
  · have hw := hw.2 h3
    refine lv_iload_n C.1 C.2.1 dX11_sum_13 rfl (lv_at hl 2 rfl) ?_
    refine lv_iconst (v := 0) C.1 C.2.1 dX11_sum_14 (by decide) ?_
    refine lv_sipush (v := 199) C.1 C.2.1 dX11_sum_15 (by decide) ?_
    refine goI (wf := (yw g)) (runS (w := yw g M2) (As := [.int a2, .int 0, .int 199]) (rest := []) C lkX11_166 (c_X11_isIn l g C.2.2.2.2.2.2.2.2.2.2 a2 0 199  M2 _ hw) hP hS rfl rfl ⟨Nat.le_of_ble_eq_true rfl, Nat.le_of_ble_eq_true rfl⟩ hl.1 rfl (Nat.le_of_ble_eq_true rfl) dX11_sum_18) hS (fun r4 M4 hw H locs hP hS => ?_)
    obtain ⟨hw, hz4⟩ := hw
    refine lv_if_eq (tgt := 56) C.1 C.2.1 dX11_sum_21 (by decide) (fun h5 => ?_) (fun h5 => ?_)
    · have hw := hw.1 h5
      refine lv_iconst (v := 0) C.1 C.2.1 dX11_sum_56 (by decide) ?_
      exact retI (wf := (yw g)) C hP hS hw dX11_sum_57
    · have hw := hw.2 h5
      refine lv_iload_n C.1 C.2.1 dX11_sum_24 rfl (lv_at hl 3 rfl) ?_
      refine lv_iconst (v := 0) C.1 C.2.1 dX11_sum_25 (by decide) ?_
      refine lv_sipush (v := 929) C.1 C.2.1 dX11_sum_26 (by decide) ?_
      refine goI (wf := (yw g)) (runS (w := yw g M4) (As := [.int a3, .int 0, .int 929]) (rest := []) C lkX11_166 (c_X11_isIn l g C.2.2.2.2.2.2.2.2.2.2 a3 0 929  M4 _ hw) hP hS rfl rfl ⟨Nat.le_of_ble_eq_true rfl, Nat.le_of_ble_eq_true rfl⟩ hl.1 rfl (Nat.le_of_ble_eq_true rfl) dX11_sum_29) hS (fun r6 M6 hw H locs hP hS => ?_)
      obtain ⟨hw, hz6⟩ := hw
      refine lv_if_eq (tgt := 56) C.1 C.2.1 dX11_sum_32 (by decide) (fun h7 => ?_) (fun h7 => ?_)
      · have hw := hw.1 h7
        refine lv_iconst (v := 0) C.1 C.2.1 dX11_sum_56 (by decide) ?_
        exact retI (wf := (yw g)) C hP hS hw dX11_sum_57
      · have hw := hw.2 h7
        refine lv_iload C.1 C.2.1 dX11_sum_35 (lv_at hl 4 rfl) ?_
        refine lv_iconst (v := 0) C.1 C.2.1 dX11_sum_37 (by decide) ?_
        refine lv_bipush (v := 15) C.1 C.2.1 dX11_sum_38 (by decide) ?_
        refine goI (wf := (yw g)) (runS (w := yw g M6) (As := [.int a4, .int 0, .int 15]) (rest := []) C lkX11_166 (c_X11_isIn l g C.2.2.2.2.2.2.2.2.2.2 a4 0 15  M6 _ hw) hP hS rfl rfl ⟨Nat.le_of_ble_eq_true rfl, Nat.le_of_ble_eq_true rfl⟩ hl.1 rfl (Nat.le_of_ble_eq_true rfl) dX11_sum_40) hS (fun r8 M8 hw H locs hP hS => ?_)
        obtain ⟨hw, hz8⟩ := hw
        refine lv_if_eq (tgt := 56) C.1 C.2.1 dX11_sum_43 (by decide) (fun h9 => ?_) (fun h9 => ?_)
        · have hw := hw.1 h9
          refine lv_iconst (v := 0) C.1 C.2.1 dX11_sum_56 (by decide) ?_
          exact retI (wf := (yw g)) C hP hS hw dX11_sum_57
        · have hw := hw.2 h9
          refine lv_iload C.1 C.2.1 dX11_sum_46 (lv_at hl 5 rfl) ?_
          refine lv_iconst (v := 0) C.1 C.2.1 dX11_sum_48 (by decide) ?_
          refine lv_iconst (v := 2) C.1 C.2.1 dX11_sum_49 (by decide) ?_
          refine goI (wf := (yw g)) (runS (w := yw g M8) (As := [.int a5, .int 0, .int 2]) (rest := []) C lkX11_166 (c_X11_isIn l g C.2.2.2.2.2.2.2.2.2.2 a5 0 2  M8 _ hw) hP hS rfl rfl ⟨Nat.le_of_ble_eq_true rfl, Nat.le_of_ble_eq_true rfl⟩ hl.1 rfl (Nat.le_of_ble_eq_true rfl) dX11_sum_50) hS (fun r10 M10 hw H locs hP hS => ?_)
          obtain ⟨hw, hz10⟩ := hw
          refine lv_if_ne (tgt := 58) C.1 C.2.1 dX11_sum_53 (by decide) (fun h11 => ?_) (fun h11 => ?_)
          · have hw := hw.1 h11
            refine lv_aload_n C.1 C.2.1 dX11_sum_58 rfl (lv_at hl 0 rfl) ?_
            refine lv_iload_n C.1 C.2.1 dX11_sum_59 rfl (lv_at hl 2 rfl) ?_
            refine goV (wf := (yw g)) (runV (w := yw g M10) (As := [.int a2]) (rest := []) C lkX11_289 (c_X11_laySamples l g C.2.2.2.2.2.2.2.2.2.2 a2  M10 _ hw) hP hS rfl rfl ⟨Nat.le_of_ble_eq_true rfl, Nat.le_of_ble_eq_true rfl⟩ (xx_40 Nat.zero_lt_one) rfl rfl hl.1 rfl (Nat.le_of_ble_eq_true rfl) dX11_sum_60) hS (fun M12 hw H locs hP hS => ?_)
            refine lv_aload_n C.1 C.2.1 dX11_sum_63 rfl (lv_at hl 0 rfl) ?_
            refine lv_iload_n C.1 C.2.1 dX11_sum_64 rfl (lv_at hl 2 rfl) ?_
            refine lv_iload_n C.1 C.2.1 dX11_sum_65 rfl (lv_at hl 3 rfl) ?_
            refine lv_bipush (v := 62) C.1 C.2.1 dX11_sum_66 (by decide) ?_
            refine lv_idiv C.1 C.2.1 dX11_sum_68 (by decide) ?_
            refine lv_iload C.1 C.2.1 dX11_sum_69 (lv_at hl 4 rfl) ?_
            refine goV (wf := (yw g)) (runV (w := yw g M12) (As := [.int a2, .int (a3 / 62), .int a4]) (rest := []) C lkX11_299 (c_X11_turnsBack l g C.2.2.2.2.2.2.2.2.2.2 a2 ((a3 / 62)) a4  M12 _ hw) hP hS rfl rfl ⟨Nat.le_of_ble_eq_true rfl, Nat.le_of_ble_eq_true rfl⟩ (xx_40 Nat.zero_lt_one) rfl rfl hl.1 rfl (Nat.le_of_ble_eq_true rfl) dX11_sum_71) hS (fun M13 hw H locs hP hS => ?_)
            refine lv_aload_n C.1 C.2.1 dX11_sum_74 rfl (lv_at hl 0 rfl) ?_
            refine lv_iload_n C.1 C.2.1 dX11_sum_75 rfl (lv_at hl 1 rfl) ?_
            refine lv_iload_n C.1 C.2.1 dX11_sum_76 rfl (lv_at hl 3 rfl) ?_
            refine lv_bipush (v := 62) C.1 C.2.1 dX11_sum_77 (by decide) ?_
            refine lv_irem C.1 C.2.1 dX11_sum_79 (by decide) ?_
            refine goI (wf := (yw g)) (runV (w := yw g M13) (As := [.int a1, .int (a3 - a3 / 62 * 62)]) (rest := []) C lkX11_302 (c_X11_powerBy l g C.2.2.2.2.2.2.2.2.2.2 a1 ((a3 - a3 / 62 * 62))  M13 _ hw) hP hS rfl rfl ⟨Nat.le_of_ble_eq_true rfl, Nat.le_of_ble_eq_true rfl⟩ (xx_40 Nat.zero_lt_one) rfl rfl hl.1 rfl (Nat.le_of_ble_eq_true rfl) dX11_sum_80) hS (fun r14 M14 hw H locs hP hS => ?_)
            refine lv_istore (lv' := [(6, .int r14), (0, .ref (g.2.1 (138 + 0))), (1, .int a1), (2, .int a2), (3, .int a3), (4, .int a4), (5, .int a5)]) C.1 C.2.1 dX11_sum_83 hl (by decide) rfl (fun ls hl => ?_)
            refine lv_iload C.1 C.2.1 dX11_sum_85 (lv_at hl 6 rfl) ?_
            refine lv_if_ne (tgt := 97) C.1 C.2.1 dX11_sum_87 (by decide) (fun h15 => ?_) (fun h15 => ?_)
            · have hw := hw.1 h15
              refine lv_iload C.1 C.2.1 dX11_sum_97 (lv_at hl 6 rfl) ?_
              refine lv_iconst (v := 1) C.1 C.2.1 dX11_sum_99 (by decide) ?_
              refine lv_icmp_ne (tgt := 110) C.1 C.2.1 dX11_sum_100 (by decide) (fun h16 => ?_) (fun h16 => ?_)
              · have hw := hw.1 h16
                refine lv_iload C.1 C.2.1 dX11_sum_110 (lv_at hl 0 rfl) ?_
                exact retI (wf := (yw g)) C hP hS hw dX11_sum_112
              · have hw := hw.2 h16
                refine lv_aload_n C.1 C.2.1 dX11_sum_103 rfl (lv_at hl 1 rfl) ?_
                refine gX11_296 C hP Nat.zero_lt_one dX11_sum_104 ?_
                refine lv_goto (tgt := 112) C.1 C.2.1 dX11_sum_107 (by decide) ?_
                exact retI (wf := (yw g)) C hP hS hw dX11_sum_112
            · have hw := hw.2 h15
              refine lv_aload_n C.1 C.2.1 dX11_sum_90 rfl (lv_at hl 1 rfl) ?_
              refine gX11_293 C hP Nat.zero_lt_one dX11_sum_91 ?_
              refine lv_goto (tgt := 112) C.1 C.2.1 dX11_sum_94 (by decide) ?_
              exact retI (wf := (yw g)) C hP hS hw dX11_sum_112
          · have hw := hw.2 h11
            refine lv_iconst (v := 0) C.1 C.2.1 dX11_sum_56 (by decide) ?_
            exact retI (wf := (yw g)) C hP hS hw dX11_sum_57
def b_X11_apart_14 (Q : Int32 → Mem → Prop) (v2 : Int32) (s0 : Int32) (M : Mem) : Prop := (((v2 - s0) ≤ s0 → (Q (v2 - s0) M)) ∧ (¬ (v2 - s0) ≤ s0 → (Q s0 M)))
set_option maxRecDepth 100000 in
set_option maxHeartbeats 4000000 in
theorem k_X11_apart_14 {p : Program} {l : Launch} {e : Env} {s : State} {m : MethodId} {args : Array Value} {below : List Frame} {meth : Method} {c : Code} {g : Geo} (C : CX g p s m args meth c cX11_apart 4 (some .int) RX11) {Q : Int32 → Mem → Prop} (v2 : Int32) (s0 : Int32) (M : Mem) (hw : b_X11_apart_14 Q v2 s0 M) {H : Heap} {locs : List Loc} {ls : Array Slot} (hl : lv_has ls 4 [(2, .int v2)]) (hP : va_P g.1 clz (yw g M) H) (hS : va_S (Af 1 g) s.heap H locs) : W p l e ({ frames := 0, cells := 0, slots := 0, locals := 0 } : Room) s m args below meth c H locs 0 0 (MQ below (va_Qi Q (PB g (yw g)) (Af 1 g)) args s 0 0 (Af 1 g)) (F0 m 14 ls [.int s0]) := by
  unfold b_X11_apart_14 at hw
  refine lv_istore_n (lv' := [(3, .int s0), (2, .int v2)]) C.1 C.2.1 dX11_apart_14 rfl hl (by decide) rfl (fun ls hl => ?_)
  refine lv_iload_n C.1 C.2.1 dX11_apart_15 rfl (lv_at hl 0 rfl) ?_
  refine lv_iload_n C.1 C.2.1 dX11_apart_16 rfl (lv_at hl 1 rfl) ?_
  refine lv_iload_n C.1 C.2.1 dX11_apart_17 rfl (lv_at hl 0 rfl) ?_
  refine lv_isub C.1 C.2.1 dX11_apart_18 ?_
  refine lv_icmp_ge (tgt := 26) C.1 C.2.1 dX11_apart_19 (by decide) (fun h2 => ?_) (fun h2 => ?_)
  · have hw := hw.1 h2
    refine lv_iload_n C.1 C.2.1 dX11_apart_26 rfl (lv_at hl 1 rfl) ?_
    refine lv_iload_n C.1 C.2.1 dX11_apart_27 rfl (lv_at hl 0 rfl) ?_
    refine lv_isub C.1 C.2.1 dX11_apart_28 ?_
    exact retI (wf := (yw g)) C hP hS hw dX11_apart_29
  · have hw := hw.2 h2
    refine lv_iload_n C.1 C.2.1 dX11_apart_22 rfl (lv_at hl 0 rfl) ?_
    refine lv_goto (tgt := 29) C.1 C.2.1 dX11_apart_23 (by decide) ?_
    exact retI (wf := (yw g)) C hP hS hw dX11_apart_29
def p_X11_apart (a0 : Int32) (a1 : Int32) (a2 : Int32) (M : Mem) (Q : Int32 → Mem → Prop) : Prop := ((a0 ≤ a1 → (b_X11_apart_14 Q a2 ((a1 - a0)) M)) ∧ (¬ a0 ≤ a1 → (b_X11_apart_14 Q a2 ((a0 - a1)) M)))
set_option maxRecDepth 100000 in
set_option maxHeartbeats 4000000 in
theorem c_X11_apart (l : Launch) (g : Geo) (gi : GI g) (a0 : Int32) (a1 : Int32) (a2 : Int32) (M : Mem) (Q : Int32 → Mem → Prop) (hw : p_X11_apart a0 a1 a2 M Q) : Met l yX11_apart (Cond.code yX11_apart cX11_apart 4 (some .int) :: bg) ({ frames := 0, cells := 0, slots := 0, locals := 0 } : Room) (va_Pc [.int a0, .int a1, .int a2] (PW g (yw g M))) (va_Qi Q (PB g (yw g)) (Af 1 g)) 0 0 (Af 1 g) := by
  refine Met.ofW (cc := cX11_apart) (maxL := 4) (ret := (some .int)) (by decide +kernel) rfl ?_
  intro p e s m args below meth c s₁ B hml hv
  obtain ⟨rfl, hv⟩ := hv
  have C := CX.start (own := RX11) B hml rfl gi hv
  have hP := hv.1
  have hS : va_S (Af 1 g) s.heap s.heap [] := va_S.rf
  have hl := lv_entry ([.int a0, .int a1, .int a2]) (n := 4) (Nat.le_of_ble_eq_true rfl)
  rw [lg_entry_eq]
  generalize (lg_sl ([.int a0, .int a1, .int a2]) ++ List.replicate (4 - (lg_sl ([.int a0, .int a1, .int a2])).length) Slot.unset).toArray = ls at hl ⊢
  have hl : lv_has ls 4 [(0, .int a0), (1, .int a1), (2, .int a2)] := hl
  unfold p_X11_apart at hw
  refine lv_iload_n C.1 C.2.1 dX11_apart_0 rfl (lv_at hl 0 rfl) ?_
  refine lv_iload_n C.1 C.2.1 dX11_apart_1 rfl (lv_at hl 1 rfl) ?_
  refine lv_icmp_le (tgt := 11) C.1 C.2.1 dX11_apart_2 (by decide) (fun h1 => ?_) (fun h1 => ?_)
  · have hw := hw.1 h1
    refine lv_iload_n C.1 C.2.1 dX11_apart_11 rfl (lv_at hl 1 rfl) ?_
    refine lv_iload_n C.1 C.2.1 dX11_apart_12 rfl (lv_at hl 0 rfl) ?_
    refine lv_isub C.1 C.2.1 dX11_apart_13 ?_
    exact k_X11_apart_14 (Q := Q) C a2 ((a1 - a0))  _ hw (lv_sub hl [2] rfl) hP hS
  · have hw := hw.2 h1
    refine lv_iload_n C.1 C.2.1 dX11_apart_5 rfl (lv_at hl 0 rfl) ?_
    refine lv_iload_n C.1 C.2.1 dX11_apart_6 rfl (lv_at hl 1 rfl) ?_
    refine lv_isub C.1 C.2.1 dX11_apart_7 ?_
    refine lv_goto (tgt := 14) C.1 C.2.1 dX11_apart_8 (by decide) ?_
    exact k_X11_apart_14 (Q := Q) C a2 ((a0 - a1))  _ hw (lv_sub hl [2] rfl) hP hS
def b_X11_addsPowers_59 (Q : Mem → Prop) (k7 : Int32 → Int32 → Int32 → Mem → Prop) (v1 : Int32) (v2 : Int32) (v3 : Int32) (M : Mem) : Prop := (∀ x5 : Int32, x5 = (v3 + 1) → (k7 v1 v2 x5 M))
set_option maxRecDepth 100000 in
set_option maxHeartbeats 4000000 in
theorem k_X11_addsPowers_59 {p : Program} {l : Launch} {e : Env} {s : State} {m : MethodId} {args : Array Value} {below : List Frame} {meth : Method} {c : Code} {g : Geo} (C : CX g p s m args meth c cX11_addsPowers 5 none RX11) {Q : Mem → Prop} {k7 : Int32 → Int32 → Int32 → Mem → Prop} (hk7 : ∀ (v1 : Int32) (v2 : Int32) (v3 : Int32) (M : Mem), k7 v1 v2 v3 M → ∀ (H : Heap) (locs : List Loc) (ls : Array Slot), lv_has ls 5 [(0, .ref (g.2.1 (138 + 0))), (1, .int v1), (2, .int v2), (3, .int v3)] → va_P g.1 clz (yw g M) H → va_S (Af 1 g) s.heap H locs → W p l e ({ frames := 5, cells := 0, slots := 0, locals := 123 } : Room) s m args below meth c H locs 0 0 (MQ below (va_Qv Q (PB g (yw g)) (Af 1 g)) args s 0 0 (Af 1 g)) (F0 m 7 ls [])) (v1 : Int32) (v2 : Int32) (v3 : Int32) (M : Mem) (hw : b_X11_addsPowers_59 Q k7 v1 v2 v3 M) {H : Heap} {locs : List Loc} {ls : Array Slot} (hl : lv_has ls 5 [(0, .ref (g.2.1 (138 + 0))), (1, .int v1), (2, .int v2), (3, .int v3)]) (hP : va_P g.1 clz (yw g M) H) (hS : va_S (Af 1 g) s.heap H locs) : W p l e ({ frames := 5, cells := 0, slots := 0, locals := 123 } : Room) s m args below meth c H locs 0 0 (MQ below (va_Qv Q (PB g (yw g)) (Af 1 g)) args s 0 0 (Af 1 g)) (F0 m 59 ls []) := by
  unfold b_X11_addsPowers_59 at hw
  obtain ⟨x5, e5⟩ : ∃ y : Int32, y = (v3 + 1) := ⟨_, rfl⟩
  have hw := hw x5 e5
  refine lv_iinc (v := x5) (lv' := [(3, .int x5), (0, .ref (g.2.1 (138 + 0))), (1, .int v1), (2, .int v2)]) C.1 C.2.1 dX11_addsPowers_59 hl (k := 3) rfl (by rw [e5]; rfl) (by decide) rfl (fun ls hl => ?_)
  refine lv_goto (tgt := 7) C.1 C.2.1 dX11_addsPowers_62 (by decide) ?_
  exact hk7 v1 v2 x5  _ hw _ _ _ (lv_sub hl [1, 2, 3, 0] rfl) hP hS
def b_X11_addsPowers_23 (Q : Mem → Prop) (k7 : Int32 → Int32 → Int32 → Mem → Prop) : Nat → Int32 → Int32 → Int32 → Int32 → Mem → Prop
  | 0, _, _, _, _, _ => False
  | n + 1, v1, v2, v3, v4, M => ((62 ≤ v4 → (b_X11_addsPowers_59 Q k7 v1 v2 v3 M)) ∧ (¬ 62 ≤ v4 → (vp_in (((62 : Int32) * v3) + v4) 930 ∧ (p_X11_powerBy v1 v4 M (fun r7 M7 => (vp_in (((62 : Int32) * v3) + v4) 930 ∧ (∀ M8 : Mem, M8 = sL M7 53 0 ((((62 : Int32) * v3) + v4) : Int32).toNatClampNeg ((M.2.1 53 0 ((((62 : Int32) * v3) + v4) : Int32).toNatClampNeg) + (r7 : Int32).toInt64) → (∀ x9 : Int32, x9 = (v4 + 1) → (b_X11_addsPowers_23 Q k7 n v1 v2 v3 x9 M8)))))))))
set_option maxRecDepth 100000 in
set_option maxHeartbeats 4000000 in
theorem k_X11_addsPowers_23 {p : Program} {l : Launch} {e : Env} {s : State} {m : MethodId} {args : Array Value} {below : List Frame} {meth : Method} {c : Code} {g : Geo} (C : CX g p s m args meth c cX11_addsPowers 5 none RX11) {Q : Mem → Prop} {k7 : Int32 → Int32 → Int32 → Mem → Prop} (hk7 : ∀ (v1 : Int32) (v2 : Int32) (v3 : Int32) (M : Mem), k7 v1 v2 v3 M → ∀ (H : Heap) (locs : List Loc) (ls : Array Slot), lv_has ls 5 [(0, .ref (g.2.1 (138 + 0))), (1, .int v1), (2, .int v2), (3, .int v3)] → va_P g.1 clz (yw g M) H → va_S (Af 1 g) s.heap H locs → W p l e ({ frames := 5, cells := 0, slots := 0, locals := 123 } : Room) s m args below meth c H locs 0 0 (MQ below (va_Qv Q (PB g (yw g)) (Af 1 g)) args s 0 0 (Af 1 g)) (F0 m 7 ls [])) : ∀ (n : Nat) (v1 : Int32) (v2 : Int32) (v3 : Int32) (v4 : Int32) (M : Mem) (hw : b_X11_addsPowers_23 Q k7 n v1 v2 v3 v4 M) {H : Heap} {locs : List Loc} {ls : Array Slot} (hl : lv_has ls 5 [(0, .ref (g.2.1 (138 + 0))), (1, .int v1), (2, .int v2), (3, .int v3), (4, .int v4)]) (hP : va_P g.1 clz (yw g M) H) (hS : va_S (Af 1 g) s.heap H locs), W p l e ({ frames := 5, cells := 0, slots := 0, locals := 123 } : Room) s m args below meth c H locs 0 0 (MQ below (va_Qv Q (PB g (yw g)) (Af 1 g)) args s 0 0 (Af 1 g)) (F0 m 23 ls []) := by
  intro n
  induction n with
  | zero => intro v1 v2 v3 v4 M hw H locs ls hl hP hS; exact absurd hw (by rw [b_X11_addsPowers_23]; exact fun h => h)
  | succ n ih =>
    intro v1 v2 v3 v4 M hw H locs ls hl hP hS
    rw [b_X11_addsPowers_23] at hw
    refine lv_iload C.1 C.2.1 dX11_addsPowers_23 (lv_at hl 4 rfl) ?_
    refine lv_bipush (v := 62) C.1 C.2.1 dX11_addsPowers_25 (by decide) ?_
    refine lv_icmp_ge (tgt := 59) C.1 C.2.1 dX11_addsPowers_27 (by decide) (fun h4 => ?_) (fun h4 => ?_)
    · have hw := hw.1 h4
      exact k_X11_addsPowers_59 (Q := Q) C hk7 v1 v2 v3  _ hw (lv_sub hl [0, 1, 2, 3] rfl) hP hS
    · have hw := hw.2 h4
      refine lv_aload_n C.1 C.2.1 dX11_addsPowers_30 rfl (lv_at hl 0 rfl) ?_
      refine gX11_51 C hP Nat.zero_lt_one dX11_addsPowers_31 ?_
      refine lv_bipush (v := 62) C.1 C.2.1 dX11_addsPowers_34 (by decide) ?_
      refine lv_iload_n C.1 C.2.1 dX11_addsPowers_36 rfl (lv_at hl 3 rfl) ?_
      refine lv_imul C.1 C.2.1 dX11_addsPowers_37 ?_
      refine lv_iload C.1 C.2.1 dX11_addsPowers_38 (lv_at hl 4 rfl) ?_
      refine lv_iadd C.1 C.2.1 dX11_addsPowers_40 ?_
      refine lv_dup2_11 C.1 C.2.1 dX11_addsPowers_41 rfl rfl ?_
      obtain ⟨h6, hw⟩ := hw
      refine al_53 C hP Nat.zero_lt_one h6 dX11_addsPowers_42 ?_
      refine lv_aload_n C.1 C.2.1 dX11_addsPowers_43 rfl (lv_at hl 0 rfl) ?_
      refine lv_iload_n C.1 C.2.1 dX11_addsPowers_44 rfl (lv_at hl 1 rfl) ?_
      refine lv_iload C.1 C.2.1 dX11_addsPowers_45 (lv_at hl 4 rfl) ?_
      refine goI (wf := (yw g)) (runV (w := yw g M) (As := [.int v1, .int v4]) (rest := [.long (M.2.1 53 0 ((((62 : Int32) * v3) + v4) : Int32).toNatClampNeg), .int (((62 : Int32) * v3) + v4), .ref (g.2.1 (151 + 0))]) C lkX11_302 (c_X11_powerBy l g C.2.2.2.2.2.2.2.2.2.2 v1 v4  M _ hw) hP hS rfl rfl ⟨Nat.le_of_ble_eq_true rfl, Nat.le_of_ble_eq_true rfl⟩ (xx_40 Nat.zero_lt_one) rfl rfl hl.1 rfl (Nat.le_of_ble_eq_true rfl) dX11_addsPowers_47) hS (fun r7 M7 hw H locs hP hS => ?_)
      refine lv_i2l C.1 C.2.1 dX11_addsPowers_50 rfl ?_
      refine lv_ladd C.1 C.2.1 dX11_addsPowers_51 ?_
      obtain ⟨h8, hw⟩ := hw
      refine as_53 C hP hS Nat.zero_lt_one h8 dX11_addsPowers_52 (fun M8 e8 H locs hP hS => ?_)
      have hw := hw M8 e8
      obtain ⟨x9, e9⟩ : ∃ y : Int32, y = (v4 + 1) := ⟨_, rfl⟩
      have hw := hw x9 e9
      refine lv_iinc (v := x9) (lv' := [(4, .int x9), (0, .ref (g.2.1 (138 + 0))), (1, .int v1), (2, .int v2), (3, .int v3)]) C.1 C.2.1 dX11_addsPowers_53 hl (k := 4) rfl (by rw [e9]; rfl) (by decide) rfl (fun ls hl => ?_)
      refine lv_goto (tgt := 23) C.1 C.2.1 dX11_addsPowers_56 (by decide) ?_
      exact ih v1 v2 v3 x9  _ hw (lv_sub hl [1, 2, 3, 4, 0] rfl) hP hS
def b_X11_addsPowers_7 (Q : Mem → Prop) : Nat → Int32 → Int32 → Int32 → Mem → Prop
  | 0, _, _, _, _ => False
  | n + 1, v1, v2, v3, M => ((15 ≤ v3 → (Q M)) ∧ (¬ 15 ≤ v3 → (p_X11_turnsBack v2 v3 0 M (fun M3 => (∃ n23 : Nat, b_X11_addsPowers_23 Q (fun v1 v2 v3 M => b_X11_addsPowers_7 Q n v1 v2 v3 M) n23 v1 v2 v3 0 M3)))))
set_option maxRecDepth 100000 in
set_option maxHeartbeats 4000000 in
theorem k_X11_addsPowers_7 {p : Program} {l : Launch} {e : Env} {s : State} {m : MethodId} {args : Array Value} {below : List Frame} {meth : Method} {c : Code} {g : Geo} (C : CX g p s m args meth c cX11_addsPowers 5 none RX11) {Q : Mem → Prop} : ∀ (n : Nat) (v1 : Int32) (v2 : Int32) (v3 : Int32) (M : Mem) (hw : b_X11_addsPowers_7 Q n v1 v2 v3 M) {H : Heap} {locs : List Loc} {ls : Array Slot} (hl : lv_has ls 5 [(0, .ref (g.2.1 (138 + 0))), (1, .int v1), (2, .int v2), (3, .int v3)]) (hP : va_P g.1 clz (yw g M) H) (hS : va_S (Af 1 g) s.heap H locs), W p l e ({ frames := 5, cells := 0, slots := 0, locals := 123 } : Room) s m args below meth c H locs 0 0 (MQ below (va_Qv Q (PB g (yw g)) (Af 1 g)) args s 0 0 (Af 1 g)) (F0 m 7 ls []) := by
  intro n
  induction n with
  | zero => intro v1 v2 v3 M hw H locs ls hl hP hS; exact absurd hw (by rw [b_X11_addsPowers_7]; exact fun h => h)
  | succ n ih =>
    intro v1 v2 v3 M hw H locs ls hl hP hS
    rw [b_X11_addsPowers_7] at hw
    refine lv_iload_n C.1 C.2.1 dX11_addsPowers_7 rfl (lv_at hl 3 rfl) ?_
    refine lv_bipush (v := 15) C.1 C.2.1 dX11_addsPowers_8 (by decide) ?_
    refine lv_icmp_ge (tgt := 65) C.1 C.2.1 dX11_addsPowers_10 (by decide) (fun h2 => ?_) (fun h2 => ?_)
    · have hw := hw.1 h2
      exact retV (wf := (yw g)) C hP hS hw dX11_addsPowers_65
    · have hw := hw.2 h2
      refine lv_aload_n C.1 C.2.1 dX11_addsPowers_13 rfl (lv_at hl 0 rfl) ?_
      refine lv_iload_n C.1 C.2.1 dX11_addsPowers_14 rfl (lv_at hl 2 rfl) ?_
      refine lv_iload_n C.1 C.2.1 dX11_addsPowers_15 rfl (lv_at hl 3 rfl) ?_
      refine lv_iconst (v := 0) C.1 C.2.1 dX11_addsPowers_16 (by decide) ?_
      refine goV (wf := (yw g)) (runV (w := yw g M) (As := [.int v2, .int v3, .int 0]) (rest := []) C lkX11_299 (c_X11_turnsBack l g C.2.2.2.2.2.2.2.2.2.2 v2 v3 0  M _ hw) hP hS rfl rfl ⟨Nat.le_of_ble_eq_true rfl, Nat.le_of_ble_eq_true rfl⟩ (xx_40 Nat.zero_lt_one) rfl rfl hl.1 rfl (Nat.le_of_ble_eq_true rfl) dX11_addsPowers_17) hS (fun M3 hw H locs hP hS => ?_)
      refine lv_iconst (v := 0) C.1 C.2.1 dX11_addsPowers_20 (by decide) ?_
      refine lv_istore (lv' := [(4, .int 0), (0, .ref (g.2.1 (138 + 0))), (1, .int v1), (2, .int v2), (3, .int v3)]) C.1 C.2.1 dX11_addsPowers_21 hl (by decide) rfl (fun ls hl => ?_)
      obtain ⟨n9, hw⟩ := hw
      exact k_X11_addsPowers_23 (Q := Q) C (fun v1 v2 v3  M hw H locs ls hl hP hS => ih v1 v2 v3  M hw hl hP hS) n9 v1 v2 v3 0  _ hw (lv_sub hl [1, 2, 3, 4, 0] rfl) hP hS
def p_X11_addsPowers (a1 : Int32) (a2 : Int32) (M : Mem) (Q : Mem → Prop) : Prop := (p_X11_laySamples a2 M (fun M1 => (∃ n7 : Nat, b_X11_addsPowers_7 Q n7 a1 a2 0 M1)))
set_option maxRecDepth 100000 in
set_option maxHeartbeats 4000000 in
theorem c_X11_addsPowers (l : Launch) (g : Geo) (gi : GI g) (a1 : Int32) (a2 : Int32) (M : Mem) (Q : Mem → Prop) (hw : p_X11_addsPowers a1 a2 M Q) : Met l yX11_addsPowers (Cond.code yX11_addsPowers cX11_addsPowers 5 none :: bg) ({ frames := 5, cells := 0, slots := 0, locals := 123 } : Room) (va_Pc [.ref (g.2.1 (138 + 0)), .int a1, .int a2] (PW g (yw g M))) (va_Qv Q (PB g (yw g)) (Af 1 g)) 0 0 (Af 1 g) := by
  refine Met.ofW (cc := cX11_addsPowers) (maxL := 5) (ret := none) (by decide +kernel) rfl ?_
  intro p e s m args below meth c s₁ B hml hv
  obtain ⟨rfl, hv⟩ := hv
  have C := CX.start (own := RX11) B hml rfl gi hv
  have hP := hv.1
  have hS : va_S (Af 1 g) s.heap s.heap [] := va_S.rf
  have hl := lv_entry ([.ref (g.2.1 (138 + 0)), .int a1, .int a2]) (n := 5) (Nat.le_of_ble_eq_true rfl)
  rw [lg_entry_eq]
  generalize (lg_sl ([.ref (g.2.1 (138 + 0)), .int a1, .int a2]) ++ List.replicate (5 - (lg_sl ([.ref (g.2.1 (138 + 0)), .int a1, .int a2])).length) Slot.unset).toArray = ls at hl ⊢
  have hl : lv_has ls 5 [(0, .ref (g.2.1 (138 + 0))), (1, .int a1), (2, .int a2)] := hl
  unfold p_X11_addsPowers at hw
  refine lv_aload_n C.1 C.2.1 dX11_addsPowers_0 rfl (lv_at hl 0 rfl) ?_
  refine lv_iload_n C.1 C.2.1 dX11_addsPowers_1 rfl (lv_at hl 2 rfl) ?_
  refine goV (wf := (yw g)) (runV (w := yw g M) (As := [.int a2]) (rest := []) C lkX11_289 (c_X11_laySamples l g C.2.2.2.2.2.2.2.2.2.2 a2  M _ hw) hP hS rfl rfl ⟨Nat.le_of_ble_eq_true rfl, Nat.le_of_ble_eq_true rfl⟩ (xx_40 Nat.zero_lt_one) rfl rfl hl.1 rfl (Nat.le_of_ble_eq_true rfl) dX11_addsPowers_2) hS (fun M1 hw H locs hP hS => ?_)
  refine lv_iconst (v := 0) C.1 C.2.1 dX11_addsPowers_5 (by decide) ?_
  refine lv_istore_n (lv' := [(3, .int 0), (0, .ref (g.2.1 (138 + 0))), (1, .int a1), (2, .int a2)]) C.1 C.2.1 dX11_addsPowers_6 rfl hl (by decide) rfl (fun ls hl => ?_)
  obtain ⟨n9, hw⟩ := hw
  exact k_X11_addsPowers_7 (Q := Q) C n9 a1 a2 0  _ hw (lv_sub hl [1, 2, 3, 0] rfl) hP hS
def b_X11_laysPeak_109 (Q : Mem → Prop) (k58 : Int32 → Mem → Prop) (v1 : Int32) (M : Mem) : Prop := (∀ x7 : Int32, x7 = (v1 + 1) → (k58 x7 M))
set_option maxRecDepth 100000 in
set_option maxHeartbeats 4000000 in
theorem k_X11_laysPeak_109 {p : Program} {l : Launch} {e : Env} {s : State} {m : MethodId} {args : Array Value} {below : List Frame} {meth : Method} {c : Code} {g : Geo} (C : CX g p s m args meth c cX11_laysPeak 2 none RX11) {Q : Mem → Prop} {k58 : Int32 → Mem → Prop} (hk58 : ∀ (v1 : Int32) (M : Mem), k58 v1 M → ∀ (H : Heap) (locs : List Loc) (ls : Array Slot), lv_has ls 2 [(0, .ref (g.2.1 (138 + 0))), (1, .int v1)] → va_P g.1 clz (yw g M) H → va_S (Af 1 g) s.heap H locs → W p l e ({ frames := 1, cells := 0, slots := 0, locals := 23 } : Room) s m args below meth c H locs 0 0 (MQ below (va_Qv Q (PB g (yw g)) (Af 1 g)) args s 0 0 (Af 1 g)) (F0 m 58 ls [])) (v1 : Int32) (M : Mem) (hw : b_X11_laysPeak_109 Q k58 v1 M) {H : Heap} {locs : List Loc} {ls : Array Slot} (hl : lv_has ls 2 [(0, .ref (g.2.1 (138 + 0))), (1, .int v1)]) (hP : va_P g.1 clz (yw g M) H) (hS : va_S (Af 1 g) s.heap H locs) : W p l e ({ frames := 1, cells := 0, slots := 0, locals := 23 } : Room) s m args below meth c H locs 0 0 (MQ below (va_Qv Q (PB g (yw g)) (Af 1 g)) args s 0 0 (Af 1 g)) (F0 m 109 ls []) := by
  unfold b_X11_laysPeak_109 at hw
  obtain ⟨x7, e7⟩ : ∃ y : Int32, y = (v1 + 1) := ⟨_, rfl⟩
  have hw := hw x7 e7
  refine lv_iinc (v := x7) (lv' := [(1, .int x7), (0, .ref (g.2.1 (138 + 0)))]) C.1 C.2.1 dX11_laysPeak_109 hl (k := 1) rfl (by rw [e7]; rfl) (by decide) rfl (fun ls hl => ?_)
  refine lv_goto (tgt := 58) C.1 C.2.1 dX11_laysPeak_112 (by decide) ?_
  exact hk58 x7  _ hw _ _ _ (lv_sub hl [1, 0] rfl) hP hS
def b_X11_laysPeak_58 (Q : Mem → Prop) : Nat → Int32 → Mem → Prop
  | 0, _, _ => False
  | n + 1, v1, M => ((930 ≤ v1 → (Q M)) ∧ (¬ 930 ≤ v1 → (p_X11_apart ((v1 - v1 / 62 * 62)) (((M.1 40 0 32) - (M.1 40 0 32) / 62 * 62)) 62 M (fun r5 M5 => ((r5 < 3 → (b_X11_laysPeak_109 Q (fun v1 M => b_X11_laysPeak_58 Q n v1 M) v1 M5)) ∧ (¬ r5 < 3 → (vp_in v1 930 ∧ (((lg_cmp (M5.2.1 53 0 (v1 : Int32).toNatClampNeg) (M5.2.1 40 0 33)) ≤ 0 → (b_X11_laysPeak_109 Q (fun v1 M => b_X11_laysPeak_58 Q n v1 M) v1 M5)) ∧ (¬ (lg_cmp (M5.2.1 53 0 (v1 : Int32).toNatClampNeg) (M5.2.1 40 0 33)) ≤ 0 → (vp_in v1 930 ∧ (∀ M11 : Mem, M11 = sL M5 40 0 33 (M5.2.1 53 0 (v1 : Int32).toNatClampNeg) → (b_X11_laysPeak_109 Q (fun v1 M => b_X11_laysPeak_58 Q n v1 M) v1 M11))))))))))))
set_option maxRecDepth 100000 in
set_option maxHeartbeats 4000000 in
theorem k_X11_laysPeak_58 {p : Program} {l : Launch} {e : Env} {s : State} {m : MethodId} {args : Array Value} {below : List Frame} {meth : Method} {c : Code} {g : Geo} (C : CX g p s m args meth c cX11_laysPeak 2 none RX11) {Q : Mem → Prop} : ∀ (n : Nat) (v1 : Int32) (M : Mem) (hw : b_X11_laysPeak_58 Q n v1 M) {H : Heap} {locs : List Loc} {ls : Array Slot} (hl : lv_has ls 2 [(0, .ref (g.2.1 (138 + 0))), (1, .int v1)]) (hP : va_P g.1 clz (yw g M) H) (hS : va_S (Af 1 g) s.heap H locs), W p l e ({ frames := 1, cells := 0, slots := 0, locals := 23 } : Room) s m args below meth c H locs 0 0 (MQ below (va_Qv Q (PB g (yw g)) (Af 1 g)) args s 0 0 (Af 1 g)) (F0 m 58 ls []) := by
  intro n
  induction n with
  | zero => intro v1 M hw H locs ls hl hP hS; exact absurd hw (by rw [b_X11_laysPeak_58]; exact fun h => h)
  | succ n ih =>
    intro v1 M hw H locs ls hl hP hS
    rw [b_X11_laysPeak_58] at hw
    refine lv_iload_n C.1 C.2.1 dX11_laysPeak_58 rfl (lv_at hl 1 rfl) ?_
    refine lv_sipush (v := 930) C.1 C.2.1 dX11_laysPeak_59 (by decide) ?_
    refine lv_icmp_ge (tgt := 115) C.1 C.2.1 dX11_laysPeak_62 (by decide) (fun h4 => ?_) (fun h4 => ?_)
    · have hw := hw.1 h4
      exact retV (wf := (yw g)) C hP hS hw dX11_laysPeak_115
    · have hw := hw.2 h4
      refine lv_iload_n C.1 C.2.1 dX11_laysPeak_65 rfl (lv_at hl 1 rfl) ?_
      refine lv_bipush (v := 62) C.1 C.2.1 dX11_laysPeak_66 (by decide) ?_
      refine lv_irem C.1 C.2.1 dX11_laysPeak_68 (by decide) ?_
      refine lv_aload_n C.1 C.2.1 dX11_laysPeak_69 rfl (lv_at hl 0 rfl) ?_
      refine gX11_311 C hP Nat.zero_lt_one dX11_laysPeak_70 ?_
      refine lv_bipush (v := 62) C.1 C.2.1 dX11_laysPeak_73 (by decide) ?_
      refine lv_irem C.1 C.2.1 dX11_laysPeak_75 (by decide) ?_
      refine lv_bipush (v := 62) C.1 C.2.1 dX11_laysPeak_76 (by decide) ?_
      refine goI (wf := (yw g)) (runS (w := yw g M) (As := [.int (v1 - v1 / 62 * 62), .int ((M.1 40 0 32) - (M.1 40 0 32) / 62 * 62), .int 62]) (rest := []) C lkX11_318 (c_X11_apart l g C.2.2.2.2.2.2.2.2.2.2 ((v1 - v1 / 62 * 62)) (((M.1 40 0 32) - (M.1 40 0 32) / 62 * 62)) 62  M _ hw) hP hS rfl rfl ⟨Nat.le_of_ble_eq_true rfl, Nat.le_of_ble_eq_true rfl⟩ hl.1 rfl (Nat.le_of_ble_eq_true rfl) dX11_laysPeak_78) hS (fun r5 M5 hw H locs hP hS => ?_)
      refine lv_iconst (v := 3) C.1 C.2.1 dX11_laysPeak_81 (by decide) ?_
      refine lv_icmp_lt (tgt := 109) C.1 C.2.1 dX11_laysPeak_82 (by decide) (fun h6 => ?_) (fun h6 => ?_)
      · have hw := hw.1 h6
        exact k_X11_laysPeak_109 (Q := Q) C (fun v1  M hw H locs ls hl hP hS => ih v1  M hw hl hP hS) v1  _ hw (lv_sub hl [0, 1] rfl) hP hS
      · have hw := hw.2 h6
        refine lv_aload_n C.1 C.2.1 dX11_laysPeak_85 rfl (lv_at hl 0 rfl) ?_
        refine gX11_51 C hP Nat.zero_lt_one dX11_laysPeak_86 ?_
        refine lv_iload_n C.1 C.2.1 dX11_laysPeak_89 rfl (lv_at hl 1 rfl) ?_
        obtain ⟨h8, hw⟩ := hw
        refine al_53 C hP Nat.zero_lt_one h8 dX11_laysPeak_90 ?_
        refine lv_aload_n C.1 C.2.1 dX11_laysPeak_91 rfl (lv_at hl 0 rfl) ?_
        refine gX11_314 C hP Nat.zero_lt_one dX11_laysPeak_92 ?_
        refine W.lcmp C.1 C.2.1 dX11_laysPeak_95 ?_
        refine lv_if_le (tgt := 109) C.1 C.2.1 dX11_laysPeak_96 (by decide) (fun h9 => ?_) (fun h9 => ?_)
        · have hw := hw.1 h9
          exact k_X11_laysPeak_109 (Q := Q) C (fun v1  M hw H locs ls hl hP hS => ih v1  M hw hl hP hS) v1  _ hw (lv_sub hl [0, 1] rfl) hP hS
        · have hw := hw.2 h9
          refine lv_aload_n C.1 C.2.1 dX11_laysPeak_99 rfl (lv_at hl 0 rfl) ?_
          refine lv_aload_n C.1 C.2.1 dX11_laysPeak_100 rfl (lv_at hl 0 rfl) ?_
          refine gX11_51 C hP Nat.zero_lt_one dX11_laysPeak_101 ?_
          refine lv_iload_n C.1 C.2.1 dX11_laysPeak_104 rfl (lv_at hl 1 rfl) ?_
          obtain ⟨h10, hw⟩ := hw
          refine al_53 C hP Nat.zero_lt_one h10 dX11_laysPeak_105 ?_
          refine pX11_314 C hP hS Nat.zero_lt_one dX11_laysPeak_106 (fun M11 e11 H locs hP hS => ?_)
          have hw := hw M11 e11
          exact k_X11_laysPeak_109 (Q := Q) C (fun v1  M hw H locs ls hl hP hS => ih v1  M hw hl hP hS) v1  _ hw (lv_sub hl [0, 1] rfl) hP hS
def b_X11_laysPeak_56 (Q : Mem → Prop) (M : Mem) : Prop := (∃ n58 : Nat, b_X11_laysPeak_58 Q n58 0 M)
set_option maxRecDepth 100000 in
set_option maxHeartbeats 4000000 in
theorem k_X11_laysPeak_56 {p : Program} {l : Launch} {e : Env} {s : State} {m : MethodId} {args : Array Value} {below : List Frame} {meth : Method} {c : Code} {g : Geo} (C : CX g p s m args meth c cX11_laysPeak 2 none RX11) {Q : Mem → Prop} (M : Mem) (hw : b_X11_laysPeak_56 Q M) {H : Heap} {locs : List Loc} {ls : Array Slot} (hl : lv_has ls 2 [(0, .ref (g.2.1 (138 + 0)))]) (hP : va_P g.1 clz (yw g M) H) (hS : va_S (Af 1 g) s.heap H locs) : W p l e ({ frames := 1, cells := 0, slots := 0, locals := 23 } : Room) s m args below meth c H locs 0 0 (MQ below (va_Qv Q (PB g (yw g)) (Af 1 g)) args s 0 0 (Af 1 g)) (F0 m 56 ls []) := by
  unfold b_X11_laysPeak_56 at hw
  refine lv_iconst (v := 0) C.1 C.2.1 dX11_laysPeak_56 (by decide) ?_
  refine lv_istore_n (lv' := [(1, .int 0), (0, .ref (g.2.1 (138 + 0)))]) C.1 C.2.1 dX11_laysPeak_57 rfl hl (by decide) rfl (fun ls hl => ?_)
  obtain ⟨n9, hw⟩ := hw
  exact k_X11_laysPeak_58 (Q := Q) C n9 0  _ hw (lv_sub hl [1, 0] rfl) hP hS
def b_X11_laysPeak_47 (Q : Mem → Prop) (k12 : Int32 → Mem → Prop) (v1 : Int32) (s1 : Int32) (M : Mem) : Prop := (∀ M15 : Mem, M15 = sI M 40 0 32 s1 → (∀ x16 : Int32, x16 = (v1 + 1) → (k12 x16 M15)))
set_option maxRecDepth 100000 in
set_option maxHeartbeats 4000000 in
theorem k_X11_laysPeak_47 {p : Program} {l : Launch} {e : Env} {s : State} {m : MethodId} {args : Array Value} {below : List Frame} {meth : Method} {c : Code} {g : Geo} (C : CX g p s m args meth c cX11_laysPeak 2 none RX11) {Q : Mem → Prop} {k12 : Int32 → Mem → Prop} (hk12 : ∀ (v1 : Int32) (M : Mem), k12 v1 M → ∀ (H : Heap) (locs : List Loc) (ls : Array Slot), lv_has ls 2 [(0, .ref (g.2.1 (138 + 0))), (1, .int v1)] → va_P g.1 clz (yw g M) H → va_S (Af 1 g) s.heap H locs → W p l e ({ frames := 1, cells := 0, slots := 0, locals := 23 } : Room) s m args below meth c H locs 0 0 (MQ below (va_Qv Q (PB g (yw g)) (Af 1 g)) args s 0 0 (Af 1 g)) (F0 m 12 ls [])) (v1 : Int32) (s1 : Int32) (M : Mem) (hw : b_X11_laysPeak_47 Q k12 v1 s1 M) {H : Heap} {locs : List Loc} {ls : Array Slot} (hl : lv_has ls 2 [(0, .ref (g.2.1 (138 + 0))), (1, .int v1)]) (hP : va_P g.1 clz (yw g M) H) (hS : va_S (Af 1 g) s.heap H locs) : W p l e ({ frames := 1, cells := 0, slots := 0, locals := 23 } : Room) s m args below meth c H locs 0 0 (MQ below (va_Qv Q (PB g (yw g)) (Af 1 g)) args s 0 0 (Af 1 g)) (F0 m 47 ls [.int s1, .ref (g.2.1 (138 + 0))]) := by
  unfold b_X11_laysPeak_47 at hw
  refine pX11_311 C hP hS Nat.zero_lt_one dX11_laysPeak_47 (fun M15 e15 H locs hP hS => ?_)
  have hw := hw M15 e15
  obtain ⟨x16, e16⟩ : ∃ y : Int32, y = (v1 + 1) := ⟨_, rfl⟩
  have hw := hw x16 e16
  refine lv_iinc (v := x16) (lv' := [(1, .int x16), (0, .ref (g.2.1 (138 + 0)))]) C.1 C.2.1 dX11_laysPeak_50 hl (k := 1) rfl (by rw [e16]; rfl) (by decide) rfl (fun ls hl => ?_)
  refine lv_goto (tgt := 12) C.1 C.2.1 dX11_laysPeak_53 (by decide) ?_
  exact hk12 x16  _ hw _ _ _ (lv_sub hl [1, 0] rfl) hP hS
def b_X11_laysPeak_12 (Q : Mem → Prop) : Nat → Int32 → Mem → Prop
  | 0, _, _ => False
  | n + 1, v1, M => ((930 ≤ v1 → (b_X11_laysPeak_56 Q  M)) ∧ (¬ 930 ≤ v1 → (vp_in v1 930 ∧ (vp_in (M.1 40 0 32) 930 ∧ (((lg_cmp (M.2.1 53 0 (v1 : Int32).toNatClampNeg) (M.2.1 53 0 ((M.1 40 0 32) : Int32).toNatClampNeg)) ≤ 0 → (b_X11_laysPeak_47 Q (fun v1 M => b_X11_laysPeak_12 Q n v1 M) v1 ((M.1 40 0 32)) M)) ∧ (¬ (lg_cmp (M.2.1 53 0 (v1 : Int32).toNatClampNeg) (M.2.1 53 0 ((M.1 40 0 32) : Int32).toNatClampNeg)) ≤ 0 → (b_X11_laysPeak_47 Q (fun v1 M => b_X11_laysPeak_12 Q n v1 M) v1 v1 M)))))))
set_option maxRecDepth 100000 in
set_option maxHeartbeats 4000000 in
theorem k_X11_laysPeak_12 {p : Program} {l : Launch} {e : Env} {s : State} {m : MethodId} {args : Array Value} {below : List Frame} {meth : Method} {c : Code} {g : Geo} (C : CX g p s m args meth c cX11_laysPeak 2 none RX11) {Q : Mem → Prop} : ∀ (n : Nat) (v1 : Int32) (M : Mem) (hw : b_X11_laysPeak_12 Q n v1 M) {H : Heap} {locs : List Loc} {ls : Array Slot} (hl : lv_has ls 2 [(0, .ref (g.2.1 (138 + 0))), (1, .int v1)]) (hP : va_P g.1 clz (yw g M) H) (hS : va_S (Af 1 g) s.heap H locs), W p l e ({ frames := 1, cells := 0, slots := 0, locals := 23 } : Room) s m args below meth c H locs 0 0 (MQ below (va_Qv Q (PB g (yw g)) (Af 1 g)) args s 0 0 (Af 1 g)) (F0 m 12 ls []) := by
  intro n
  induction n with
  | zero => intro v1 M hw H locs ls hl hP hS; exact absurd hw (by rw [b_X11_laysPeak_12]; exact fun h => h)
  | succ n ih =>
    intro v1 M hw H locs ls hl hP hS
    rw [b_X11_laysPeak_12] at hw
    refine lv_iload_n C.1 C.2.1 dX11_laysPeak_12 rfl (lv_at hl 1 rfl) ?_
    refine lv_sipush (v := 930) C.1 C.2.1 dX11_laysPeak_13 (by decide) ?_
    refine lv_icmp_ge (tgt := 56) C.1 C.2.1 dX11_laysPeak_16 (by decide) (fun h3 => ?_) (fun h3 => ?_)
    · have hw := hw.1 h3
      exact k_X11_laysPeak_56 (Q := Q) C   _ hw (lv_sub hl [0] rfl) hP hS
    · have hw := hw.2 h3
      refine lv_aload_n C.1 C.2.1 dX11_laysPeak_19 rfl (lv_at hl 0 rfl) ?_
      refine lv_aload_n C.1 C.2.1 dX11_laysPeak_20 rfl (lv_at hl 0 rfl) ?_
      refine gX11_51 C hP Nat.zero_lt_one dX11_laysPeak_21 ?_
      refine lv_iload_n C.1 C.2.1 dX11_laysPeak_24 rfl (lv_at hl 1 rfl) ?_
      obtain ⟨h12, hw⟩ := hw
      refine al_53 C hP Nat.zero_lt_one h12 dX11_laysPeak_25 ?_
      refine lv_aload_n C.1 C.2.1 dX11_laysPeak_26 rfl (lv_at hl 0 rfl) ?_
      refine gX11_51 C hP Nat.zero_lt_one dX11_laysPeak_27 ?_
      refine lv_aload_n C.1 C.2.1 dX11_laysPeak_30 rfl (lv_at hl 0 rfl) ?_
      refine gX11_311 C hP Nat.zero_lt_one dX11_laysPeak_31 ?_
      obtain ⟨h13, hw⟩ := hw
      refine al_53 C hP Nat.zero_lt_one h13 dX11_laysPeak_34 ?_
      refine W.lcmp C.1 C.2.1 dX11_laysPeak_35 ?_
      refine lv_if_le (tgt := 43) C.1 C.2.1 dX11_laysPeak_36 (by decide) (fun h14 => ?_) (fun h14 => ?_)
      · have hw := hw.1 h14
        refine lv_aload_n C.1 C.2.1 dX11_laysPeak_43 rfl (lv_at hl 0 rfl) ?_
        refine gX11_311 C hP Nat.zero_lt_one dX11_laysPeak_44 ?_
        exact k_X11_laysPeak_47 (Q := Q) C (fun v1  M hw H locs ls hl hP hS => ih v1  M hw hl hP hS) v1 ((M.1 40 0 32))  _ hw (lv_sub hl [0, 1] rfl) hP hS
      · have hw := hw.2 h14
        refine lv_iload_n C.1 C.2.1 dX11_laysPeak_39 rfl (lv_at hl 1 rfl) ?_
        refine lv_goto (tgt := 47) C.1 C.2.1 dX11_laysPeak_40 (by decide) ?_
        exact k_X11_laysPeak_47 (Q := Q) C (fun v1  M hw H locs ls hl hP hS => ih v1  M hw hl hP hS) v1 v1  _ hw (lv_sub hl [0, 1] rfl) hP hS
def p_X11_laysPeak (M : Mem) (Q : Mem → Prop) : Prop := (∀ M1 : Mem, M1 = sI M 40 0 32 0 → (∀ M2 : Mem, M2 = sL M1 40 0 33 0 → (∃ n12 : Nat, b_X11_laysPeak_12 Q n12 1 M2)))
set_option maxRecDepth 100000 in
set_option maxHeartbeats 4000000 in
theorem c_X11_laysPeak (l : Launch) (g : Geo) (gi : GI g) (M : Mem) (Q : Mem → Prop) (hw : p_X11_laysPeak  M Q) : Met l yX11_laysPeak (Cond.code yX11_laysPeak cX11_laysPeak 2 none :: bg) ({ frames := 1, cells := 0, slots := 0, locals := 23 } : Room) (va_Pc [.ref (g.2.1 (138 + 0))] (PW g (yw g M))) (va_Qv Q (PB g (yw g)) (Af 1 g)) 0 0 (Af 1 g) := by
  refine Met.ofW (cc := cX11_laysPeak) (maxL := 2) (ret := none) (by decide +kernel) rfl ?_
  intro p e s m args below meth c s₁ B hml hv
  obtain ⟨rfl, hv⟩ := hv
  have C := CX.start (own := RX11) B hml rfl gi hv
  have hP := hv.1
  have hS : va_S (Af 1 g) s.heap s.heap [] := va_S.rf
  have hl := lv_entry ([.ref (g.2.1 (138 + 0))]) (n := 2) (Nat.le_of_ble_eq_true rfl)
  rw [lg_entry_eq]
  generalize (lg_sl ([.ref (g.2.1 (138 + 0))]) ++ List.replicate (2 - (lg_sl ([.ref (g.2.1 (138 + 0))])).length) Slot.unset).toArray = ls at hl ⊢
  have hl : lv_has ls 2 [(0, .ref (g.2.1 (138 + 0)))] := hl
  unfold p_X11_laysPeak at hw
  refine lv_aload_n C.1 C.2.1 dX11_laysPeak_0 rfl (lv_at hl 0 rfl) ?_
  refine lv_iconst (v := 0) C.1 C.2.1 dX11_laysPeak_1 (by decide) ?_
  refine pX11_311 C hP hS Nat.zero_lt_one dX11_laysPeak_2 (fun M1 e1 H locs hP hS => ?_)
  have hw := hw M1 e1
  refine lv_aload_n C.1 C.2.1 dX11_laysPeak_5 rfl (lv_at hl 0 rfl) ?_
  refine lv_lconst (v := 0) C.1 C.2.1 dX11_laysPeak_6 (by decide) ?_
  refine pX11_314 C hP hS Nat.zero_lt_one dX11_laysPeak_7 (fun M2 e2 H locs hP hS => ?_)
  have hw := hw M2 e2
  refine lv_iconst (v := 1) C.1 C.2.1 dX11_laysPeak_10 (by decide) ?_
  refine lv_istore_n (lv' := [(1, .int 1), (0, .ref (g.2.1 (138 + 0)))]) C.1 C.2.1 dX11_laysPeak_11 rfl hl (by decide) rfl (fun ls hl => ?_)
  obtain ⟨n9, hw⟩ := hw
  exact k_X11_laysPeak_12 (Q := Q) C n9 1  _ hw (lv_sub hl [1, 0] rfl) hP hS
def b_X11_hunts_49 (Q : Mem → Prop) (M : Mem) : Prop := (p_X11_laysPeak  M (fun M3 => (Q M3)))
set_option maxRecDepth 100000 in
set_option maxHeartbeats 4000000 in
theorem k_X11_hunts_49 {p : Program} {l : Launch} {e : Env} {s : State} {m : MethodId} {args : Array Value} {below : List Frame} {meth : Method} {c : Code} {g : Geo} (C : CX g p s m args meth c cX11_hunts 5 none RX11) {Q : Mem → Prop} (M : Mem) (hw : b_X11_hunts_49 Q M) {H : Heap} {locs : List Loc} {ls : Array Slot} (hl : lv_has ls 5 [(0, .ref (g.2.1 (138 + 0)))]) (hP : va_P g.1 clz (yw g M) H) (hS : va_S (Af 1 g) s.heap H locs) : W p l e ({ frames := 6, cells := 0, slots := 0, locals := 147 } : Room) s m args below meth c H locs 0 0 (MQ below (va_Qv Q (PB g (yw g)) (Af 1 g)) args s 0 0 (Af 1 g)) (F0 m 49 ls []) := by
  unfold b_X11_hunts_49 at hw
  refine lv_aload_n C.1 C.2.1 dX11_hunts_49 rfl (lv_at hl 0 rfl) ?_
  refine goV (wf := (yw g)) (runV (w := yw g M) (As := []) (rest := []) C lkX11_308 (c_X11_laysPeak l g C.2.2.2.2.2.2.2.2.2.2   M _ hw) hP hS rfl rfl ⟨Nat.le_of_ble_eq_true rfl, Nat.le_of_ble_eq_true rfl⟩ (xx_40 Nat.zero_lt_one) rfl rfl hl.1 rfl (Nat.le_of_ble_eq_true rfl) dX11_hunts_50) hS (fun M3 hw H locs hP hS => ?_)
  exact retV (wf := (yw g)) C hP hS hw dX11_hunts_53
def b_X11_hunts_28 (Q : Mem → Prop) : Nat → Int32 → Int32 → Int32 → Int32 → Mem → Prop
  | 0, _, _, _, _, _ => False
  | n + 1, v1, v2, v3, v4, M => ((v3 ≤ v4 → (b_X11_hunts_49 Q  M)) ∧ (¬ v3 ≤ v4 → (p_X11_addsPowers v1 ((v2 + v4)) M (fun M4 => (∀ x5 : Int32, x5 = (v4 + 1) → (b_X11_hunts_28 Q n v1 v2 v3 x5 M4))))))
set_option maxRecDepth 100000 in
set_option maxHeartbeats 4000000 in
theorem k_X11_hunts_28 {p : Program} {l : Launch} {e : Env} {s : State} {m : MethodId} {args : Array Value} {below : List Frame} {meth : Method} {c : Code} {g : Geo} (C : CX g p s m args meth c cX11_hunts 5 none RX11) {Q : Mem → Prop} : ∀ (n : Nat) (v1 : Int32) (v2 : Int32) (v3 : Int32) (v4 : Int32) (M : Mem) (hw : b_X11_hunts_28 Q n v1 v2 v3 v4 M) {H : Heap} {locs : List Loc} {ls : Array Slot} (hl : lv_has ls 5 [(0, .ref (g.2.1 (138 + 0))), (1, .int v1), (2, .int v2), (3, .int v3), (4, .int v4)]) (hP : va_P g.1 clz (yw g M) H) (hS : va_S (Af 1 g) s.heap H locs), W p l e ({ frames := 6, cells := 0, slots := 0, locals := 147 } : Room) s m args below meth c H locs 0 0 (MQ below (va_Qv Q (PB g (yw g)) (Af 1 g)) args s 0 0 (Af 1 g)) (F0 m 28 ls []) := by
  intro n
  induction n with
  | zero => intro v1 v2 v3 v4 M hw H locs ls hl hP hS; exact absurd hw (by rw [b_X11_hunts_28]; exact fun h => h)
  | succ n ih =>
    intro v1 v2 v3 v4 M hw H locs ls hl hP hS
    rw [b_X11_hunts_28] at hw
    refine lv_iload C.1 C.2.1 dX11_hunts_28 (lv_at hl 4 rfl) ?_
    refine lv_iload_n C.1 C.2.1 dX11_hunts_30 rfl (lv_at hl 3 rfl) ?_
    refine lv_icmp_ge (tgt := 49) C.1 C.2.1 dX11_hunts_31 (by decide) (fun h2 => ?_) (fun h2 => ?_)
    · have hw := hw.1 h2
      exact k_X11_hunts_49 (Q := Q) C   _ hw (lv_sub hl [0] rfl) hP hS
    · have hw := hw.2 h2
      refine lv_aload_n C.1 C.2.1 dX11_hunts_34 rfl (lv_at hl 0 rfl) ?_
      refine lv_iload_n C.1 C.2.1 dX11_hunts_35 rfl (lv_at hl 1 rfl) ?_
      refine lv_iload_n C.1 C.2.1 dX11_hunts_36 rfl (lv_at hl 2 rfl) ?_
      refine lv_iload C.1 C.2.1 dX11_hunts_37 (lv_at hl 4 rfl) ?_
      refine lv_iadd C.1 C.2.1 dX11_hunts_39 ?_
      refine goV (wf := (yw g)) (runV (w := yw g M) (As := [.int v1, .int (v2 + v4)]) (rest := []) C lkX11_305 (c_X11_addsPowers l g C.2.2.2.2.2.2.2.2.2.2 v1 ((v2 + v4))  M _ hw) hP hS rfl rfl ⟨Nat.le_of_ble_eq_true rfl, Nat.le_of_ble_eq_true rfl⟩ (xx_40 Nat.zero_lt_one) rfl rfl hl.1 rfl (Nat.le_of_ble_eq_true rfl) dX11_hunts_40) hS (fun M4 hw H locs hP hS => ?_)
      obtain ⟨x5, e5⟩ : ∃ y : Int32, y = (v4 + 1) := ⟨_, rfl⟩
      have hw := hw x5 e5
      refine lv_iinc (v := x5) (lv' := [(4, .int x5), (0, .ref (g.2.1 (138 + 0))), (1, .int v1), (2, .int v2), (3, .int v3)]) C.1 C.2.1 dX11_hunts_43 hl (k := 4) rfl (by rw [e5]; rfl) (by decide) rfl (fun ls hl => ?_)
      refine lv_goto (tgt := 28) C.1 C.2.1 dX11_hunts_46 (by decide) ?_
      exact ih v1 v2 v3 x5  _ hw (lv_sub hl [1, 2, 3, 4, 0] rfl) hP hS
def b_X11_hunts_25 (Q : Mem → Prop) (v1 : Int32) (v2 : Int32) (v3 : Int32) (M : Mem) : Prop := (∃ n28 : Nat, b_X11_hunts_28 Q n28 v1 v2 v3 0 M)
set_option maxRecDepth 100000 in
set_option maxHeartbeats 4000000 in
theorem k_X11_hunts_25 {p : Program} {l : Launch} {e : Env} {s : State} {m : MethodId} {args : Array Value} {below : List Frame} {meth : Method} {c : Code} {g : Geo} (C : CX g p s m args meth c cX11_hunts 5 none RX11) {Q : Mem → Prop} (v1 : Int32) (v2 : Int32) (v3 : Int32) (M : Mem) (hw : b_X11_hunts_25 Q v1 v2 v3 M) {H : Heap} {locs : List Loc} {ls : Array Slot} (hl : lv_has ls 5 [(0, .ref (g.2.1 (138 + 0))), (1, .int v1), (2, .int v2), (3, .int v3)]) (hP : va_P g.1 clz (yw g M) H) (hS : va_S (Af 1 g) s.heap H locs) : W p l e ({ frames := 6, cells := 0, slots := 0, locals := 147 } : Room) s m args below meth c H locs 0 0 (MQ below (va_Qv Q (PB g (yw g)) (Af 1 g)) args s 0 0 (Af 1 g)) (F0 m 25 ls []) := by
  unfold b_X11_hunts_25 at hw
  refine lv_iconst (v := 0) C.1 C.2.1 dX11_hunts_25 (by decide) ?_
  refine lv_istore (lv' := [(4, .int 0), (0, .ref (g.2.1 (138 + 0))), (1, .int v1), (2, .int v2), (3, .int v3)]) C.1 C.2.1 dX11_hunts_26 hl (by decide) rfl (fun ls hl => ?_)
  obtain ⟨n9, hw⟩ := hw
  exact k_X11_hunts_28 (Q := Q) C n9 v1 v2 v3 0  _ hw (lv_sub hl [1, 2, 3, 4, 0] rfl) hP hS
def b_X11_hunts_3 (Q : Mem → Prop) : Nat → Int32 → Int32 → Int32 → Int32 → Mem → Prop
  | 0, _, _, _, _, _ => False
  | n + 1, v1, v2, v3, v4, M => ((930 ≤ v4 → (b_X11_hunts_25 Q v1 v2 v3 M)) ∧ (¬ 930 ≤ v4 → (vp_in v4 930 ∧ (∀ M6 : Mem, M6 = sL M 53 0 (v4 : Int32).toNatClampNeg 0 → (∀ x7 : Int32, x7 = (v4 + 1) → (b_X11_hunts_3 Q n v1 v2 v3 x7 M6))))))
set_option maxRecDepth 100000 in
set_option maxHeartbeats 4000000 in
theorem k_X11_hunts_3 {p : Program} {l : Launch} {e : Env} {s : State} {m : MethodId} {args : Array Value} {below : List Frame} {meth : Method} {c : Code} {g : Geo} (C : CX g p s m args meth c cX11_hunts 5 none RX11) {Q : Mem → Prop} : ∀ (n : Nat) (v1 : Int32) (v2 : Int32) (v3 : Int32) (v4 : Int32) (M : Mem) (hw : b_X11_hunts_3 Q n v1 v2 v3 v4 M) {H : Heap} {locs : List Loc} {ls : Array Slot} (hl : lv_has ls 5 [(0, .ref (g.2.1 (138 + 0))), (1, .int v1), (2, .int v2), (3, .int v3), (4, .int v4)]) (hP : va_P g.1 clz (yw g M) H) (hS : va_S (Af 1 g) s.heap H locs), W p l e ({ frames := 6, cells := 0, slots := 0, locals := 147 } : Room) s m args below meth c H locs 0 0 (MQ below (va_Qv Q (PB g (yw g)) (Af 1 g)) args s 0 0 (Af 1 g)) (F0 m 3 ls []) := by
  intro n
  induction n with
  | zero => intro v1 v2 v3 v4 M hw H locs ls hl hP hS; exact absurd hw (by rw [b_X11_hunts_3]; exact fun h => h)
  | succ n ih =>
    intro v1 v2 v3 v4 M hw H locs ls hl hP hS
    rw [b_X11_hunts_3] at hw
    refine lv_iload C.1 C.2.1 dX11_hunts_3 (lv_at hl 4 rfl) ?_
    refine lv_sipush (v := 930) C.1 C.2.1 dX11_hunts_5 (by decide) ?_
    refine lv_icmp_ge (tgt := 25) C.1 C.2.1 dX11_hunts_8 (by decide) (fun h1 => ?_) (fun h1 => ?_)
    · have hw := hw.1 h1
      exact k_X11_hunts_25 (Q := Q) C v1 v2 v3  _ hw (lv_sub hl [0, 1, 2, 3] rfl) hP hS
    · have hw := hw.2 h1
      refine lv_aload_n C.1 C.2.1 dX11_hunts_11 rfl (lv_at hl 0 rfl) ?_
      refine gX11_51 C hP Nat.zero_lt_one dX11_hunts_12 ?_
      refine lv_iload C.1 C.2.1 dX11_hunts_15 (lv_at hl 4 rfl) ?_
      refine lv_lconst (v := 0) C.1 C.2.1 dX11_hunts_17 (by decide) ?_
      obtain ⟨h6, hw⟩ := hw
      refine as_53 C hP hS Nat.zero_lt_one h6 dX11_hunts_18 (fun M6 e6 H locs hP hS => ?_)
      have hw := hw M6 e6
      obtain ⟨x7, e7⟩ : ∃ y : Int32, y = (v4 + 1) := ⟨_, rfl⟩
      have hw := hw x7 e7
      refine lv_iinc (v := x7) (lv' := [(4, .int x7), (0, .ref (g.2.1 (138 + 0))), (1, .int v1), (2, .int v2), (3, .int v3)]) C.1 C.2.1 dX11_hunts_19 hl (k := 4) rfl (by rw [e7]; rfl) (by decide) rfl (fun ls hl => ?_)
      refine lv_goto (tgt := 3) C.1 C.2.1 dX11_hunts_22 (by decide) ?_
      exact ih v1 v2 v3 x7  _ hw (lv_sub hl [1, 2, 3, 4, 0] rfl) hP hS
def p_X11_hunts (a1 : Int32) (a2 : Int32) (a3 : Int32) (M : Mem) (Q : Mem → Prop) : Prop := (∃ n3 : Nat, b_X11_hunts_3 Q n3 a1 a2 a3 0 M)
set_option maxRecDepth 100000 in
set_option maxHeartbeats 4000000 in
theorem c_X11_hunts (l : Launch) (g : Geo) (gi : GI g) (a1 : Int32) (a2 : Int32) (a3 : Int32) (M : Mem) (Q : Mem → Prop) (hw : p_X11_hunts a1 a2 a3 M Q) : Met l yX11_hunts (Cond.code yX11_hunts cX11_hunts 5 none :: bg) ({ frames := 6, cells := 0, slots := 0, locals := 147 } : Room) (va_Pc [.ref (g.2.1 (138 + 0)), .int a1, .int a2, .int a3] (PW g (yw g M))) (va_Qv Q (PB g (yw g)) (Af 1 g)) 0 0 (Af 1 g) := by
  refine Met.ofW (cc := cX11_hunts) (maxL := 5) (ret := none) (by decide +kernel) rfl ?_
  intro p e s m args below meth c s₁ B hml hv
  obtain ⟨rfl, hv⟩ := hv
  have C := CX.start (own := RX11) B hml rfl gi hv
  have hP := hv.1
  have hS : va_S (Af 1 g) s.heap s.heap [] := va_S.rf
  have hl := lv_entry ([.ref (g.2.1 (138 + 0)), .int a1, .int a2, .int a3]) (n := 5) (Nat.le_of_ble_eq_true rfl)
  rw [lg_entry_eq]
  generalize (lg_sl ([.ref (g.2.1 (138 + 0)), .int a1, .int a2, .int a3]) ++ List.replicate (5 - (lg_sl ([.ref (g.2.1 (138 + 0)), .int a1, .int a2, .int a3])).length) Slot.unset).toArray = ls at hl ⊢
  have hl : lv_has ls 5 [(0, .ref (g.2.1 (138 + 0))), (1, .int a1), (2, .int a2), (3, .int a3)] := hl
  unfold p_X11_hunts at hw
  refine lv_iconst (v := 0) C.1 C.2.1 dX11_hunts_0 (by decide) ?_
  refine lv_istore (lv' := [(4, .int 0), (0, .ref (g.2.1 (138 + 0))), (1, .int a1), (2, .int a2), (3, .int a3)]) C.1 C.2.1 dX11_hunts_1 hl (by decide) rfl (fun ls hl => ?_)
  obtain ⟨n9, hw⟩ := hw
  exact k_X11_hunts_3 (Q := Q) C n9 a1 a2 a3 0  _ hw (lv_sub hl [1, 2, 3, 4, 0] rfl) hP hS
def p_X11_isAcquired (M : Mem) (Q : Int32 → Mem → Prop) : Prop := (vp_in (M.1 40 0 32) 930 ∧ (((lg_cmp (M.2.1 53 0 ((M.1 40 0 32) : Int32).toNatClampNeg) 0) ≤ 0 → (Q 0 M)) ∧ (¬ (lg_cmp (M.2.1 53 0 ((M.1 40 0 32) : Int32).toNatClampNeg) 0) ≤ 0 → (vp_in (M.1 40 0 32) 930 ∧ (vp_in 11 34 ∧ (((lg_cmp ((10 : Int64) * (M.2.1 53 0 ((M.1 40 0 32) : Int32).toNatClampNeg)) (((M.1 45 0 (11 : Int32).toNatClampNeg) : Int32).toInt64 * (M.2.1 40 0 33))) < 0 → (Q 0 M)) ∧ (¬ (lg_cmp ((10 : Int64) * (M.2.1 53 0 ((M.1 40 0 32) : Int32).toNatClampNeg)) (((M.1 45 0 (11 : Int32).toNatClampNeg) : Int32).toInt64 * (M.2.1 40 0 33))) < 0 → (Q 1 M))))))))
set_option maxRecDepth 100000 in
set_option maxHeartbeats 4000000 in
theorem c_X11_isAcquired (l : Launch) (g : Geo) (gi : GI g) (M : Mem) (Q : Int32 → Mem → Prop) (hw : p_X11_isAcquired  M Q) : Met l yX11_isAcquired (Cond.code yX11_isAcquired cX11_isAcquired 1 (some .boolean) :: bg) ({ frames := 0, cells := 0, slots := 0, locals := 0 } : Room) (va_Pc [.ref (g.2.1 (138 + 0))] (PW g (yw g M))) (va_Qi (fun r M => Q r M ∧ narrow .boolean (.int r) = .int r) (PB g (yw g)) (Af 1 g)) 0 0 (Af 1 g) := by
  refine Met.ofW (cc := cX11_isAcquired) (maxL := 1) (ret := (some .boolean)) (by decide +kernel) rfl ?_
  intro p e s m args below meth c s₁ B hml hv
  obtain ⟨rfl, hv⟩ := hv
  have C := CX.start (own := RX11) B hml rfl gi hv
  have hP := hv.1
  have hS : va_S (Af 1 g) s.heap s.heap [] := va_S.rf
  have hl := lv_entry ([.ref (g.2.1 (138 + 0))]) (n := 1) (Nat.le_of_ble_eq_true rfl)
  rw [lg_entry_eq]
  generalize (lg_sl ([.ref (g.2.1 (138 + 0))]) ++ List.replicate (1 - (lg_sl ([.ref (g.2.1 (138 + 0))])).length) Slot.unset).toArray = ls at hl ⊢
  have hl : lv_has ls 1 [(0, .ref (g.2.1 (138 + 0)))] := hl
  unfold p_X11_isAcquired at hw
  refine lv_aload_n C.1 C.2.1 dX11_isAcquired_0 rfl (lv_at hl 0 rfl) ?_
  refine gX11_51 C hP Nat.zero_lt_one dX11_isAcquired_1 ?_
  refine lv_aload_n C.1 C.2.1 dX11_isAcquired_4 rfl (lv_at hl 0 rfl) ?_
  refine gX11_311 C hP Nat.zero_lt_one dX11_isAcquired_5 ?_
  obtain ⟨h1, hw⟩ := hw
  refine al_53 C hP Nat.zero_lt_one h1 dX11_isAcquired_8 ?_
  refine lv_lconst (v := 0) C.1 C.2.1 dX11_isAcquired_9 (by decide) ?_
  refine W.lcmp C.1 C.2.1 dX11_isAcquired_10 ?_
  refine lv_if_le (tgt := 48) C.1 C.2.1 dX11_isAcquired_11 (by decide) (fun h2 => ?_) (fun h2 => ?_)
  · have hw := hw.1 h2
    refine lv_iconst (v := 0) C.1 C.2.1 dX11_isAcquired_48 (by decide) ?_
    exact retZ (wf := (yw g)) C hP hS rfl hw dX11_isAcquired_49
  · have hw := hw.2 h2
    refine lv_ldc2 (v := 10) C.1 C.2.1 C.2.2.2.2.1 (C.2.2.2.2.2.1 _ (bg_of 1707 (by decide +kernel) rfl)) dX11_isAcquired_14 ?_
    refine lv_aload_n C.1 C.2.1 dX11_isAcquired_17 rfl (lv_at hl 0 rfl) ?_
    refine gX11_51 C hP Nat.zero_lt_one dX11_isAcquired_18 ?_
    refine lv_aload_n C.1 C.2.1 dX11_isAcquired_21 rfl (lv_at hl 0 rfl) ?_
    refine gX11_311 C hP Nat.zero_lt_one dX11_isAcquired_22 ?_
    obtain ⟨h3, hw⟩ := hw
    refine al_53 C hP Nat.zero_lt_one h3 dX11_isAcquired_25 ?_
    refine lv_lmul C.1 C.2.1 dX11_isAcquired_26 ?_
    refine lv_aload_n C.1 C.2.1 dX11_isAcquired_27 rfl (lv_at hl 0 rfl) ?_
    refine gX11_26 C hP Nat.zero_lt_one dX11_isAcquired_28 ?_
    refine lv_bipush (v := 11) C.1 C.2.1 dX11_isAcquired_31 (by decide) ?_
    obtain ⟨h4, hw⟩ := hw
    refine al_45 C hP Nat.zero_lt_one h4 dX11_isAcquired_33 ?_
    refine lv_i2l C.1 C.2.1 dX11_isAcquired_34 rfl ?_
    refine lv_aload_n C.1 C.2.1 dX11_isAcquired_35 rfl (lv_at hl 0 rfl) ?_
    refine gX11_314 C hP Nat.zero_lt_one dX11_isAcquired_36 ?_
    refine lv_lmul C.1 C.2.1 dX11_isAcquired_39 ?_
    refine W.lcmp C.1 C.2.1 dX11_isAcquired_40 ?_
    refine lv_if_lt (tgt := 48) C.1 C.2.1 dX11_isAcquired_41 (by decide) (fun h5 => ?_) (fun h5 => ?_)
    · have hw := hw.1 h5
      refine lv_iconst (v := 0) C.1 C.2.1 dX11_isAcquired_48 (by decide) ?_
      exact retZ (wf := (yw g)) C hP hS rfl hw dX11_isAcquired_49
    · have hw := hw.2 h5
      refine lv_iconst (v := 1) C.1 C.2.1 dX11_isAcquired_44 (by decide) ?_
      refine lv_goto (tgt := 49) C.1 C.2.1 dX11_isAcquired_45 (by decide) ?_
      exact retZ (wf := (yw g)) C hP hS rfl hw dX11_isAcquired_49
def p_X11_isRange (a1 : Int32) (a2 : Int32) (a3 : Int32) (M : Mem) (Q : Int32 → Mem → Prop) : Prop := (p_X11_isBird a1 M (fun r1 M1 => ((r1 = 0 → (Q 0 M1)) ∧ (¬ r1 = 0 → ((a2 < 0 → (Q 0 M1)) ∧ (¬ a2 < 0 → ((((201 : Int32) - a3) ≤ a2 → (Q 0 M1)) ∧ (¬ ((201 : Int32) - a3) ≤ a2 → (Q 1 M1)))))))))
set_option maxRecDepth 100000 in
set_option maxHeartbeats 4000000 in
theorem c_X11_isRange (l : Launch) (g : Geo) (gi : GI g) (a1 : Int32) (a2 : Int32) (a3 : Int32) (M : Mem) (Q : Int32 → Mem → Prop) (hw : p_X11_isRange a1 a2 a3 M Q) : Met l yX11_isRange (Cond.code yX11_isRange cX11_isRange 4 (some .boolean) :: bg) ({ frames := 1, cells := 0, slots := 0, locals := 21 } : Room) (va_Pc [.ref (g.2.1 (138 + 0)), .int a1, .int a2, .int a3] (PW g (yw g M))) (va_Qi (fun r M => Q r M ∧ narrow .boolean (.int r) = .int r) (PB g (yw g)) (Af 1 g)) 0 0 (Af 1 g) := by
  refine Met.ofW (cc := cX11_isRange) (maxL := 4) (ret := (some .boolean)) (by decide +kernel) rfl ?_
  intro p e s m args below meth c s₁ B hml hv
  obtain ⟨rfl, hv⟩ := hv
  have C := CX.start (own := RX11) B hml rfl gi hv
  have hP := hv.1
  have hS : va_S (Af 1 g) s.heap s.heap [] := va_S.rf
  have hl := lv_entry ([.ref (g.2.1 (138 + 0)), .int a1, .int a2, .int a3]) (n := 4) (Nat.le_of_ble_eq_true rfl)
  rw [lg_entry_eq]
  generalize (lg_sl ([.ref (g.2.1 (138 + 0)), .int a1, .int a2, .int a3]) ++ List.replicate (4 - (lg_sl ([.ref (g.2.1 (138 + 0)), .int a1, .int a2, .int a3])).length) Slot.unset).toArray = ls at hl ⊢
  have hl : lv_has ls 4 [(0, .ref (g.2.1 (138 + 0))), (1, .int a1), (2, .int a2), (3, .int a3)] := hl
  unfold p_X11_isRange at hw
  refine lv_aload_n C.1 C.2.1 dX11_isRange_0 rfl (lv_at hl 0 rfl) ?_
  refine lv_iload_n C.1 C.2.1 dX11_isRange_1 rfl (lv_at hl 1 rfl) ?_
  refine goI (wf := (yw g)) (runV (w := yw g M) (As := [.int a1]) (rest := []) C lkX11_216 (c_X11_isBird l g C.2.2.2.2.2.2.2.2.2.2 a1  M _ hw) hP hS rfl rfl ⟨Nat.le_of_ble_eq_true rfl, Nat.le_of_ble_eq_true rfl⟩ (xx_40 Nat.zero_lt_one) rfl rfl hl.1 rfl (Nat.le_of_ble_eq_true rfl) dX11_isRange_2) hS (fun r1 M1 hw H locs hP hS => ?_)
  obtain ⟨hw, hz1⟩ := hw
  refine lv_if_eq (tgt := 25) C.1 C.2.1 dX11_isRange_5 (by decide) (fun h2 => ?_) (fun h2 => ?_)
  · have hw := hw.1 h2
    refine lv_iconst (v := 0) C.1 C.2.1 dX11_isRange_25 (by decide) ?_
    exact retZ (wf := (yw g)) C hP hS rfl hw dX11_isRange_26
  · have hw := hw.2 h2
    refine lv_iload_n C.1 C.2.1 dX11_isRange_8 rfl (lv_at hl 2 rfl) ?_
    refine lv_if_lt (tgt := 25) C.1 C.2.1 dX11_isRange_9 (by decide) (fun h3 => ?_) (fun h3 => ?_)
    · have hw := hw.1 h3
      refine lv_iconst (v := 0) C.1 C.2.1 dX11_isRange_25 (by decide) ?_
      exact retZ (wf := (yw g)) C hP hS rfl hw dX11_isRange_26
    · have hw := hw.2 h3
      refine lv_iload_n C.1 C.2.1 dX11_isRange_12 rfl (lv_at hl 2 rfl) ?_
      refine lv_sipush (v := 201) C.1 C.2.1 dX11_isRange_13 (by decide) ?_
      refine lv_iload_n C.1 C.2.1 dX11_isRange_16 rfl (lv_at hl 3 rfl) ?_
      refine lv_isub C.1 C.2.1 dX11_isRange_17 ?_
      refine lv_icmp_ge (tgt := 25) C.1 C.2.1 dX11_isRange_18 (by decide) (fun h4 => ?_) (fun h4 => ?_)
      · have hw := hw.1 h4
        refine lv_iconst (v := 0) C.1 C.2.1 dX11_isRange_25 (by decide) ?_
        exact retZ (wf := (yw g)) C hP hS rfl hw dX11_isRange_26
      · have hw := hw.2 h4
        refine lv_iconst (v := 1) C.1 C.2.1 dX11_isRange_21 (by decide) ?_
        refine lv_goto (tgt := 26) C.1 C.2.1 dX11_isRange_22 (by decide) ?_
        exact retZ (wf := (yw g)) C hP hS rfl hw dX11_isRange_26
def p_X11_hunt (a1 : Int32) (a2 : Int32) (a3 : Int32) (a4 : Int32) (M : Mem) (Q : Int32 → Mem → Prop) : Prop := (∀ M1 : Mem, M1 = sI M 40 0 2 0 → (p_X11_isIn a3 1 4 M1 (fun r2 M2 => ((r2 = 0 → (Q (-1) M2)) ∧ (¬ r2 = 0 → (p_X11_isRange a1 a2 a3 M2 (fun r4 M4 => ((r4 = 0 → (Q (-1) M4)) ∧ (¬ r4 = 0 → (p_X11_isIn a4 0 3 M4 (fun r6 M6 => ((¬ r6 = 0 → (p_X11_hunts a1 a2 a3 M6 (fun M8 => ((¬ a4 = 0 → ((¬ a4 = 1 → ((¬ a4 = 2 → (p_X11_isAcquired  M8 (fun r12 M12 => ((r12 = 0 → (Q 0 M12)) ∧ (¬ r12 = 0 → (Q 1 M12)))))) ∧ (a4 = 2 → (Q ((M8.2.1 40 0 33) : Int64).toInt32 M8)))) ∧ (a4 = 1 → (vp_in (M8.1 40 0 32) 930 ∧ (Q ((M8.2.1 53 0 ((M8.1 40 0 32) : Int32).toNatClampNeg) : Int64).toInt32 M8))))) ∧ (a4 = 0 → (Q (M8.1 40 0 32) M8)))))) ∧ (r6 = 0 → (Q (-1) M6))))))))))))))
set_option maxRecDepth 100000 in
set_option maxHeartbeats 4000000 in
theorem c_X11_hunt (l : Launch) (g : Geo) (gi : GI g) (a1 : Int32) (a2 : Int32) (a3 : Int32) (a4 : Int32) (M : Mem) (Q : Int32 → Mem → Prop) (hw : p_X11_hunt a1 a2 a3 a4 M Q) : Met l yX11_hunt (Cond.code yX11_hunt cX11_hunt 5 (some .int) :: bg) ({ frames := 7, cells := 0, slots := 0, locals := 171 } : Room) (va_Pc [.ref (g.2.1 (138 + 0)), .int a1, .int a2, .int a3, .int a4] (PW g (yw g M))) (va_Qi Q (PB g (yw g)) (Af 1 g)) 0 0 (Af 1 g) := by
  refine Met.ofW (cc := cX11_hunt) (maxL := 5) (ret := (some .int)) (by decide +kernel) rfl ?_
  intro p e s m args below meth c s₁ B hml hv
  obtain ⟨rfl, hv⟩ := hv
  have C := CX.start (own := RX11) B hml rfl gi hv
  have hP := hv.1
  have hS : va_S (Af 1 g) s.heap s.heap [] := va_S.rf
  have hl := lv_entry ([.ref (g.2.1 (138 + 0)), .int a1, .int a2, .int a3, .int a4]) (n := 5) (Nat.le_of_ble_eq_true rfl)
  rw [lg_entry_eq]
  generalize (lg_sl ([.ref (g.2.1 (138 + 0)), .int a1, .int a2, .int a3, .int a4]) ++ List.replicate (5 - (lg_sl ([.ref (g.2.1 (138 + 0)), .int a1, .int a2, .int a3, .int a4])).length) Slot.unset).toArray = ls at hl ⊢
  have hl : lv_has ls 5 [(0, .ref (g.2.1 (138 + 0))), (1, .int a1), (2, .int a2), (3, .int a3), (4, .int a4)] := hl
  unfold p_X11_hunt at hw
  refine lv_aload_n C.1 C.2.1 dX11_hunt_0 rfl (lv_at hl 0 rfl) ?_
  refine lv_iconst (v := 0) C.1 C.2.1 dX11_hunt_1 (by decide) ?_
  refine pX11_76 C hP hS Nat.zero_lt_one dX11_hunt_2 (fun M1 e1 H locs hP hS => ?_)
  have hw := hw M1 e1
  refine lv_iload_n C.1 C.2.1 dX11_hunt_5 rfl (lv_at hl 3 rfl) ?_
  refine lv_iconst (v := 1) C.1 C.2.1 dX11_hunt_6 (by decide) ?_
  refine lv_iconst (v := 4) C.1 C.2.1 dX11_hunt_7 (by decide) ?_
  refine goI (wf := (yw g)) (runS (w := yw g M1) (As := [.int a3, .int 1, .int 4]) (rest := []) C lkX11_166 (c_X11_isIn l g C.2.2.2.2.2.2.2.2.2.2 a3 1 4  M1 _ hw) hP hS rfl rfl ⟨Nat.le_of_ble_eq_true rfl, Nat.le_of_ble_eq_true rfl⟩ hl.1 rfl (Nat.le_of_ble_eq_true rfl) dX11_hunt_8) hS (fun r2 M2 hw H locs hP hS => ?_)
  obtain ⟨hw, hz2⟩ := hw
  refine lv_if_eq (tgt := 34) C.1 C.2.1 dX11_hunt_11 (by decide) (fun h3 => ?_) (fun h3 => ?_)
  · have hw := hw.1 h3
    refine lv_iconst (v := (-1)) C.1 C.2.1 dX11_hunt_34 (by decide) ?_
    exact retI (wf := (yw g)) C hP hS hw dX11_hunt_35
  · have hw := hw.2 h3
    refine lv_aload_n C.1 C.2.1 dX11_hunt_14 rfl (lv_at hl 0 rfl) ?_
    refine lv_iload_n C.1 C.2.1 dX11_hunt_15 rfl (lv_at hl 1 rfl) ?_
    refine lv_iload_n C.1 C.2.1 dX11_hunt_16 rfl (lv_at hl 2 rfl) ?_
    refine lv_iload_n C.1 C.2.1 dX11_hunt_17 rfl (lv_at hl 3 rfl) ?_
    refine goI (wf := (yw g)) (runV (w := yw g M2) (As := [.int a1, .int a2, .int a3]) (rest := []) C lkX11_323 (c_X11_isRange l g C.2.2.2.2.2.2.2.2.2.2 a1 a2 a3  M2 _ hw) hP hS rfl rfl ⟨Nat.le_of_ble_eq_true rfl, Nat.le_of_ble_eq_true rfl⟩ (xx_40 Nat.zero_lt_one) rfl rfl hl.1 rfl (Nat.le_of_ble_eq_true rfl) dX11_hunt_18) hS (fun r4 M4 hw H locs hP hS => ?_)
    obtain ⟨hw, hz4⟩ := hw
    refine lv_if_eq (tgt := 34) C.1 C.2.1 dX11_hunt_21 (by decide) (fun h5 => ?_) (fun h5 => ?_)
    · have hw := hw.1 h5
      refine lv_iconst (v := (-1)) C.1 C.2.1 dX11_hunt_34 (by decide) ?_
      exact retI (wf := (yw g)) C hP hS hw dX11_hunt_35
    · have hw := hw.2 h5
      refine lv_iload C.1 C.2.1 dX11_hunt_24 (lv_at hl 4 rfl) ?_
      refine lv_iconst (v := 0) C.1 C.2.1 dX11_hunt_26 (by decide) ?_
      refine lv_iconst (v := 3) C.1 C.2.1 dX11_hunt_27 (by decide) ?_
      refine goI (wf := (yw g)) (runS (w := yw g M4) (As := [.int a4, .int 0, .int 3]) (rest := []) C lkX11_166 (c_X11_isIn l g C.2.2.2.2.2.2.2.2.2.2 a4 0 3  M4 _ hw) hP hS rfl rfl ⟨Nat.le_of_ble_eq_true rfl, Nat.le_of_ble_eq_true rfl⟩ hl.1 rfl (Nat.le_of_ble_eq_true rfl) dX11_hunt_28) hS (fun r6 M6 hw H locs hP hS => ?_)
      obtain ⟨hw, hz6⟩ := hw
      refine lv_if_ne (tgt := 36) C.1 C.2.1 dX11_hunt_31 (by decide) (fun h7 => ?_) (fun h7 => ?_)
      · have hw := hw.1 h7
        refine lv_aload_n C.1 C.2.1 dX11_hunt_36 rfl (lv_at hl 0 rfl) ?_
        refine lv_iload_n C.1 C.2.1 dX11_hunt_37 rfl (lv_at hl 1 rfl) ?_
        refine lv_iload_n C.1 C.2.1 dX11_hunt_38 rfl (lv_at hl 2 rfl) ?_
        refine lv_iload_n C.1 C.2.1 dX11_hunt_39 rfl (lv_at hl 3 rfl) ?_
        refine goV (wf := (yw g)) (runV (w := yw g M6) (As := [.int a1, .int a2, .int a3]) (rest := []) C lkX11_326 (c_X11_hunts l g C.2.2.2.2.2.2.2.2.2.2 a1 a2 a3  M6 _ hw) hP hS rfl rfl ⟨Nat.le_of_ble_eq_true rfl, Nat.le_of_ble_eq_true rfl⟩ (xx_40 Nat.zero_lt_one) rfl rfl hl.1 rfl (Nat.le_of_ble_eq_true rfl) dX11_hunt_40) hS (fun M8 hw H locs hP hS => ?_)
        refine lv_iload C.1 C.2.1 dX11_hunt_43 (lv_at hl 4 rfl) ?_
        refine lv_if_ne (tgt := 55) C.1 C.2.1 dX11_hunt_45 (by decide) (fun h9 => ?_) (fun h9 => ?_)
        · have hw := hw.1 h9
          refine lv_iload C.1 C.2.1 dX11_hunt_55 (lv_at hl 4 rfl) ?_
          refine lv_iconst (v := 1) C.1 C.2.1 dX11_hunt_57 (by decide) ?_
          refine lv_icmp_ne (tgt := 74) C.1 C.2.1 dX11_hunt_58 (by decide) (fun h10 => ?_) (fun h10 => ?_)
          · have hw := hw.1 h10
            refine lv_iload C.1 C.2.1 dX11_hunt_74 (lv_at hl 4 rfl) ?_
            refine lv_iconst (v := 2) C.1 C.2.1 dX11_hunt_76 (by decide) ?_
            refine lv_icmp_ne (tgt := 88) C.1 C.2.1 dX11_hunt_77 (by decide) (fun h11 => ?_) (fun h11 => ?_)
            · have hw := hw.1 h11
              refine lv_aload_n C.1 C.2.1 dX11_hunt_88 rfl (lv_at hl 0 rfl) ?_
              refine goI (wf := (yw g)) (runV (w := yw g M8) (As := []) (rest := []) C lkX11_329 (c_X11_isAcquired l g C.2.2.2.2.2.2.2.2.2.2   M8 _ hw) hP hS rfl rfl ⟨Nat.le_of_ble_eq_true rfl, Nat.le_of_ble_eq_true rfl⟩ (xx_40 Nat.zero_lt_one) rfl rfl hl.1 rfl (Nat.le_of_ble_eq_true rfl) dX11_hunt_89) hS (fun r12 M12 hw H locs hP hS => ?_)
              obtain ⟨hw, hz12⟩ := hw
              refine lv_if_eq (tgt := 99) C.1 C.2.1 dX11_hunt_92 (by decide) (fun h13 => ?_) (fun h13 => ?_)
              · have hw := hw.1 h13
                refine lv_iconst (v := 0) C.1 C.2.1 dX11_hunt_99 (by decide) ?_
                exact retI (wf := (yw g)) C hP hS hw dX11_hunt_100
              · have hw := hw.2 h13
                refine lv_iconst (v := 1) C.1 C.2.1 dX11_hunt_95 (by decide) ?_
                refine lv_goto (tgt := 100) C.1 C.2.1 dX11_hunt_96 (by decide) ?_
                exact retI (wf := (yw g)) C hP hS hw dX11_hunt_100
            · have hw := hw.2 h11
              refine lv_aload_n C.1 C.2.1 dX11_hunt_80 rfl (lv_at hl 0 rfl) ?_
              refine gX11_314 C hP Nat.zero_lt_one dX11_hunt_81 ?_
              refine lv_l2i C.1 C.2.1 dX11_hunt_84 rfl ?_
              refine lv_goto (tgt := 100) C.1 C.2.1 dX11_hunt_85 (by decide) ?_
              exact retI (wf := (yw g)) C hP hS hw dX11_hunt_100
          · have hw := hw.2 h10
            refine lv_aload_n C.1 C.2.1 dX11_hunt_61 rfl (lv_at hl 0 rfl) ?_
            refine gX11_51 C hP Nat.zero_lt_one dX11_hunt_62 ?_
            refine lv_aload_n C.1 C.2.1 dX11_hunt_65 rfl (lv_at hl 0 rfl) ?_
            refine gX11_311 C hP Nat.zero_lt_one dX11_hunt_66 ?_
            obtain ⟨h14, hw⟩ := hw
            refine al_53 C hP Nat.zero_lt_one h14 dX11_hunt_69 ?_
            refine lv_l2i C.1 C.2.1 dX11_hunt_70 rfl ?_
            refine lv_goto (tgt := 100) C.1 C.2.1 dX11_hunt_71 (by decide) ?_
            exact retI (wf := (yw g)) C hP hS hw dX11_hunt_100
        · have hw := hw.2 h9
          refine lv_aload_n C.1 C.2.1 dX11_hunt_48 rfl (lv_at hl 0 rfl) ?_
          refine gX11_311 C hP Nat.zero_lt_one dX11_hunt_49 ?_
          refine lv_goto (tgt := 100) C.1 C.2.1 dX11_hunt_52 (by decide) ?_
          exact retI (wf := (yw g)) C hP hS hw dX11_hunt_100
      · have hw := hw.2 h7
        refine lv_iconst (v := (-1)) C.1 C.2.1 dX11_hunt_34 (by decide) ?_
        exact retI (wf := (yw g)) C hP hS hw dX11_hunt_35
def p_X11_isTrue (a1 : Int32) (a2 : Int32) (M : Mem) (Q : Int32 → Mem → Prop) : Prop := (p_X11_birdOf a1 2 M (fun r1 M1 => ((¬ r1 = 1 → (Q 0 M1)) ∧ (r1 = 1 → (p_X11_birdOf a1 4 M1 (fun r3 M3 => (p_X11_startIn a1 a2 M3 (fun r4 M4 => ((¬ (M1.1 40 0 32) = (((62 : Int32) * r3) + (r4 - r4 / 62 * 62)) → (Q 0 M4)) ∧ ((M1.1 40 0 32) = (((62 : Int32) * r3) + (r4 - r4 / 62 * 62)) → (Q 1 M4)))))))))))
set_option maxRecDepth 100000 in
set_option maxHeartbeats 4000000 in
theorem c_X11_isTrue (l : Launch) (g : Geo) (gi : GI g) (a1 : Int32) (a2 : Int32) (M : Mem) (Q : Int32 → Mem → Prop) (hw : p_X11_isTrue a1 a2 M Q) : Met l yX11_isTrue (Cond.code yX11_isTrue cX11_isTrue 3 (some .boolean) :: bg) ({ frames := 2, cells := 0, slots := 0, locals := 44 } : Room) (va_Pc [.ref (g.2.1 (138 + 0)), .int a1, .int a2] (PW g (yw g M))) (va_Qi (fun r M => Q r M ∧ narrow .boolean (.int r) = .int r) (PB g (yw g)) (Af 1 g)) 0 0 (Af 1 g) := by
  refine Met.ofW (cc := cX11_isTrue) (maxL := 3) (ret := (some .boolean)) (by decide +kernel) rfl ?_
  intro p e s m args below meth c s₁ B hml hv
  obtain ⟨rfl, hv⟩ := hv
  have C := CX.start (own := RX11) B hml rfl gi hv
  have hP := hv.1
  have hS : va_S (Af 1 g) s.heap s.heap [] := va_S.rf
  have hl := lv_entry ([.ref (g.2.1 (138 + 0)), .int a1, .int a2]) (n := 3) (Nat.le_of_ble_eq_true rfl)
  rw [lg_entry_eq]
  generalize (lg_sl ([.ref (g.2.1 (138 + 0)), .int a1, .int a2]) ++ List.replicate (3 - (lg_sl ([.ref (g.2.1 (138 + 0)), .int a1, .int a2])).length) Slot.unset).toArray = ls at hl ⊢
  have hl : lv_has ls 3 [(0, .ref (g.2.1 (138 + 0))), (1, .int a1), (2, .int a2)] := hl
  unfold p_X11_isTrue at hw
  refine lv_aload_n C.1 C.2.1 dX11_isTrue_0 rfl (lv_at hl 0 rfl) ?_
  refine lv_iload_n C.1 C.2.1 dX11_isTrue_1 rfl (lv_at hl 1 rfl) ?_
  refine lv_iconst (v := 2) C.1 C.2.1 dX11_isTrue_2 (by decide) ?_
  refine goI (wf := (yw g)) (runV (w := yw g M) (As := [.int a1, .int 2]) (rest := []) C lkX11_160 (c_X11_birdOf l g C.2.2.2.2.2.2.2.2.2.2 a1 2  M _ hw) hP hS rfl rfl ⟨Nat.le_of_ble_eq_true rfl, Nat.le_of_ble_eq_true rfl⟩ (xx_40 Nat.zero_lt_one) rfl rfl hl.1 rfl (Nat.le_of_ble_eq_true rfl) dX11_isTrue_3) hS (fun r1 M1 hw H locs hP hS => ?_)
  refine lv_iconst (v := 1) C.1 C.2.1 dX11_isTrue_6 (by decide) ?_
  refine lv_icmp_ne (tgt := 40) C.1 C.2.1 dX11_isTrue_7 (by decide) (fun h2 => ?_) (fun h2 => ?_)
  · have hw := hw.1 h2
    refine lv_iconst (v := 0) C.1 C.2.1 dX11_isTrue_40 (by decide) ?_
    exact retZ (wf := (yw g)) C hP hS rfl hw dX11_isTrue_41
  · have hw := hw.2 h2
    refine lv_aload_n C.1 C.2.1 dX11_isTrue_10 rfl (lv_at hl 0 rfl) ?_
    refine gX11_311 C hP Nat.zero_lt_one dX11_isTrue_11 ?_
    refine lv_bipush (v := 62) C.1 C.2.1 dX11_isTrue_14 (by decide) ?_
    refine lv_aload_n C.1 C.2.1 dX11_isTrue_16 rfl (lv_at hl 0 rfl) ?_
    refine lv_iload_n C.1 C.2.1 dX11_isTrue_17 rfl (lv_at hl 1 rfl) ?_
    refine lv_iconst (v := 4) C.1 C.2.1 dX11_isTrue_18 (by decide) ?_
    refine goI (wf := (yw g)) (runV (w := yw g M1) (As := [.int a1, .int 4]) (rest := [.int 62, .int (M1.1 40 0 32)]) C lkX11_160 (c_X11_birdOf l g C.2.2.2.2.2.2.2.2.2.2 a1 4  M1 _ hw) hP hS rfl rfl ⟨Nat.le_of_ble_eq_true rfl, Nat.le_of_ble_eq_true rfl⟩ (xx_40 Nat.zero_lt_one) rfl rfl hl.1 rfl (Nat.le_of_ble_eq_true rfl) dX11_isTrue_19) hS (fun r3 M3 hw H locs hP hS => ?_)
    refine lv_imul C.1 C.2.1 dX11_isTrue_22 ?_
    refine lv_aload_n C.1 C.2.1 dX11_isTrue_23 rfl (lv_at hl 0 rfl) ?_
    refine lv_iload_n C.1 C.2.1 dX11_isTrue_24 rfl (lv_at hl 1 rfl) ?_
    refine lv_iload_n C.1 C.2.1 dX11_isTrue_25 rfl (lv_at hl 2 rfl) ?_
    refine goI (wf := (yw g)) (runV (w := yw g M3) (As := [.int a1, .int a2]) (rest := [.int ((62 : Int32) * r3), .int (M1.1 40 0 32)]) C lkX11_277 (c_X11_startIn l g C.2.2.2.2.2.2.2.2.2.2 a1 a2  M3 _ hw) hP hS rfl rfl ⟨Nat.le_of_ble_eq_true rfl, Nat.le_of_ble_eq_true rfl⟩ (xx_40 Nat.zero_lt_one) rfl rfl hl.1 rfl (Nat.le_of_ble_eq_true rfl) dX11_isTrue_26) hS (fun r4 M4 hw H locs hP hS => ?_)
    refine lv_bipush (v := 62) C.1 C.2.1 dX11_isTrue_29 (by decide) ?_
    refine lv_irem C.1 C.2.1 dX11_isTrue_31 (by decide) ?_
    refine lv_iadd C.1 C.2.1 dX11_isTrue_32 ?_
    refine lv_icmp_ne (tgt := 40) C.1 C.2.1 dX11_isTrue_33 (by decide) (fun h5 => ?_) (fun h5 => ?_)
    · have hw := hw.1 h5
      refine lv_iconst (v := 0) C.1 C.2.1 dX11_isTrue_40 (by decide) ?_
      exact retZ (wf := (yw g)) C hP hS rfl hw dX11_isTrue_41
    · have hw := hw.2 h5
      refine lv_iconst (v := 1) C.1 C.2.1 dX11_isTrue_36 (by decide) ?_
      refine lv_goto (tgt := 41) C.1 C.2.1 dX11_isTrue_37 (by decide) ?_
      exact retZ (wf := (yw g)) C hP hS rfl hw dX11_isTrue_41
def b_X11_listen_99 (Q : Int32 → Mem → Prop) (k53 : Int32 → Int32 → Int32 → Mem → Prop) (v1 : Int32) (v2 : Int32) (v3 : Int32) (M : Mem) : Prop := (∀ x13 : Int32, x13 = (v3 + 1) → (k53 v1 v2 x13 M))
set_option maxRecDepth 100000 in
set_option maxHeartbeats 4000000 in
theorem k_X11_listen_99 {p : Program} {l : Launch} {e : Env} {s : State} {m : MethodId} {args : Array Value} {below : List Frame} {meth : Method} {c : Code} {g : Geo} (C : CX g p s m args meth c cX11_listen 4 (some .int) RX11) {Q : Int32 → Mem → Prop} {k53 : Int32 → Int32 → Int32 → Mem → Prop} (hk53 : ∀ (v1 : Int32) (v2 : Int32) (v3 : Int32) (M : Mem), k53 v1 v2 v3 M → ∀ (H : Heap) (locs : List Loc) (ls : Array Slot), lv_has ls 4 [(0, .ref (g.2.1 (138 + 0))), (1, .int v1), (2, .int v2), (3, .int v3)] → va_P g.1 clz (yw g M) H → va_S (Af 1 g) s.heap H locs → W p l e ({ frames := 6, cells := 0, slots := 0, locals := 147 } : Room) s m args below meth c H locs 0 0 (MQ below (va_Qi Q (PB g (yw g)) (Af 1 g)) args s 0 0 (Af 1 g)) (F0 m 53 ls [])) (v1 : Int32) (v2 : Int32) (v3 : Int32) (M : Mem) (hw : b_X11_listen_99 Q k53 v1 v2 v3 M) {H : Heap} {locs : List Loc} {ls : Array Slot} (hl : lv_has ls 4 [(0, .ref (g.2.1 (138 + 0))), (1, .int v1), (2, .int v2), (3, .int v3)]) (hP : va_P g.1 clz (yw g M) H) (hS : va_S (Af 1 g) s.heap H locs) : W p l e ({ frames := 6, cells := 0, slots := 0, locals := 147 } : Room) s m args below meth c H locs 0 0 (MQ below (va_Qi Q (PB g (yw g)) (Af 1 g)) args s 0 0 (Af 1 g)) (F0 m 99 ls []) := by
  unfold b_X11_listen_99 at hw
  obtain ⟨x13, e13⟩ : ∃ y : Int32, y = (v3 + 1) := ⟨_, rfl⟩
  have hw := hw x13 e13
  refine lv_iinc (v := x13) (lv' := [(3, .int x13), (0, .ref (g.2.1 (138 + 0))), (1, .int v1), (2, .int v2)]) C.1 C.2.1 dX11_listen_99 hl (k := 3) rfl (by rw [e13]; rfl) (by decide) rfl (fun ls hl => ?_)
  refine lv_goto (tgt := 53) C.1 C.2.1 dX11_listen_102 (by decide) ?_
  exact hk53 v1 v2 x13  _ hw _ _ _ (lv_sub hl [1, 2, 3, 0] rfl) hP hS
def b_X11_listen_53 (Q : Int32 → Mem → Prop) : Nat → Int32 → Int32 → Int32 → Mem → Prop
  | 0, _, _, _, _ => False
  | n + 1, v1, v2, v3, M => ((4 < v3 → (Q (-3) M)) ∧ (¬ 4 < v3 → ((200 < (v2 + v3) → (Q (-3) M)) ∧ (¬ 200 < (v2 + v3) → (p_X11_addsPowers v1 (((v2 + v3) - 1)) M (fun M9 => (p_X11_laysPeak  M9 (fun M10 => (p_X11_isAcquired  M10 (fun r11 M11 => ((r11 = 0 → (b_X11_listen_99 Q (fun v1 v2 v3 M => b_X11_listen_53 Q n v1 v2 v3 M) v1 v2 v3 M11)) ∧ (¬ r11 = 0 → (p_X11_isTrue v1 v2 M11 (fun r14 M14 => ((r14 = 0 → (b_X11_listen_99 Q (fun v1 v2 v3 M => b_X11_listen_53 Q n v1 v2 v3 M) v1 v2 v3 M14)) ∧ (¬ r14 = 0 → (Q v3 M14)))))))))))))))))
set_option maxRecDepth 100000 in
set_option maxHeartbeats 4000000 in
theorem k_X11_listen_53 {p : Program} {l : Launch} {e : Env} {s : State} {m : MethodId} {args : Array Value} {below : List Frame} {meth : Method} {c : Code} {g : Geo} (C : CX g p s m args meth c cX11_listen 4 (some .int) RX11) {Q : Int32 → Mem → Prop} : ∀ (n : Nat) (v1 : Int32) (v2 : Int32) (v3 : Int32) (M : Mem) (hw : b_X11_listen_53 Q n v1 v2 v3 M) {H : Heap} {locs : List Loc} {ls : Array Slot} (hl : lv_has ls 4 [(0, .ref (g.2.1 (138 + 0))), (1, .int v1), (2, .int v2), (3, .int v3)]) (hP : va_P g.1 clz (yw g M) H) (hS : va_S (Af 1 g) s.heap H locs), W p l e ({ frames := 6, cells := 0, slots := 0, locals := 147 } : Room) s m args below meth c H locs 0 0 (MQ below (va_Qi Q (PB g (yw g)) (Af 1 g)) args s 0 0 (Af 1 g)) (F0 m 53 ls []) := by
  intro n
  induction n with
  | zero => intro v1 v2 v3 M hw H locs ls hl hP hS; exact absurd hw (by rw [b_X11_listen_53]; exact fun h => h)
  | succ n ih =>
    intro v1 v2 v3 M hw H locs ls hl hP hS
    rw [b_X11_listen_53] at hw
    refine lv_iload_n C.1 C.2.1 dX11_listen_53 rfl (lv_at hl 3 rfl) ?_
    refine lv_iconst (v := 4) C.1 C.2.1 dX11_listen_54 (by decide) ?_
    refine lv_icmp_gt (tgt := 105) C.1 C.2.1 dX11_listen_55 (by decide) (fun h7 => ?_) (fun h7 => ?_)
    · have hw := hw.1 h7
      refine lv_bipush (v := (-3)) C.1 C.2.1 dX11_listen_105 (by decide) ?_
      exact retI (wf := (yw g)) C hP hS hw dX11_listen_107
    · have hw := hw.2 h7
      refine lv_iload_n C.1 C.2.1 dX11_listen_58 rfl (lv_at hl 2 rfl) ?_
      refine lv_iload_n C.1 C.2.1 dX11_listen_59 rfl (lv_at hl 3 rfl) ?_
      refine lv_iadd C.1 C.2.1 dX11_listen_60 ?_
      refine lv_sipush (v := 200) C.1 C.2.1 dX11_listen_61 (by decide) ?_
      refine lv_icmp_gt (tgt := 105) C.1 C.2.1 dX11_listen_64 (by decide) (fun h8 => ?_) (fun h8 => ?_)
      · have hw := hw.1 h8
        refine lv_bipush (v := (-3)) C.1 C.2.1 dX11_listen_105 (by decide) ?_
        exact retI (wf := (yw g)) C hP hS hw dX11_listen_107
      · have hw := hw.2 h8
        refine lv_aload_n C.1 C.2.1 dX11_listen_67 rfl (lv_at hl 0 rfl) ?_
        refine lv_iload_n C.1 C.2.1 dX11_listen_68 rfl (lv_at hl 1 rfl) ?_
        refine lv_iload_n C.1 C.2.1 dX11_listen_69 rfl (lv_at hl 2 rfl) ?_
        refine lv_iload_n C.1 C.2.1 dX11_listen_70 rfl (lv_at hl 3 rfl) ?_
        refine lv_iadd C.1 C.2.1 dX11_listen_71 ?_
        refine lv_iconst (v := 1) C.1 C.2.1 dX11_listen_72 (by decide) ?_
        refine lv_isub C.1 C.2.1 dX11_listen_73 ?_
        refine goV (wf := (yw g)) (runV (w := yw g M) (As := [.int v1, .int ((v2 + v3) - 1)]) (rest := []) C lkX11_305 (c_X11_addsPowers l g C.2.2.2.2.2.2.2.2.2.2 v1 (((v2 + v3) - 1))  M _ hw) hP hS rfl rfl ⟨Nat.le_of_ble_eq_true rfl, Nat.le_of_ble_eq_true rfl⟩ (xx_40 Nat.zero_lt_one) rfl rfl hl.1 rfl (Nat.le_of_ble_eq_true rfl) dX11_listen_74) hS (fun M9 hw H locs hP hS => ?_)
        refine lv_aload_n C.1 C.2.1 dX11_listen_77 rfl (lv_at hl 0 rfl) ?_
        refine goV (wf := (yw g)) (runV (w := yw g M9) (As := []) (rest := []) C lkX11_308 (c_X11_laysPeak l g C.2.2.2.2.2.2.2.2.2.2   M9 _ hw) hP hS rfl rfl ⟨Nat.le_of_ble_eq_true rfl, Nat.le_of_ble_eq_true rfl⟩ (xx_40 Nat.zero_lt_one) rfl rfl hl.1 rfl (Nat.le_of_ble_eq_true rfl) dX11_listen_78) hS (fun M10 hw H locs hP hS => ?_)
        refine lv_aload_n C.1 C.2.1 dX11_listen_81 rfl (lv_at hl 0 rfl) ?_
        refine goI (wf := (yw g)) (runV (w := yw g M10) (As := []) (rest := []) C lkX11_329 (c_X11_isAcquired l g C.2.2.2.2.2.2.2.2.2.2   M10 _ hw) hP hS rfl rfl ⟨Nat.le_of_ble_eq_true rfl, Nat.le_of_ble_eq_true rfl⟩ (xx_40 Nat.zero_lt_one) rfl rfl hl.1 rfl (Nat.le_of_ble_eq_true rfl) dX11_listen_82) hS (fun r11 M11 hw H locs hP hS => ?_)
        obtain ⟨hw, hz11⟩ := hw
        refine lv_if_eq (tgt := 99) C.1 C.2.1 dX11_listen_85 (by decide) (fun h12 => ?_) (fun h12 => ?_)
        · have hw := hw.1 h12
          exact k_X11_listen_99 (Q := Q) C (fun v1 v2 v3  M hw H locs ls hl hP hS => ih v1 v2 v3  M hw hl hP hS) v1 v2 v3  _ hw (lv_sub hl [0, 1, 2, 3] rfl) hP hS
        · have hw := hw.2 h12
          refine lv_aload_n C.1 C.2.1 dX11_listen_88 rfl (lv_at hl 0 rfl) ?_
          refine lv_iload_n C.1 C.2.1 dX11_listen_89 rfl (lv_at hl 1 rfl) ?_
          refine lv_iload_n C.1 C.2.1 dX11_listen_90 rfl (lv_at hl 2 rfl) ?_
          refine goI (wf := (yw g)) (runV (w := yw g M11) (As := [.int v1, .int v2]) (rest := []) C lkX11_332 (c_X11_isTrue l g C.2.2.2.2.2.2.2.2.2.2 v1 v2  M11 _ hw) hP hS rfl rfl ⟨Nat.le_of_ble_eq_true rfl, Nat.le_of_ble_eq_true rfl⟩ (xx_40 Nat.zero_lt_one) rfl rfl hl.1 rfl (Nat.le_of_ble_eq_true rfl) dX11_listen_91) hS (fun r14 M14 hw H locs hP hS => ?_)
          obtain ⟨hw, hz14⟩ := hw
          refine lv_if_eq (tgt := 99) C.1 C.2.1 dX11_listen_94 (by decide) (fun h15 => ?_) (fun h15 => ?_)
          · have hw := hw.1 h15
            exact k_X11_listen_99 (Q := Q) C (fun v1 v2 v3  M hw H locs ls hl hP hS => ih v1 v2 v3  M hw hl hP hS) v1 v2 v3  _ hw (lv_sub hl [0, 1, 2, 3] rfl) hP hS
          · have hw := hw.2 h15
            refine lv_iload_n C.1 C.2.1 dX11_listen_97 rfl (lv_at hl 3 rfl) ?_
            exact retI (wf := (yw g)) C hP hS hw dX11_listen_98
def b_X11_listen_51 (Q : Int32 → Mem → Prop) (v1 : Int32) (v2 : Int32) (M : Mem) : Prop := (∃ n53 : Nat, b_X11_listen_53 Q n53 v1 v2 1 M)
set_option maxRecDepth 100000 in
set_option maxHeartbeats 4000000 in
theorem k_X11_listen_51 {p : Program} {l : Launch} {e : Env} {s : State} {m : MethodId} {args : Array Value} {below : List Frame} {meth : Method} {c : Code} {g : Geo} (C : CX g p s m args meth c cX11_listen 4 (some .int) RX11) {Q : Int32 → Mem → Prop} (v1 : Int32) (v2 : Int32) (M : Mem) (hw : b_X11_listen_51 Q v1 v2 M) {H : Heap} {locs : List Loc} {ls : Array Slot} (hl : lv_has ls 4 [(0, .ref (g.2.1 (138 + 0))), (1, .int v1), (2, .int v2)]) (hP : va_P g.1 clz (yw g M) H) (hS : va_S (Af 1 g) s.heap H locs) : W p l e ({ frames := 6, cells := 0, slots := 0, locals := 147 } : Room) s m args below meth c H locs 0 0 (MQ below (va_Qi Q (PB g (yw g)) (Af 1 g)) args s 0 0 (Af 1 g)) (F0 m 51 ls []) := by
  unfold b_X11_listen_51 at hw
  refine lv_iconst (v := 1) C.1 C.2.1 dX11_listen_51 (by decide) ?_
  refine lv_istore_n (lv' := [(3, .int 1), (0, .ref (g.2.1 (138 + 0))), (1, .int v1), (2, .int v2)]) C.1 C.2.1 dX11_listen_52 rfl hl (by decide) rfl (fun ls hl => ?_)
  obtain ⟨n9, hw⟩ := hw
  exact k_X11_listen_53 (Q := Q) C n9 v1 v2 1  _ hw (lv_sub hl [1, 2, 3, 0] rfl) hP hS
def b_X11_listen_31 (Q : Int32 → Mem → Prop) : Nat → Int32 → Int32 → Int32 → Mem → Prop
  | 0, _, _, _, _ => False
  | n + 1, v1, v2, v3, M => ((930 ≤ v3 → (b_X11_listen_51 Q v1 v2 M)) ∧ (¬ 930 ≤ v3 → (vp_in v3 930 ∧ (∀ M16 : Mem, M16 = sL M 53 0 (v3 : Int32).toNatClampNeg 0 → (∀ x17 : Int32, x17 = (v3 + 1) → (b_X11_listen_31 Q n v1 v2 x17 M16))))))
set_option maxRecDepth 100000 in
set_option maxHeartbeats 4000000 in
theorem k_X11_listen_31 {p : Program} {l : Launch} {e : Env} {s : State} {m : MethodId} {args : Array Value} {below : List Frame} {meth : Method} {c : Code} {g : Geo} (C : CX g p s m args meth c cX11_listen 4 (some .int) RX11) {Q : Int32 → Mem → Prop} : ∀ (n : Nat) (v1 : Int32) (v2 : Int32) (v3 : Int32) (M : Mem) (hw : b_X11_listen_31 Q n v1 v2 v3 M) {H : Heap} {locs : List Loc} {ls : Array Slot} (hl : lv_has ls 4 [(0, .ref (g.2.1 (138 + 0))), (1, .int v1), (2, .int v2), (3, .int v3)]) (hP : va_P g.1 clz (yw g M) H) (hS : va_S (Af 1 g) s.heap H locs), W p l e ({ frames := 6, cells := 0, slots := 0, locals := 147 } : Room) s m args below meth c H locs 0 0 (MQ below (va_Qi Q (PB g (yw g)) (Af 1 g)) args s 0 0 (Af 1 g)) (F0 m 31 ls []) := by
  intro n
  induction n with
  | zero => intro v1 v2 v3 M hw H locs ls hl hP hS; exact absurd hw (by rw [b_X11_listen_31]; exact fun h => h)
  | succ n ih =>
    intro v1 v2 v3 M hw H locs ls hl hP hS
    rw [b_X11_listen_31] at hw
    refine lv_iload_n C.1 C.2.1 dX11_listen_31 rfl (lv_at hl 3 rfl) ?_
    refine lv_sipush (v := 930) C.1 C.2.1 dX11_listen_32 (by decide) ?_
    refine lv_icmp_ge (tgt := 51) C.1 C.2.1 dX11_listen_35 (by decide) (fun h6 => ?_) (fun h6 => ?_)
    · have hw := hw.1 h6
      exact k_X11_listen_51 (Q := Q) C v1 v2  _ hw (lv_sub hl [0, 1, 2] rfl) hP hS
    · have hw := hw.2 h6
      refine lv_aload_n C.1 C.2.1 dX11_listen_38 rfl (lv_at hl 0 rfl) ?_
      refine gX11_51 C hP Nat.zero_lt_one dX11_listen_39 ?_
      refine lv_iload_n C.1 C.2.1 dX11_listen_42 rfl (lv_at hl 3 rfl) ?_
      refine lv_lconst (v := 0) C.1 C.2.1 dX11_listen_43 (by decide) ?_
      obtain ⟨h16, hw⟩ := hw
      refine as_53 C hP hS Nat.zero_lt_one h16 dX11_listen_44 (fun M16 e16 H locs hP hS => ?_)
      have hw := hw M16 e16
      obtain ⟨x17, e17⟩ : ∃ y : Int32, y = (v3 + 1) := ⟨_, rfl⟩
      have hw := hw x17 e17
      refine lv_iinc (v := x17) (lv' := [(3, .int x17), (0, .ref (g.2.1 (138 + 0))), (1, .int v1), (2, .int v2)]) C.1 C.2.1 dX11_listen_45 hl (k := 3) rfl (by rw [e17]; rfl) (by decide) rfl (fun ls hl => ?_)
      refine lv_goto (tgt := 31) C.1 C.2.1 dX11_listen_48 (by decide) ?_
      exact ih v1 v2 x17  _ hw (lv_sub hl [1, 2, 3, 0] rfl) hP hS
def p_X11_listen (a1 : Int32) (a2 : Int32) (M : Mem) (Q : Int32 → Mem → Prop) : Prop := (∀ M1 : Mem, M1 = sI M 40 0 2 0 → (p_X11_isRange a1 a2 1 M1 (fun r2 M2 => ((¬ r2 = 0 → (p_X11_birdOf a1 2 M2 (fun r4 M4 => ((¬ r4 = 0 → (∃ n31 : Nat, b_X11_listen_31 Q n31 a1 a2 0 M4)) ∧ (r4 = 0 → (Q (-2) M4)))))) ∧ (r2 = 0 → (Q (-1) M2))))))
set_option maxRecDepth 100000 in
set_option maxHeartbeats 4000000 in
theorem c_X11_listen (l : Launch) (g : Geo) (gi : GI g) (a1 : Int32) (a2 : Int32) (M : Mem) (Q : Int32 → Mem → Prop) (hw : p_X11_listen a1 a2 M Q) : Met l yX11_listen (Cond.code yX11_listen cX11_listen 4 (some .int) :: bg) ({ frames := 6, cells := 0, slots := 0, locals := 147 } : Room) (va_Pc [.ref (g.2.1 (138 + 0)), .int a1, .int a2] (PW g (yw g M))) (va_Qi Q (PB g (yw g)) (Af 1 g)) 0 0 (Af 1 g) := by
  refine Met.ofW (cc := cX11_listen) (maxL := 4) (ret := (some .int)) (by decide +kernel) rfl ?_
  intro p e s m args below meth c s₁ B hml hv
  obtain ⟨rfl, hv⟩ := hv
  have C := CX.start (own := RX11) B hml rfl gi hv
  have hP := hv.1
  have hS : va_S (Af 1 g) s.heap s.heap [] := va_S.rf
  have hl := lv_entry ([.ref (g.2.1 (138 + 0)), .int a1, .int a2]) (n := 4) (Nat.le_of_ble_eq_true rfl)
  rw [lg_entry_eq]
  generalize (lg_sl ([.ref (g.2.1 (138 + 0)), .int a1, .int a2]) ++ List.replicate (4 - (lg_sl ([.ref (g.2.1 (138 + 0)), .int a1, .int a2])).length) Slot.unset).toArray = ls at hl ⊢
  have hl : lv_has ls 4 [(0, .ref (g.2.1 (138 + 0))), (1, .int a1), (2, .int a2)] := hl
  unfold p_X11_listen at hw
  refine lv_aload_n C.1 C.2.1 dX11_listen_0 rfl (lv_at hl 0 rfl) ?_
  refine lv_iconst (v := 0) C.1 C.2.1 dX11_listen_1 (by decide) ?_
  refine pX11_76 C hP hS Nat.zero_lt_one dX11_listen_2 (fun M1 e1 H locs hP hS => ?_)
  have hw := hw M1 e1
  refine lv_aload_n C.1 C.2.1 dX11_listen_5 rfl (lv_at hl 0 rfl) ?_
  refine lv_iload_n C.1 C.2.1 dX11_listen_6 rfl (lv_at hl 1 rfl) ?_
  refine lv_iload_n C.1 C.2.1 dX11_listen_7 rfl (lv_at hl 2 rfl) ?_
  refine lv_iconst (v := 1) C.1 C.2.1 dX11_listen_8 (by decide) ?_
  refine goI (wf := (yw g)) (runV (w := yw g M1) (As := [.int a1, .int a2, .int 1]) (rest := []) C lkX11_323 (c_X11_isRange l g C.2.2.2.2.2.2.2.2.2.2 a1 a2 1  M1 _ hw) hP hS rfl rfl ⟨Nat.le_of_ble_eq_true rfl, Nat.le_of_ble_eq_true rfl⟩ (xx_40 Nat.zero_lt_one) rfl rfl hl.1 rfl (Nat.le_of_ble_eq_true rfl) dX11_listen_9) hS (fun r2 M2 hw H locs hP hS => ?_)
  obtain ⟨hw, hz2⟩ := hw
  refine lv_if_ne (tgt := 17) C.1 C.2.1 dX11_listen_12 (by decide) (fun h3 => ?_) (fun h3 => ?_)
  · have hw := hw.1 h3
    refine lv_aload_n C.1 C.2.1 dX11_listen_17 rfl (lv_at hl 0 rfl) ?_
    refine lv_iload_n C.1 C.2.1 dX11_listen_18 rfl (lv_at hl 1 rfl) ?_
    refine lv_iconst (v := 2) C.1 C.2.1 dX11_listen_19 (by decide) ?_
    refine goI (wf := (yw g)) (runV (w := yw g M2) (As := [.int a1, .int 2]) (rest := []) C lkX11_160 (c_X11_birdOf l g C.2.2.2.2.2.2.2.2.2.2 a1 2  M2 _ hw) hP hS rfl rfl ⟨Nat.le_of_ble_eq_true rfl, Nat.le_of_ble_eq_true rfl⟩ (xx_40 Nat.zero_lt_one) rfl rfl hl.1 rfl (Nat.le_of_ble_eq_true rfl) dX11_listen_20) hS (fun r4 M4 hw H locs hP hS => ?_)
    refine lv_if_ne (tgt := 29) C.1 C.2.1 dX11_listen_23 (by decide) (fun h5 => ?_) (fun h5 => ?_)
    · have hw := hw.1 h5
      refine lv_iconst (v := 0) C.1 C.2.1 dX11_listen_29 (by decide) ?_
      refine lv_istore_n (lv' := [(3, .int 0), (0, .ref (g.2.1 (138 + 0))), (1, .int a1), (2, .int a2)]) C.1 C.2.1 dX11_listen_30 rfl hl (by decide) rfl (fun ls hl => ?_)
      obtain ⟨n9, hw⟩ := hw
      exact k_X11_listen_31 (Q := Q) C n9 a1 a2 0  _ hw (lv_sub hl [1, 2, 3, 0] rfl) hP hS
    · have hw := hw.2 h5
      refine lv_bipush (v := (-2)) C.1 C.2.1 dX11_listen_26 (by decide) ?_
      exact retI (wf := (yw g)) C hP hS hw dX11_listen_28
  · have hw := hw.2 h3
    refine lv_iconst (v := (-1)) C.1 C.2.1 dX11_listen_15 (by decide) ?_
    exact retI (wf := (yw g)) C hP hS hw dX11_listen_16
