def p_X2_hear (a1 : Nat) (a2 : Int32) (M : Mem) (Q : Mem → Prop) : Prop := (((M.1 5 0 4) = a2 → (Q M)) ∧ (¬ (M.1 5 0 4) = a2 → (p_X2_hearAs a1 a2 ((M.1 23 a1 7)) ((M.1 23 a1 8)) (-1) M (fun M2 => (∀ M3 : Mem, M3 = sI M2 5 0 4 a2 → (Q M3))))))
set_option maxRecDepth 100000 in
set_option maxHeartbeats 4000000 in
theorem c_X2_hear (l : Launch) (g : Geo) (gi : GI g) (a1 : Nat) (a2 : Int32) (ha1 : a1 < 2) (M : Mem) (Q : Mem → Prop) (hw : p_X2_hear a1 a2 M Q) : Met l yX2_hear (Cond.code yX2_hear cX2_hear 3 none :: bg) ({ frames := 3, cells := 0, slots := 0, locals := 77 } : Room) (va_Pc [.ref (g.2.1 (5 + 0)), .ref (g.2.1 (23 + a1)), .int a2] (PW g (xw g M))) (va_Qv Q (PB g (xw g)) (Af 0 g)) 0 0 (Af 0 g) := by
  refine Met.ofW (cc := cX2_hear) (maxL := 3) (ret := none) (by decide +kernel) rfl ?_
  intro p e s m args below meth c s₁ B hml hv
  obtain ⟨rfl, hv⟩ := hv
  have C := CX.start (own := RX2) B hml rfl gi hv
  have hP := hv.1
  have hS : va_S (Af 0 g) s.heap s.heap [] := va_S.rf
  have hl := lv_entry ([.ref (g.2.1 (5 + 0)), .ref (g.2.1 (23 + a1)), .int a2]) (n := 3) (Nat.le_of_ble_eq_true rfl)
  rw [lg_entry_eq]
  generalize (lg_sl ([.ref (g.2.1 (5 + 0)), .ref (g.2.1 (23 + a1)), .int a2]) ++ List.replicate (3 - (lg_sl ([.ref (g.2.1 (5 + 0)), .ref (g.2.1 (23 + a1)), .int a2])).length) Slot.unset).toArray = ls at hl ⊢
  have hl : lv_has ls 3 [(0, .ref (g.2.1 (5 + 0))), (1, .ref (g.2.1 (23 + a1))), (2, .int a2)] := hl
  unfold p_X2_hear at hw
  refine lv_aload_n C.1 C.2.1 dX2_hear_0 rfl (lv_at hl 0 rfl) ?_
  refine gX2_18 C hP Nat.zero_lt_one dX2_hear_1 ?_
  refine lv_iload_n C.1 C.2.1 dX2_hear_4 rfl (lv_at hl 2 rfl) ?_
  refine lv_icmp_eq (tgt := 28) C.1 C.2.1 dX2_hear_5 (by decide) (fun h1 => ?_) (fun h1 => ?_)
  · have hw := hw.1 h1
    exact retV (wf := (xw g)) C hP hS hw dX2_hear_28
  · have hw := hw.2 h1
    refine lv_aload_n C.1 C.2.1 dX2_hear_8 rfl (lv_at hl 0 rfl) ?_
    refine lv_aload_n C.1 C.2.1 dX2_hear_9 rfl (lv_at hl 1 rfl) ?_
    refine lv_iload_n C.1 C.2.1 dX2_hear_10 rfl (lv_at hl 2 rfl) ?_
    refine lv_aload_n C.1 C.2.1 dX2_hear_11 rfl (lv_at hl 1 rfl) ?_
    refine gX2_32 C hP ha1 dX2_hear_12 ?_
    refine lv_aload_n C.1 C.2.1 dX2_hear_15 rfl (lv_at hl 1 rfl) ?_
    refine gX2_37 C hP ha1 dX2_hear_16 ?_
    refine lv_iconst (v := (-1)) C.1 C.2.1 dX2_hear_19 (by decide) ?_
    refine goV (wf := (xw g)) (runV (w := xw g M) (As := [.ref (g.2.1 (23 + a1)), .int a2, .int (M.1 23 a1 7), .int (M.1 23 a1 8), .int (-1)]) (rest := []) C lkX2_40 (c_X2_hearAs l g C.2.2.2.2.2.2.2.2.2.2 a1 a2 ((M.1 23 a1 7)) ((M.1 23 a1 8)) (-1) ha1 M _ hw) hP hS rfl rfl ⟨Nat.le_of_ble_eq_true rfl, Nat.le_of_ble_eq_true rfl⟩ (xx_5 Nat.zero_lt_one) rfl rfl hl.1 rfl (Nat.le_of_ble_eq_true rfl) dX2_hear_20) hS (fun M2 hw H locs hP hS => ?_)
    refine lv_aload_n C.1 C.2.1 dX2_hear_23 rfl (lv_at hl 0 rfl) ?_
    refine lv_iload_n C.1 C.2.1 dX2_hear_24 rfl (lv_at hl 2 rfl) ?_
    refine pX2_18 C hP hS Nat.zero_lt_one dX2_hear_25 (fun M3 e3 H locs hP hS => ?_)
    have hw := hw M3 e3
    exact retV (wf := (xw g)) C hP hS hw dX2_hear_28
def b_X2_takeCode_43 (Q : Mem → Prop) (k7 : Int32 → Int32 → Mem → Prop) (v1 : Int32) (v2 : Int32) (M : Mem) : Prop := (∀ x4 : Int32, x4 = (v2 + 1) → (k7 v1 x4 M))
set_option maxRecDepth 100000 in
set_option maxHeartbeats 4000000 in
theorem k_X2_takeCode_43 {p : Program} {l : Launch} {e : Env} {s : State} {m : MethodId} {args : Array Value} {below : List Frame} {meth : Method} {c : Code} {g : Geo} (C : CX g p s m args meth c cX2_takeCode 3 none RX2) {Q : Mem → Prop} {k7 : Int32 → Int32 → Mem → Prop} (hk7 : ∀ (v1 : Int32) (v2 : Int32) (M : Mem), k7 v1 v2 M → ∀ (H : Heap) (locs : List Loc) (ls : Array Slot), lv_has ls 3 [(0, .ref (g.2.1 (5 + 0))), (1, .int v1), (2, .int v2)] → va_P g.1 clz (xw g M) H → va_S (Af 0 g) s.heap H locs → W p l e ({ frames := 0, cells := 0, slots := 0, locals := 0 } : Room) s m args below meth c H locs 0 0 (MQ below (va_Qv Q (PB g (xw g)) (Af 0 g)) args s 0 0 (Af 0 g)) (F0 m 7 ls [])) (v1 : Int32) (v2 : Int32) (M : Mem) (hw : b_X2_takeCode_43 Q k7 v1 v2 M) {H : Heap} {locs : List Loc} {ls : Array Slot} (hl : lv_has ls 3 [(0, .ref (g.2.1 (5 + 0))), (1, .int v1), (2, .int v2)]) (hP : va_P g.1 clz (xw g M) H) (hS : va_S (Af 0 g) s.heap H locs) : W p l e ({ frames := 0, cells := 0, slots := 0, locals := 0 } : Room) s m args below meth c H locs 0 0 (MQ below (va_Qv Q (PB g (xw g)) (Af 0 g)) args s 0 0 (Af 0 g)) (F0 m 43 ls []) := by
  unfold b_X2_takeCode_43 at hw
  obtain ⟨x4, e4⟩ : ∃ y : Int32, y = (v2 + 1) := ⟨_, rfl⟩
  have hw := hw x4 e4
  refine lv_iinc (v := x4) (lv' := [(2, .int x4), (0, .ref (g.2.1 (5 + 0))), (1, .int v1)]) C.1 C.2.1 dX2_takeCode_43 hl (k := 2) rfl (by rw [e4]; rfl) (by decide) rfl (fun ls hl => ?_)
  refine lv_goto (tgt := 7) C.1 C.2.1 dX2_takeCode_46 (by decide) ?_
  exact hk7 v1 x4  _ hw _ _ _ (lv_sub hl [1, 2, 0] rfl) hP hS
def b_X2_takeCode_7 (Q : Mem → Prop) : Nat → Int32 → Int32 → Mem → Prop
  | 0, _, _, _ => False
  | n + 1, v1, v2, M => ((31 ≤ v2 → (Q M)) ∧ (¬ 31 ≤ v2 → ((¬ (((v1 : Int32).toUInt32 >>> ((v2 : Int32).toUInt32 &&& Int32.toUInt32 31)).toInt32 &&& 1) = 0 → (b_X2_takeCode_43 Q (fun v1 v2 M => b_X2_takeCode_7 Q n v1 v2 M) v1 v2 M)) ∧ ((((v1 : Int32).toUInt32 >>> ((v2 : Int32).toUInt32 &&& Int32.toUInt32 31)).toInt32 &&& 1) = 0 → (vp_in (M.1 5 0 6) 31 ∧ (∀ M5 : Mem, M5 = sI M 8 0 ((M.1 5 0 6) : Int32).toNatClampNeg ((2 : Int32) * v2) → (∀ M6 : Mem, M6 = sI M5 5 0 6 ((M5.1 5 0 6) + 1) → (b_X2_takeCode_43 Q (fun v1 v2 M => b_X2_takeCode_7 Q n v1 v2 M) v1 v2 M6))))))))
set_option maxRecDepth 100000 in
set_option maxHeartbeats 4000000 in
theorem k_X2_takeCode_7 {p : Program} {l : Launch} {e : Env} {s : State} {m : MethodId} {args : Array Value} {below : List Frame} {meth : Method} {c : Code} {g : Geo} (C : CX g p s m args meth c cX2_takeCode 3 none RX2) {Q : Mem → Prop} : ∀ (n : Nat) (v1 : Int32) (v2 : Int32) (M : Mem) (hw : b_X2_takeCode_7 Q n v1 v2 M) {H : Heap} {locs : List Loc} {ls : Array Slot} (hl : lv_has ls 3 [(0, .ref (g.2.1 (5 + 0))), (1, .int v1), (2, .int v2)]) (hP : va_P g.1 clz (xw g M) H) (hS : va_S (Af 0 g) s.heap H locs), W p l e ({ frames := 0, cells := 0, slots := 0, locals := 0 } : Room) s m args below meth c H locs 0 0 (MQ below (va_Qv Q (PB g (xw g)) (Af 0 g)) args s 0 0 (Af 0 g)) (F0 m 7 ls []) := by
  intro n
  induction n with
  | zero => intro v1 v2 M hw H locs ls hl hP hS; exact absurd hw (by rw [b_X2_takeCode_7]; exact fun h => h)
  | succ n ih =>
    intro v1 v2 M hw H locs ls hl hP hS
    rw [b_X2_takeCode_7] at hw
    refine lv_iload_n C.1 C.2.1 dX2_takeCode_7 rfl (lv_at hl 2 rfl) ?_
    refine lv_bipush (v := 31) C.1 C.2.1 dX2_takeCode_8 (by decide) ?_
    refine lv_icmp_ge (tgt := 49) C.1 C.2.1 dX2_takeCode_10 (by decide) (fun h2 => ?_) (fun h2 => ?_)
    · have hw := hw.1 h2
      exact retV (wf := (xw g)) C hP hS hw dX2_takeCode_49
    · have hw := hw.2 h2
      refine lv_iload_n C.1 C.2.1 dX2_takeCode_13 rfl (lv_at hl 1 rfl) ?_
      refine lv_iload_n C.1 C.2.1 dX2_takeCode_14 rfl (lv_at hl 2 rfl) ?_
      refine lv_iushr C.1 C.2.1 dX2_takeCode_15 rfl ?_
      refine lv_iconst (v := 1) C.1 C.2.1 dX2_takeCode_16 (by decide) ?_
      refine lv_iand C.1 C.2.1 dX2_takeCode_17 ?_
      refine lv_if_ne (tgt := 43) C.1 C.2.1 dX2_takeCode_18 (by decide) (fun h3 => ?_) (fun h3 => ?_)
      · have hw := hw.1 h3
        exact k_X2_takeCode_43 (Q := Q) C (fun v1 v2  M hw H locs ls hl hP hS => ih v1 v2  M hw hl hP hS) v1 v2  _ hw (lv_sub hl [0, 1, 2] rfl) hP hS
      · have hw := hw.2 h3
        refine lv_aload_n C.1 C.2.1 dX2_takeCode_21 rfl (lv_at hl 0 rfl) ?_
        refine gX2_22 C hP Nat.zero_lt_one dX2_takeCode_22 ?_
        refine lv_aload_n C.1 C.2.1 dX2_takeCode_25 rfl (lv_at hl 0 rfl) ?_
        refine gX2_103 C hP Nat.zero_lt_one dX2_takeCode_26 ?_
        refine lv_iconst (v := 2) C.1 C.2.1 dX2_takeCode_29 (by decide) ?_
        refine lv_iload_n C.1 C.2.1 dX2_takeCode_30 rfl (lv_at hl 2 rfl) ?_
        refine lv_imul C.1 C.2.1 dX2_takeCode_31 ?_
        obtain ⟨h5, hw⟩ := hw
        refine as_8 C hP hS Nat.zero_lt_one h5 dX2_takeCode_32 (fun M5 e5 H locs hP hS => ?_)
        have hw := hw M5 e5
        refine lv_aload_n C.1 C.2.1 dX2_takeCode_33 rfl (lv_at hl 0 rfl) ?_
        refine lv_dup C.1 C.2.1 dX2_takeCode_34 rfl ?_
        refine gX2_103 C hP Nat.zero_lt_one dX2_takeCode_35 ?_
        refine lv_iconst (v := 1) C.1 C.2.1 dX2_takeCode_38 (by decide) ?_
        refine lv_iadd C.1 C.2.1 dX2_takeCode_39 ?_
        refine pX2_103 C hP hS Nat.zero_lt_one dX2_takeCode_40 (fun M6 e6 H locs hP hS => ?_)
        have hw := hw M6 e6
        exact k_X2_takeCode_43 (Q := Q) C (fun v1 v2  M hw H locs ls hl hP hS => ih v1 v2  M hw hl hP hS) v1 v2  _ hw (lv_sub hl [0, 1, 2] rfl) hP hS
def p_X2_takeCode (a1 : Int32) (M : Mem) (Q : Mem → Prop) : Prop := (∀ M1 : Mem, M1 = sI M 5 0 6 0 → (∃ n7 : Nat, b_X2_takeCode_7 Q n7 a1 0 M1))
set_option maxRecDepth 100000 in
set_option maxHeartbeats 4000000 in
theorem c_X2_takeCode (l : Launch) (g : Geo) (gi : GI g) (a1 : Int32) (M : Mem) (Q : Mem → Prop) (hw : p_X2_takeCode a1 M Q) : Met l yX2_takeCode (Cond.code yX2_takeCode cX2_takeCode 3 none :: bg) ({ frames := 0, cells := 0, slots := 0, locals := 0 } : Room) (va_Pc [.ref (g.2.1 (5 + 0)), .int a1] (PW g (xw g M))) (va_Qv Q (PB g (xw g)) (Af 0 g)) 0 0 (Af 0 g) := by
  refine Met.ofW (cc := cX2_takeCode) (maxL := 3) (ret := none) (by decide +kernel) rfl ?_
  intro p e s m args below meth c s₁ B hml hv
  obtain ⟨rfl, hv⟩ := hv
  have C := CX.start (own := RX2) B hml rfl gi hv
  have hP := hv.1
  have hS : va_S (Af 0 g) s.heap s.heap [] := va_S.rf
  have hl := lv_entry ([.ref (g.2.1 (5 + 0)), .int a1]) (n := 3) (Nat.le_of_ble_eq_true rfl)
  rw [lg_entry_eq]
  generalize (lg_sl ([.ref (g.2.1 (5 + 0)), .int a1]) ++ List.replicate (3 - (lg_sl ([.ref (g.2.1 (5 + 0)), .int a1])).length) Slot.unset).toArray = ls at hl ⊢
  have hl : lv_has ls 3 [(0, .ref (g.2.1 (5 + 0))), (1, .int a1)] := hl
  unfold p_X2_takeCode at hw
  refine lv_aload_n C.1 C.2.1 dX2_takeCode_0 rfl (lv_at hl 0 rfl) ?_
  refine lv_iconst (v := 0) C.1 C.2.1 dX2_takeCode_1 (by decide) ?_
  refine pX2_103 C hP hS Nat.zero_lt_one dX2_takeCode_2 (fun M1 e1 H locs hP hS => ?_)
  have hw := hw M1 e1
  refine lv_iconst (v := 0) C.1 C.2.1 dX2_takeCode_5 (by decide) ?_
  refine lv_istore_n (lv' := [(2, .int 0), (0, .ref (g.2.1 (5 + 0))), (1, .int a1)]) C.1 C.2.1 dX2_takeCode_6 rfl hl (by decide) rfl (fun ls hl => ?_)
  obtain ⟨n9, hw⟩ := hw
  exact k_X2_takeCode_7 (Q := Q) C n9 a1 0  _ hw (lv_sub hl [1, 2, 0] rfl) hP hS
def b_X2_turnBack_171 (Q : Mem → Prop) (k138 : Int32 → Mem → Prop) (v5 : Int32) (s0 : Int64) (s2 : Int32) (M : Mem) : Prop := (vp_in s2 62 ∧ (∀ x8 : Int64, x8 = (s0 + (M.2.1 9 0 (s2 : Int32).toNatClampNeg)) → (vp_in v5 124 ∧ (∀ M9 : Mem, M9 = sL M 10 0 (v5 : Int32).toNatClampNeg x8 → (vp_in (v5 + 62) 124 ∧ (∀ M10 : Mem, M10 = sL M9 10 0 ((v5 + 62) : Int32).toNatClampNeg x8 → (∀ x11 : Int32, x11 = (v5 + 1) → (k138 x11 M10))))))))
set_option maxRecDepth 100000 in
set_option maxHeartbeats 4000000 in
theorem k_X2_turnBack_171 {p : Program} {l : Launch} {e : Env} {s : State} {m : MethodId} {args : Array Value} {below : List Frame} {meth : Method} {c : Code} {g : Geo} (C : CX g p s m args meth c cX2_turnBack 11 none RX2) {Q : Mem → Prop} {k138 : Int32 → Mem → Prop} (hk138 : ∀ (v5 : Int32) (M : Mem), k138 v5 M → ∀ (H : Heap) (locs : List Loc) (ls : Array Slot), lv_has ls 11 [(0, .ref (g.2.1 (5 + 0))), (5, .int v5)] → va_P g.1 clz (xw g M) H → va_S (Af 0 g) s.heap H locs → W p l e ({ frames := 1, cells := 0, slots := 0, locals := 22 } : Room) s m args below meth c H locs 0 0 (MQ below (va_Qv Q (PB g (xw g)) (Af 0 g)) args s 0 0 (Af 0 g)) (F0 m 138 ls [])) (v5 : Int32) (s0 : Int64) (s2 : Int32) (M : Mem) (hw : b_X2_turnBack_171 Q k138 v5 s0 s2 M) {H : Heap} {locs : List Loc} {ls : Array Slot} (hl : lv_has ls 11 [(0, .ref (g.2.1 (5 + 0))), (5, .int v5)]) (hP : va_P g.1 clz (xw g M) H) (hS : va_S (Af 0 g) s.heap H locs) : W p l e ({ frames := 1, cells := 0, slots := 0, locals := 22 } : Room) s m args below meth c H locs 0 0 (MQ below (va_Qv Q (PB g (xw g)) (Af 0 g)) args s 0 0 (Af 0 g)) (F0 m 171 ls [.int s2, .ref (g.2.1 (9 + 0)), .long s0]) := by
  unfold b_X2_turnBack_171 at hw
  obtain ⟨h7, hw⟩ := hw
  refine al_9 C hP Nat.zero_lt_one h7 dX2_turnBack_171 ?_
  refine lv_ladd C.1 C.2.1 dX2_turnBack_172 ?_
  refine lv_topl (fun x8 e8 => ?_)
  have hw := hw x8 e8
  refine lv_lstore (lv' := [(6, .long x8), (0, .ref (g.2.1 (5 + 0))), (5, .int v5)]) C.1 C.2.1 dX2_turnBack_173 hl (by decide) rfl (fun ls hl => ?_)
  refine lv_aload_n C.1 C.2.1 dX2_turnBack_175 rfl (lv_at hl 1 rfl) ?_
  refine gX2_29 C hP Nat.zero_lt_one dX2_turnBack_176 ?_
  refine lv_iload C.1 C.2.1 dX2_turnBack_179 (lv_at hl 2 rfl) ?_
  refine lv_lload C.1 C.2.1 dX2_turnBack_181 (lv_at hl 0 rfl) ?_
  obtain ⟨h9, hw⟩ := hw
  refine as_10 C hP hS Nat.zero_lt_one h9 dX2_turnBack_183 (fun M9 e9 H locs hP hS => ?_)
  have hw := hw M9 e9
  refine lv_aload_n C.1 C.2.1 dX2_turnBack_184 rfl (lv_at hl 1 rfl) ?_
  refine gX2_29 C hP Nat.zero_lt_one dX2_turnBack_185 ?_
  refine lv_iload C.1 C.2.1 dX2_turnBack_188 (lv_at hl 2 rfl) ?_
  refine lv_bipush (v := 62) C.1 C.2.1 dX2_turnBack_190 (by decide) ?_
  refine lv_iadd C.1 C.2.1 dX2_turnBack_192 ?_
  refine lv_lload C.1 C.2.1 dX2_turnBack_193 (lv_at hl 0 rfl) ?_
  obtain ⟨h10, hw⟩ := hw
  refine as_10 C hP hS Nat.zero_lt_one h10 dX2_turnBack_195 (fun M10 e10 H locs hP hS => ?_)
  have hw := hw M10 e10
  obtain ⟨x11, e11⟩ : ∃ y : Int32, y = (v5 + 1) := ⟨_, rfl⟩
  have hw := hw x11 e11
  refine lv_iinc (v := x11) (lv' := [(5, .int x11), (6, .long x8), (0, .ref (g.2.1 (5 + 0)))]) C.1 C.2.1 dX2_turnBack_196 hl (k := 2) rfl (by rw [e11]; rfl) (by decide) rfl (fun ls hl => ?_)
  refine lv_goto (tgt := 138) C.1 C.2.1 dX2_turnBack_199 (by decide) ?_
  exact hk138 x11  _ hw _ _ _ (lv_sub hl [2, 0] rfl) hP hS
def b_X2_turnBack_138 (Q : Mem → Prop) : Nat → Int32 → Mem → Prop
  | 0, _, _ => False
  | n + 1, v5, M => ((62 ≤ v5 → (Q M)) ∧ (¬ 62 ≤ v5 → (vp_in v5 62 ∧ ((¬ v5 = 61 → (b_X2_turnBack_171 Q (fun v5 M => b_X2_turnBack_138 Q n v5 M) v5 ((M.2.1 9 0 (v5 : Int32).toNatClampNeg)) ((v5 + 1)) M)) ∧ (v5 = 61 → (b_X2_turnBack_171 Q (fun v5 M => b_X2_turnBack_138 Q n v5 M) v5 ((M.2.1 9 0 (v5 : Int32).toNatClampNeg)) 0 M))))))
set_option maxRecDepth 100000 in
set_option maxHeartbeats 4000000 in
theorem k_X2_turnBack_138 {p : Program} {l : Launch} {e : Env} {s : State} {m : MethodId} {args : Array Value} {below : List Frame} {meth : Method} {c : Code} {g : Geo} (C : CX g p s m args meth c cX2_turnBack 11 none RX2) {Q : Mem → Prop} : ∀ (n : Nat) (v5 : Int32) (M : Mem) (hw : b_X2_turnBack_138 Q n v5 M) {H : Heap} {locs : List Loc} {ls : Array Slot} (hl : lv_has ls 11 [(0, .ref (g.2.1 (5 + 0))), (5, .int v5)]) (hP : va_P g.1 clz (xw g M) H) (hS : va_S (Af 0 g) s.heap H locs), W p l e ({ frames := 1, cells := 0, slots := 0, locals := 22 } : Room) s m args below meth c H locs 0 0 (MQ below (va_Qv Q (PB g (xw g)) (Af 0 g)) args s 0 0 (Af 0 g)) (F0 m 138 ls []) := by
  intro n
  induction n with
  | zero => intro v5 M hw H locs ls hl hP hS; exact absurd hw (by rw [b_X2_turnBack_138]; exact fun h => h)
  | succ n ih =>
    intro v5 M hw H locs ls hl hP hS
    rw [b_X2_turnBack_138] at hw
    refine lv_iload C.1 C.2.1 dX2_turnBack_138 (lv_at hl 1 rfl) ?_
    refine lv_bipush (v := 62) C.1 C.2.1 dX2_turnBack_140 (by decide) ?_
    refine lv_icmp_ge (tgt := 202) C.1 C.2.1 dX2_turnBack_142 (by decide) (fun h4 => ?_) (fun h4 => ?_)
    · have hw := hw.1 h4
      exact retV (wf := (xw g)) C hP hS hw dX2_turnBack_202
    · have hw := hw.2 h4
      refine lv_aload_n C.1 C.2.1 dX2_turnBack_145 rfl (lv_at hl 0 rfl) ?_
      refine gX2_25 C hP Nat.zero_lt_one dX2_turnBack_146 ?_
      refine lv_iload C.1 C.2.1 dX2_turnBack_149 (lv_at hl 1 rfl) ?_
      obtain ⟨h5, hw⟩ := hw
      refine al_9 C hP Nat.zero_lt_one h5 dX2_turnBack_151 ?_
      refine lv_aload_n C.1 C.2.1 dX2_turnBack_152 rfl (lv_at hl 0 rfl) ?_
      refine gX2_25 C hP Nat.zero_lt_one dX2_turnBack_153 ?_
      refine lv_iload C.1 C.2.1 dX2_turnBack_156 (lv_at hl 1 rfl) ?_
      refine lv_bipush (v := 61) C.1 C.2.1 dX2_turnBack_158 (by decide) ?_
      refine lv_icmp_ne (tgt := 167) C.1 C.2.1 dX2_turnBack_160 (by decide) (fun h6 => ?_) (fun h6 => ?_)
      · have hw := hw.1 h6
        refine lv_iload C.1 C.2.1 dX2_turnBack_167 (lv_at hl 1 rfl) ?_
        refine lv_iconst (v := 1) C.1 C.2.1 dX2_turnBack_169 (by decide) ?_
        refine lv_iadd C.1 C.2.1 dX2_turnBack_170 ?_
        exact k_X2_turnBack_171 (Q := Q) C (fun v5  M hw H locs ls hl hP hS => ih v5  M hw hl hP hS) v5 ((M.2.1 9 0 (v5 : Int32).toNatClampNeg)) ((v5 + 1))  _ hw (lv_sub hl [0, 1] rfl) hP hS
      · have hw := hw.2 h6
        refine lv_iconst (v := 0) C.1 C.2.1 dX2_turnBack_163 (by decide) ?_
        refine lv_goto (tgt := 171) C.1 C.2.1 dX2_turnBack_164 (by decide) ?_
        exact k_X2_turnBack_171 (Q := Q) C (fun v5  M hw H locs ls hl hP hS => ih v5  M hw hl hP hS) v5 ((M.2.1 9 0 (v5 : Int32).toNatClampNeg)) 0  _ hw (lv_sub hl [0, 1] rfl) hP hS
def b_X2_turnBack_135 (Q : Mem → Prop) (M : Mem) : Prop := (∃ n138 : Nat, b_X2_turnBack_138 Q n138 0 M)
set_option maxRecDepth 100000 in
set_option maxHeartbeats 4000000 in
theorem k_X2_turnBack_135 {p : Program} {l : Launch} {e : Env} {s : State} {m : MethodId} {args : Array Value} {below : List Frame} {meth : Method} {c : Code} {g : Geo} (C : CX g p s m args meth c cX2_turnBack 11 none RX2) {Q : Mem → Prop} (M : Mem) (hw : b_X2_turnBack_135 Q M) {H : Heap} {locs : List Loc} {ls : Array Slot} (hl : lv_has ls 11 [(0, .ref (g.2.1 (5 + 0)))]) (hP : va_P g.1 clz (xw g M) H) (hS : va_S (Af 0 g) s.heap H locs) : W p l e ({ frames := 1, cells := 0, slots := 0, locals := 22 } : Room) s m args below meth c H locs 0 0 (MQ below (va_Qv Q (PB g (xw g)) (Af 0 g)) args s 0 0 (Af 0 g)) (F0 m 135 ls []) := by
  unfold b_X2_turnBack_135 at hw
  refine lv_iconst (v := 0) C.1 C.2.1 dX2_turnBack_135 (by decide) ?_
  refine lv_istore (lv' := [(5, .int 0), (0, .ref (g.2.1 (5 + 0)))]) C.1 C.2.1 dX2_turnBack_136 hl (by decide) rfl (fun ls hl => ?_)
  obtain ⟨n9, hw⟩ := hw
  exact k_X2_turnBack_138 (Q := Q) C n9 0  _ hw (lv_sub hl [1, 0] rfl) hP hS
def b_X2_turnBack_14 (Q : Mem → Prop) : Nat → Int32 → Int32 → Int32 → Int32 → Mem → Prop
  | 0, _, _, _, _, _ => False
  | n + 1, v2, v3, v4, v5, M => ((62 ≤ v5 → (b_X2_turnBack_135 Q  M)) ∧ (¬ 62 ≤ v5 → (p_X2_angleOf ((v4 + v5)) v2 v3 M (fun r12 M12 => (vp_in r12 16 ∧ (∀ x14 : Int32, x14 = (stab 4 (r12 : Int32).toNatClampNeg) → (vp_in ((r12 + 12) &&& 15) 16 ∧ (∀ x16 : Int32, x16 = (stab 4 (((r12 + 12) &&& 15) : Int32).toNatClampNeg) → (vp_in v5 62 ∧ (vp_in v5 62 ∧ (∀ x19 : Int64, x19 = (((((M12.1 6 0 (v5 : Int32).toNatClampNeg) * x14) + ((M12.1 7 0 (v5 : Int32).toNatClampNeg) * x16)) : Int32).toInt64 <<< ((32 : Int32).toInt64 &&& 63)) → (vp_in v5 62 ∧ (vp_in v5 62 ∧ (∀ x22 : Int64, x22 = (x19 + ((((M12.1 7 0 (v5 : Int32).toNatClampNeg) * x14) - ((M12.1 6 0 (v5 : Int32).toNatClampNeg) * x16)) : Int32).toInt64) → (vp_in v5 62 ∧ (∀ M23 : Mem, M23 = sL M12 9 0 (v5 : Int32).toNatClampNeg x22 → (∀ M24 : Mem, M24 = sL M23 5 0 9 ((M23.2.1 5 0 9) + x22) → (∀ x25 : Int32, x25 = (v5 + 1) → (b_X2_turnBack_14 Q n v2 v3 v4 x25 M24)))))))))))))))))))
set_option maxRecDepth 100000 in
set_option maxHeartbeats 4000000 in
theorem k_X2_turnBack_14 {p : Program} {l : Launch} {e : Env} {s : State} {m : MethodId} {args : Array Value} {below : List Frame} {meth : Method} {c : Code} {g : Geo} (C : CX g p s m args meth c cX2_turnBack 11 none RX2) {Q : Mem → Prop} : ∀ (n : Nat) (v2 : Int32) (v3 : Int32) (v4 : Int32) (v5 : Int32) (M : Mem) (hw : b_X2_turnBack_14 Q n v2 v3 v4 v5 M) {H : Heap} {locs : List Loc} {ls : Array Slot} (hl : lv_has ls 11 [(0, .ref (g.2.1 (5 + 0))), (2, .int v2), (3, .int v3), (4, .int v4), (5, .int v5)]) (hP : va_P g.1 clz (xw g M) H) (hS : va_S (Af 0 g) s.heap H locs), W p l e ({ frames := 1, cells := 0, slots := 0, locals := 22 } : Room) s m args below meth c H locs 0 0 (MQ below (va_Qv Q (PB g (xw g)) (Af 0 g)) args s 0 0 (Af 0 g)) (F0 m 14 ls []) := by
  intro n
  induction n with
  | zero => intro v2 v3 v4 v5 M hw H locs ls hl hP hS; exact absurd hw (by rw [b_X2_turnBack_14]; exact fun h => h)
  | succ n ih =>
    intro v2 v3 v4 v5 M hw H locs ls hl hP hS
    rw [b_X2_turnBack_14] at hw
    refine lv_iload C.1 C.2.1 dX2_turnBack_14 (lv_at hl 4 rfl) ?_
    refine lv_bipush (v := 62) C.1 C.2.1 dX2_turnBack_16 (by decide) ?_
    refine lv_icmp_ge (tgt := 135) C.1 C.2.1 dX2_turnBack_18 (by decide) (fun h3 => ?_) (fun h3 => ?_)
    · have hw := hw.1 h3
      exact k_X2_turnBack_135 (Q := Q) C   _ hw (lv_sub hl [0] rfl) hP hS
    · have hw := hw.2 h3
      refine lv_iload C.1 C.2.1 dX2_turnBack_21 (lv_at hl 3 rfl) ?_
      refine lv_iload C.1 C.2.1 dX2_turnBack_23 (lv_at hl 4 rfl) ?_
      refine lv_iadd C.1 C.2.1 dX2_turnBack_25 ?_
      refine lv_iload_n C.1 C.2.1 dX2_turnBack_26 rfl (lv_at hl 1 rfl) ?_
      refine lv_iload_n C.1 C.2.1 dX2_turnBack_27 rfl (lv_at hl 2 rfl) ?_
      refine goI (wf := (xw g)) (runS (w := xw g M) (As := [.int (v4 + v5), .int v2, .int v3]) (rest := []) C lkX2_84 (c_X2_angleOf l g C.2.2.2.2.2.2.2.2.2.2 ((v4 + v5)) v2 v3  M _ hw) hP hS rfl rfl ⟨Nat.le_of_ble_eq_true rfl, Nat.le_of_ble_eq_true rfl⟩ hl.1 rfl (Nat.le_of_ble_eq_true rfl) dX2_turnBack_28) hS (fun r12 M12 hw H locs hP hS => ?_)
      refine lv_istore (lv' := [(6, .int r12), (0, .ref (g.2.1 (5 + 0))), (2, .int v2), (3, .int v3), (4, .int v4), (5, .int v5)]) C.1 C.2.1 dX2_turnBack_31 hl (by decide) rfl (fun ls hl => ?_)
      refine gX2_94 C hS dX2_turnBack_33 ?_
      refine lv_iload C.1 C.2.1 dX2_turnBack_36 (lv_at hl 0 rfl) ?_
      obtain ⟨h13, hw⟩ := hw
      refine si_4 C hS h13 dX2_turnBack_38 ?_
      refine lv_topi (fun x14 e14 => ?_)
      have hw := hw x14 e14
      refine lv_istore (lv' := [(7, .int x14), (6, .int r12), (0, .ref (g.2.1 (5 + 0))), (2, .int v2), (3, .int v3), (4, .int v4), (5, .int v5)]) C.1 C.2.1 dX2_turnBack_39 hl (by decide) rfl (fun ls hl => ?_)
      refine gX2_94 C hS dX2_turnBack_41 ?_
      refine lv_iload C.1 C.2.1 dX2_turnBack_44 (lv_at hl 1 rfl) ?_
      refine lv_bipush (v := 12) C.1 C.2.1 dX2_turnBack_46 (by decide) ?_
      refine lv_iadd C.1 C.2.1 dX2_turnBack_48 ?_
      refine lv_bipush (v := 15) C.1 C.2.1 dX2_turnBack_49 (by decide) ?_
      refine lv_iand C.1 C.2.1 dX2_turnBack_51 ?_
      obtain ⟨h15, hw⟩ := hw
      refine si_4 C hS h15 dX2_turnBack_52 ?_
      refine lv_topi (fun x16 e16 => ?_)
      have hw := hw x16 e16
      refine lv_istore (lv' := [(8, .int x16), (7, .int x14), (6, .int r12), (0, .ref (g.2.1 (5 + 0))), (2, .int v2), (3, .int v3), (4, .int v4), (5, .int v5)]) C.1 C.2.1 dX2_turnBack_53 hl (by decide) rfl (fun ls hl => ?_)
      refine lv_aload_n C.1 C.2.1 dX2_turnBack_55 rfl (lv_at hl 3 rfl) ?_
      refine gX2_9 C hP Nat.zero_lt_one dX2_turnBack_56 ?_
      refine lv_iload C.1 C.2.1 dX2_turnBack_59 (lv_at hl 7 rfl) ?_
      obtain ⟨h17, hw⟩ := hw
      refine al_6 C hP Nat.zero_lt_one h17 dX2_turnBack_61 ?_
      refine lv_iload C.1 C.2.1 dX2_turnBack_62 (lv_at hl 1 rfl) ?_
      refine lv_imul C.1 C.2.1 dX2_turnBack_64 ?_
      refine lv_aload_n C.1 C.2.1 dX2_turnBack_65 rfl (lv_at hl 3 rfl) ?_
      refine gX2_15 C hP Nat.zero_lt_one dX2_turnBack_66 ?_
      refine lv_iload C.1 C.2.1 dX2_turnBack_69 (lv_at hl 7 rfl) ?_
      obtain ⟨h18, hw⟩ := hw
      refine al_7 C hP Nat.zero_lt_one h18 dX2_turnBack_71 ?_
      refine lv_iload C.1 C.2.1 dX2_turnBack_72 (lv_at hl 0 rfl) ?_
      refine lv_imul C.1 C.2.1 dX2_turnBack_74 ?_
      refine lv_iadd C.1 C.2.1 dX2_turnBack_75 ?_
      refine lv_i2l C.1 C.2.1 dX2_turnBack_76 rfl ?_
      refine lv_bipush (v := 32) C.1 C.2.1 dX2_turnBack_77 (by decide) ?_
      refine lv_lshl C.1 C.2.1 dX2_turnBack_79 rfl ?_
      refine lv_topl (fun x19 e19 => ?_)
      have hw := hw x19 e19
      refine lv_lstore (lv' := [(9, .long x19), (8, .int x16), (7, .int x14), (6, .int r12), (0, .ref (g.2.1 (5 + 0))), (2, .int v2), (3, .int v3), (4, .int v4), (5, .int v5)]) C.1 C.2.1 dX2_turnBack_80 hl (by decide) rfl (fun ls hl => ?_)
      refine lv_lload C.1 C.2.1 dX2_turnBack_82 (lv_at hl 0 rfl) ?_
      refine lv_aload_n C.1 C.2.1 dX2_turnBack_84 rfl (lv_at hl 4 rfl) ?_
      refine gX2_15 C hP Nat.zero_lt_one dX2_turnBack_85 ?_
      refine lv_iload C.1 C.2.1 dX2_turnBack_88 (lv_at hl 8 rfl) ?_
      obtain ⟨h20, hw⟩ := hw
      refine al_7 C hP Nat.zero_lt_one h20 dX2_turnBack_90 ?_
      refine lv_iload C.1 C.2.1 dX2_turnBack_91 (lv_at hl 2 rfl) ?_
      refine lv_imul C.1 C.2.1 dX2_turnBack_93 ?_
      refine lv_aload_n C.1 C.2.1 dX2_turnBack_94 rfl (lv_at hl 4 rfl) ?_
      refine gX2_9 C hP Nat.zero_lt_one dX2_turnBack_95 ?_
      refine lv_iload C.1 C.2.1 dX2_turnBack_98 (lv_at hl 8 rfl) ?_
      obtain ⟨h21, hw⟩ := hw
      refine al_6 C hP Nat.zero_lt_one h21 dX2_turnBack_100 ?_
      refine lv_iload C.1 C.2.1 dX2_turnBack_101 (lv_at hl 1 rfl) ?_
      refine lv_imul C.1 C.2.1 dX2_turnBack_103 ?_
      refine lv_isub C.1 C.2.1 dX2_turnBack_104 ?_
      refine lv_i2l C.1 C.2.1 dX2_turnBack_105 rfl ?_
      refine lv_ladd C.1 C.2.1 dX2_turnBack_106 ?_
      refine lv_topl (fun x22 e22 => ?_)
      have hw := hw x22 e22
      refine lv_lstore (lv' := [(9, .long x22), (8, .int x16), (7, .int x14), (6, .int r12), (0, .ref (g.2.1 (5 + 0))), (2, .int v2), (3, .int v3), (4, .int v4), (5, .int v5)]) C.1 C.2.1 dX2_turnBack_107 hl (by decide) rfl (fun ls hl => ?_)
      refine lv_aload_n C.1 C.2.1 dX2_turnBack_109 rfl (lv_at hl 4 rfl) ?_
      refine gX2_25 C hP Nat.zero_lt_one dX2_turnBack_110 ?_
      refine lv_iload C.1 C.2.1 dX2_turnBack_113 (lv_at hl 8 rfl) ?_
      refine lv_lload C.1 C.2.1 dX2_turnBack_115 (lv_at hl 0 rfl) ?_
      obtain ⟨h23, hw⟩ := hw
      refine as_9 C hP hS Nat.zero_lt_one h23 dX2_turnBack_117 (fun M23 e23 H locs hP hS => ?_)
      have hw := hw M23 e23
      refine lv_aload_n C.1 C.2.1 dX2_turnBack_118 rfl (lv_at hl 4 rfl) ?_
      refine lv_dup C.1 C.2.1 dX2_turnBack_119 rfl ?_
      refine gX2_106 C hP Nat.zero_lt_one dX2_turnBack_120 ?_
      refine lv_lload C.1 C.2.1 dX2_turnBack_123 (lv_at hl 0 rfl) ?_
      refine lv_ladd C.1 C.2.1 dX2_turnBack_125 ?_
      refine pX2_106 C hP hS Nat.zero_lt_one dX2_turnBack_126 (fun M24 e24 H locs hP hS => ?_)
      have hw := hw M24 e24
      obtain ⟨x25, e25⟩ : ∃ y : Int32, y = (v5 + 1) := ⟨_, rfl⟩
      have hw := hw x25 e25
      refine lv_iinc (v := x25) (lv' := [(5, .int x25), (9, .long x22), (8, .int x16), (7, .int x14), (6, .int r12), (0, .ref (g.2.1 (5 + 0))), (2, .int v2), (3, .int v3), (4, .int v4)]) C.1 C.2.1 dX2_turnBack_129 hl (k := 8) rfl (by rw [e25]; rfl) (by decide) rfl (fun ls hl => ?_)
      refine lv_goto (tgt := 14) C.1 C.2.1 dX2_turnBack_132 (by decide) ?_
      exact ih v2 v3 v4 x25  _ hw (lv_sub hl [5, 6, 7, 8, 0] rfl) hP hS
def p_X2_turnBack (a1 : Int32) (a2 : Int32) (a3 : Int32) (M : Mem) (Q : Mem → Prop) : Prop := (∀ x1 : Int32, x1 = ((62 : Int32) * a1) → (∀ M2 : Mem, M2 = sL M 5 0 9 0 → (∃ n14 : Nat, b_X2_turnBack_14 Q n14 a2 a3 x1 0 M2)))
set_option maxRecDepth 100000 in
set_option maxHeartbeats 4000000 in
theorem c_X2_turnBack (l : Launch) (g : Geo) (gi : GI g) (a1 : Int32) (a2 : Int32) (a3 : Int32) (M : Mem) (Q : Mem → Prop) (hw : p_X2_turnBack a1 a2 a3 M Q) : Met l yX2_turnBack (Cond.code yX2_turnBack cX2_turnBack 11 none :: bg) ({ frames := 1, cells := 0, slots := 0, locals := 22 } : Room) (va_Pc [.ref (g.2.1 (5 + 0)), .int a1, .int a2, .int a3] (PW g (xw g M))) (va_Qv Q (PB g (xw g)) (Af 0 g)) 0 0 (Af 0 g) := by
  refine Met.ofW (cc := cX2_turnBack) (maxL := 11) (ret := none) (by decide +kernel) rfl ?_
  intro p e s m args below meth c s₁ B hml hv
  obtain ⟨rfl, hv⟩ := hv
  have C := CX.start (own := RX2) B hml rfl gi hv
  have hP := hv.1
  have hS : va_S (Af 0 g) s.heap s.heap [] := va_S.rf
  have hl := lv_entry ([.ref (g.2.1 (5 + 0)), .int a1, .int a2, .int a3]) (n := 11) (Nat.le_of_ble_eq_true rfl)
  rw [lg_entry_eq]
  generalize (lg_sl ([.ref (g.2.1 (5 + 0)), .int a1, .int a2, .int a3]) ++ List.replicate (11 - (lg_sl ([.ref (g.2.1 (5 + 0)), .int a1, .int a2, .int a3])).length) Slot.unset).toArray = ls at hl ⊢
  have hl : lv_has ls 11 [(0, .ref (g.2.1 (5 + 0))), (1, .int a1), (2, .int a2), (3, .int a3)] := hl
  unfold p_X2_turnBack at hw
  refine lv_bipush (v := 62) C.1 C.2.1 dX2_turnBack_0 (by decide) ?_
  refine lv_iload_n C.1 C.2.1 dX2_turnBack_2 rfl (lv_at hl 1 rfl) ?_
  refine lv_imul C.1 C.2.1 dX2_turnBack_3 ?_
  refine lv_topi (fun x1 e1 => ?_)
  have hw := hw x1 e1
  refine lv_istore (lv' := [(4, .int x1), (0, .ref (g.2.1 (5 + 0))), (1, .int a1), (2, .int a2), (3, .int a3)]) C.1 C.2.1 dX2_turnBack_4 hl (by decide) rfl (fun ls hl => ?_)
  refine lv_aload_n C.1 C.2.1 dX2_turnBack_6 rfl (lv_at hl 1 rfl) ?_
  refine lv_lconst (v := 0) C.1 C.2.1 dX2_turnBack_7 (by decide) ?_
  refine pX2_106 C hP hS Nat.zero_lt_one dX2_turnBack_8 (fun M2 e2 H locs hP hS => ?_)
  have hw := hw M2 e2
  refine lv_iconst (v := 0) C.1 C.2.1 dX2_turnBack_11 (by decide) ?_
  refine lv_istore (lv' := [(5, .int 0), (4, .int x1), (0, .ref (g.2.1 (5 + 0))), (1, .int a1), (2, .int a2), (3, .int a3)]) C.1 C.2.1 dX2_turnBack_12 hl (by decide) rfl (fun ls hl => ?_)
  obtain ⟨n9, hw⟩ := hw
  exact k_X2_turnBack_14 (Q := Q) C n9 a2 a3 x1 0  _ hw (lv_sub hl [2, 4, 5, 1, 0] rfl) hP hS
def b_X2_sumAt_58 (Q : Mem → Prop) (v2 : Int64) (M : Mem) : Prop := (∀ x6 : Int64, x6 = ((M.2.1 5 0 9) - ((2 : Int64) * v2)) → (∀ x7 : Int32, x7 = (x6 : Int64).toInt32 → (∀ M8 : Mem, M8 = sI M 5 0 2 ((((x6 - (x7 : Int32).toInt64) >>> ((32 : Int32).toInt64 &&& 63)) : Int64).toInt32 >>> (6 &&& 31)) → (∀ M9 : Mem, M9 = sI M8 5 0 3 (x7 >>> (6 &&& 31)) → (Q M9)))))
set_option maxRecDepth 100000 in
set_option maxHeartbeats 4000000 in
theorem k_X2_sumAt_58 {p : Program} {l : Launch} {e : Env} {s : State} {m : MethodId} {args : Array Value} {below : List Frame} {meth : Method} {c : Code} {g : Geo} (C : CX g p s m args meth c cX2_sumAt 7 none RX2) {Q : Mem → Prop} (v2 : Int64) (M : Mem) (hw : b_X2_sumAt_58 Q v2 M) {H : Heap} {locs : List Loc} {ls : Array Slot} (hl : lv_has ls 7 [(0, .ref (g.2.1 (5 + 0))), (2, .long v2)]) (hP : va_P g.1 clz (xw g M) H) (hS : va_S (Af 0 g) s.heap H locs) : W p l e ({ frames := 0, cells := 0, slots := 0, locals := 0 } : Room) s m args below meth c H locs 0 0 (MQ below (va_Qv Q (PB g (xw g)) (Af 0 g)) args s 0 0 (Af 0 g)) (F0 m 58 ls []) := by
  unfold b_X2_sumAt_58 at hw
  refine lv_aload_n C.1 C.2.1 dX2_sumAt_58 rfl (lv_at hl 0 rfl) ?_
  refine gX2_106 C hP Nat.zero_lt_one dX2_sumAt_59 ?_
  refine lv_ldc2 (v := 2) C.1 C.2.1 C.2.2.2.2.1 (C.2.2.2.2.2.1 _ (bg_of 870 (by decide +kernel) rfl)) dX2_sumAt_62 ?_
  refine lv_lload_n C.1 C.2.1 dX2_sumAt_65 rfl (lv_at hl 1 rfl) ?_
  refine lv_lmul C.1 C.2.1 dX2_sumAt_66 ?_
  refine lv_lsub C.1 C.2.1 dX2_sumAt_67 ?_
  refine lv_topl (fun x6 e6 => ?_)
  have hw := hw x6 e6
  refine lv_lstore (lv' := [(4, .long x6), (0, .ref (g.2.1 (5 + 0))), (2, .long v2)]) C.1 C.2.1 dX2_sumAt_68 hl (by decide) rfl (fun ls hl => ?_)
  refine lv_lload C.1 C.2.1 dX2_sumAt_70 (lv_at hl 0 rfl) ?_
  refine lv_l2i C.1 C.2.1 dX2_sumAt_72 rfl ?_
  refine lv_topi (fun x7 e7 => ?_)
  have hw := hw x7 e7
  refine lv_istore (lv' := [(6, .int x7), (4, .long x6), (0, .ref (g.2.1 (5 + 0))), (2, .long v2)]) C.1 C.2.1 dX2_sumAt_73 hl (by decide) rfl (fun ls hl => ?_)
  refine lv_aload_n C.1 C.2.1 dX2_sumAt_75 rfl (lv_at hl 2 rfl) ?_
  refine lv_lload C.1 C.2.1 dX2_sumAt_76 (lv_at hl 1 rfl) ?_
  refine lv_iload C.1 C.2.1 dX2_sumAt_78 (lv_at hl 0 rfl) ?_
  refine lv_i2l C.1 C.2.1 dX2_sumAt_80 rfl ?_
  refine lv_lsub C.1 C.2.1 dX2_sumAt_81 ?_
  refine lv_bipush (v := 32) C.1 C.2.1 dX2_sumAt_82 (by decide) ?_
  refine lv_lshr C.1 C.2.1 dX2_sumAt_84 rfl ?_
  refine lv_l2i C.1 C.2.1 dX2_sumAt_85 rfl ?_
  refine lv_bipush (v := 6) C.1 C.2.1 dX2_sumAt_86 (by decide) ?_
  refine lv_ishr C.1 C.2.1 dX2_sumAt_88 ?_
  refine pX2_110 C hP hS Nat.zero_lt_one dX2_sumAt_89 (fun M8 e8 H locs hP hS => ?_)
  have hw := hw M8 e8
  refine lv_aload_n C.1 C.2.1 dX2_sumAt_92 rfl (lv_at hl 2 rfl) ?_
  refine lv_iload C.1 C.2.1 dX2_sumAt_93 (lv_at hl 0 rfl) ?_
  refine lv_bipush (v := 6) C.1 C.2.1 dX2_sumAt_95 (by decide) ?_
  refine lv_ishr C.1 C.2.1 dX2_sumAt_97 ?_
  refine pX2_113 C hP hS Nat.zero_lt_one dX2_sumAt_98 (fun M9 e9 H locs hP hS => ?_)
  have hw := hw M9 e9
  exact retV (wf := (xw g)) C hP hS hw dX2_sumAt_101
def b_X2_sumAt_26 (Q : Mem → Prop) : Nat → Int32 → Int64 → Int32 → Mem → Prop
  | 0, _, _, _, _ => False
  | n + 1, v1, v2, v4, M => (((M.1 5 0 6) ≤ v4 → (b_X2_sumAt_58 Q v2 M)) ∧ (¬ (M.1 5 0 6) ≤ v4 → (vp_in v4 31 ∧ (vp_in (v1 + (M.1 8 0 (v4 : Int32).toNatClampNeg)) 124 ∧ (∀ x12 : Int64, x12 = (v2 + (M.2.1 10 0 ((v1 + (M.1 8 0 (v4 : Int32).toNatClampNeg)) : Int32).toNatClampNeg)) → (∀ x13 : Int32, x13 = (v4 + 1) → (b_X2_sumAt_26 Q n v1 x12 x13 M)))))))
set_option maxRecDepth 100000 in
set_option maxHeartbeats 4000000 in
theorem k_X2_sumAt_26 {p : Program} {l : Launch} {e : Env} {s : State} {m : MethodId} {args : Array Value} {below : List Frame} {meth : Method} {c : Code} {g : Geo} (C : CX g p s m args meth c cX2_sumAt 7 none RX2) {Q : Mem → Prop} : ∀ (n : Nat) (v1 : Int32) (v2 : Int64) (v4 : Int32) (M : Mem) (hw : b_X2_sumAt_26 Q n v1 v2 v4 M) {H : Heap} {locs : List Loc} {ls : Array Slot} (hl : lv_has ls 7 [(0, .ref (g.2.1 (5 + 0))), (1, .int v1), (2, .long v2), (4, .int v4)]) (hP : va_P g.1 clz (xw g M) H) (hS : va_S (Af 0 g) s.heap H locs), W p l e ({ frames := 0, cells := 0, slots := 0, locals := 0 } : Room) s m args below meth c H locs 0 0 (MQ below (va_Qv Q (PB g (xw g)) (Af 0 g)) args s 0 0 (Af 0 g)) (F0 m 26 ls []) := by
  intro n
  induction n with
  | zero => intro v1 v2 v4 M hw H locs ls hl hP hS; exact absurd hw (by rw [b_X2_sumAt_26]; exact fun h => h)
  | succ n ih =>
    intro v1 v2 v4 M hw H locs ls hl hP hS
    rw [b_X2_sumAt_26] at hw
    refine lv_iload C.1 C.2.1 dX2_sumAt_26 (lv_at hl 3 rfl) ?_
    refine lv_aload_n C.1 C.2.1 dX2_sumAt_28 rfl (lv_at hl 0 rfl) ?_
    refine gX2_103 C hP Nat.zero_lt_one dX2_sumAt_29 ?_
    refine lv_icmp_ge (tgt := 58) C.1 C.2.1 dX2_sumAt_32 (by decide) (fun h5 => ?_) (fun h5 => ?_)
    · have hw := hw.1 h5
      exact k_X2_sumAt_58 (Q := Q) C v2  _ hw (lv_sub hl [0, 2] rfl) hP hS
    · have hw := hw.2 h5
      refine lv_lload_n C.1 C.2.1 dX2_sumAt_35 rfl (lv_at hl 2 rfl) ?_
      refine lv_aload_n C.1 C.2.1 dX2_sumAt_36 rfl (lv_at hl 0 rfl) ?_
      refine gX2_29 C hP Nat.zero_lt_one dX2_sumAt_37 ?_
      refine lv_iload_n C.1 C.2.1 dX2_sumAt_40 rfl (lv_at hl 1 rfl) ?_
      refine lv_aload_n C.1 C.2.1 dX2_sumAt_41 rfl (lv_at hl 0 rfl) ?_
      refine gX2_22 C hP Nat.zero_lt_one dX2_sumAt_42 ?_
      refine lv_iload C.1 C.2.1 dX2_sumAt_45 (lv_at hl 3 rfl) ?_
      obtain ⟨h10, hw⟩ := hw
      refine al_8 C hP Nat.zero_lt_one h10 dX2_sumAt_47 ?_
      refine lv_iadd C.1 C.2.1 dX2_sumAt_48 ?_
      obtain ⟨h11, hw⟩ := hw
      refine al_10 C hP Nat.zero_lt_one h11 dX2_sumAt_49 ?_
      refine lv_ladd C.1 C.2.1 dX2_sumAt_50 ?_
      refine lv_topl (fun x12 e12 => ?_)
      have hw := hw x12 e12
      refine lv_lstore_n (lv' := [(2, .long x12), (0, .ref (g.2.1 (5 + 0))), (1, .int v1), (4, .int v4)]) C.1 C.2.1 dX2_sumAt_51 rfl hl (by decide) rfl (fun ls hl => ?_)
      obtain ⟨x13, e13⟩ : ∃ y : Int32, y = (v4 + 1) := ⟨_, rfl⟩
      have hw := hw x13 e13
      refine lv_iinc (v := x13) (lv' := [(4, .int x13), (2, .long x12), (0, .ref (g.2.1 (5 + 0))), (1, .int v1)]) C.1 C.2.1 dX2_sumAt_52 hl (k := 3) rfl (by rw [e13]; rfl) (by decide) rfl (fun ls hl => ?_)
      refine lv_goto (tgt := 26) C.1 C.2.1 dX2_sumAt_55 (by decide) ?_
      exact ih v1 x12 x13  _ hw (lv_sub hl [2, 3, 1, 0] rfl) hP hS
def p_X2_sumAt (a1 : Int32) (M : Mem) (Q : Mem → Prop) : Prop := ((a1 < 0 → (∀ M2 : Mem, M2 = sI M 5 0 2 0 → (∀ M3 : Mem, M3 = sI M2 5 0 3 0 → (Q M3)))) ∧ (¬ a1 < 0 → ((a1 < 62 → (∃ n26 : Nat, b_X2_sumAt_26 Q n26 a1 0 0 M)) ∧ (¬ a1 < 62 → (∀ M14 : Mem, M14 = sI M 5 0 2 0 → (∀ M15 : Mem, M15 = sI M14 5 0 3 0 → (Q M15)))))))
set_option maxRecDepth 100000 in
set_option maxHeartbeats 4000000 in
theorem c_X2_sumAt (l : Launch) (g : Geo) (gi : GI g) (a1 : Int32) (M : Mem) (Q : Mem → Prop) (hw : p_X2_sumAt a1 M Q) : Met l yX2_sumAt (Cond.code yX2_sumAt cX2_sumAt 7 none :: bg) ({ frames := 0, cells := 0, slots := 0, locals := 0 } : Room) (va_Pc [.ref (g.2.1 (5 + 0)), .int a1] (PW g (xw g M))) (va_Qv Q (PB g (xw g)) (Af 0 g)) 0 0 (Af 0 g) := by
  refine Met.ofW (cc := cX2_sumAt) (maxL := 7) (ret := none) (by decide +kernel) rfl ?_
  intro p e s m args below meth c s₁ B hml hv
  obtain ⟨rfl, hv⟩ := hv
  have C := CX.start (own := RX2) B hml rfl gi hv
  have hP := hv.1
  have hS : va_S (Af 0 g) s.heap s.heap [] := va_S.rf
  have hl := lv_entry ([.ref (g.2.1 (5 + 0)), .int a1]) (n := 7) (Nat.le_of_ble_eq_true rfl)
  rw [lg_entry_eq]
  generalize (lg_sl ([.ref (g.2.1 (5 + 0)), .int a1]) ++ List.replicate (7 - (lg_sl ([.ref (g.2.1 (5 + 0)), .int a1])).length) Slot.unset).toArray = ls at hl ⊢
  have hl : lv_has ls 7 [(0, .ref (g.2.1 (5 + 0))), (1, .int a1)] := hl
  unfold p_X2_sumAt at hw
  refine lv_iload_n C.1 C.2.1 dX2_sumAt_0 rfl (lv_at hl 1 rfl) ?_
  refine lv_if_lt (tgt := 10) C.1 C.2.1 dX2_sumAt_1 (by decide) (fun h1 => ?_) (fun h1 => ?_)
  · have hw := hw.1 h1
    refine lv_aload_n C.1 C.2.1 dX2_sumAt_10 rfl (lv_at hl 0 rfl) ?_
    refine lv_iconst (v := 0) C.1 C.2.1 dX2_sumAt_11 (by decide) ?_
    refine pX2_110 C hP hS Nat.zero_lt_one dX2_sumAt_12 (fun M2 e2 H locs hP hS => ?_)
    have hw := hw M2 e2
    refine lv_aload_n C.1 C.2.1 dX2_sumAt_15 rfl (lv_at hl 0 rfl) ?_
    refine lv_iconst (v := 0) C.1 C.2.1 dX2_sumAt_16 (by decide) ?_
    refine pX2_113 C hP hS Nat.zero_lt_one dX2_sumAt_17 (fun M3 e3 H locs hP hS => ?_)
    have hw := hw M3 e3
    exact retV (wf := (xw g)) C hP hS hw dX2_sumAt_20
  · have hw := hw.2 h1
    refine lv_iload_n C.1 C.2.1 dX2_sumAt_4 rfl (lv_at hl 1 rfl) ?_
    refine lv_bipush (v := 62) C.1 C.2.1 dX2_sumAt_5 (by decide) ?_
    refine lv_icmp_lt (tgt := 21) C.1 C.2.1 dX2_sumAt_7 (by decide) (fun h4 => ?_) (fun h4 => ?_)
    · have hw := hw.1 h4
      refine lv_lconst (v := 0) C.1 C.2.1 dX2_sumAt_21 (by decide) ?_
      refine lv_lstore_n (lv' := [(2, .long 0), (0, .ref (g.2.1 (5 + 0))), (1, .int a1)]) C.1 C.2.1 dX2_sumAt_22 rfl hl (by decide) rfl (fun ls hl => ?_)
      refine lv_iconst (v := 0) C.1 C.2.1 dX2_sumAt_23 (by decide) ?_
      refine lv_istore (lv' := [(4, .int 0), (2, .long 0), (0, .ref (g.2.1 (5 + 0))), (1, .int a1)]) C.1 C.2.1 dX2_sumAt_24 hl (by decide) rfl (fun ls hl => ?_)
      obtain ⟨n9, hw⟩ := hw
      exact k_X2_sumAt_26 (Q := Q) C n9 a1 0 0  _ hw (lv_sub hl [2, 3, 1, 0] rfl) hP hS
    · have hw := hw.2 h4
      refine lv_aload_n C.1 C.2.1 dX2_sumAt_10 rfl (lv_at hl 0 rfl) ?_
      refine lv_iconst (v := 0) C.1 C.2.1 dX2_sumAt_11 (by decide) ?_
      refine pX2_110 C hP hS Nat.zero_lt_one dX2_sumAt_12 (fun M14 e14 H locs hP hS => ?_)
      have hw := hw M14 e14
      refine lv_aload_n C.1 C.2.1 dX2_sumAt_15 rfl (lv_at hl 0 rfl) ?_
      refine lv_iconst (v := 0) C.1 C.2.1 dX2_sumAt_16 (by decide) ?_
      refine pX2_113 C hP hS Nat.zero_lt_one dX2_sumAt_17 (fun M15 e15 H locs hP hS => ?_)
      have hw := hw M15 e15
      exact retV (wf := (xw g)) C hP hS hw dX2_sumAt_20
def p_X2_power (M : Mem) (Q : Int32 → Mem → Prop) : Prop := (Q (((M.1 5 0 2) * (M.1 5 0 2)) + ((M.1 5 0 3) * (M.1 5 0 3))) M)
set_option maxRecDepth 100000 in
set_option maxHeartbeats 4000000 in
theorem c_X2_power (l : Launch) (g : Geo) (gi : GI g) (M : Mem) (Q : Int32 → Mem → Prop) (hw : p_X2_power  M Q) : Met l yX2_power (Cond.code yX2_power cX2_power 1 (some .int) :: bg) ({ frames := 0, cells := 0, slots := 0, locals := 0 } : Room) (va_Pc [.ref (g.2.1 (5 + 0))] (PW g (xw g M))) (va_Qi Q (PB g (xw g)) (Af 0 g)) 0 0 (Af 0 g) := by
  refine Met.ofW (cc := cX2_power) (maxL := 1) (ret := (some .int)) (by decide +kernel) rfl ?_
  intro p e s m args below meth c s₁ B hml hv
  obtain ⟨rfl, hv⟩ := hv
  have C := CX.start (own := RX2) B hml rfl gi hv
  have hP := hv.1
  have hS : va_S (Af 0 g) s.heap s.heap [] := va_S.rf
  have hl := lv_entry ([.ref (g.2.1 (5 + 0))]) (n := 1) (Nat.le_of_ble_eq_true rfl)
  rw [lg_entry_eq]
  generalize (lg_sl ([.ref (g.2.1 (5 + 0))]) ++ List.replicate (1 - (lg_sl ([.ref (g.2.1 (5 + 0))])).length) Slot.unset).toArray = ls at hl ⊢
  have hl : lv_has ls 1 [(0, .ref (g.2.1 (5 + 0)))] := hl
  unfold p_X2_power at hw
  refine lv_aload_n C.1 C.2.1 dX2_power_0 rfl (lv_at hl 0 rfl) ?_
  refine gX2_110 C hP Nat.zero_lt_one dX2_power_1 ?_
  refine lv_aload_n C.1 C.2.1 dX2_power_4 rfl (lv_at hl 0 rfl) ?_
  refine gX2_110 C hP Nat.zero_lt_one dX2_power_5 ?_
  refine lv_imul C.1 C.2.1 dX2_power_8 ?_
  refine lv_aload_n C.1 C.2.1 dX2_power_9 rfl (lv_at hl 0 rfl) ?_
  refine gX2_113 C hP Nat.zero_lt_one dX2_power_10 ?_
  refine lv_aload_n C.1 C.2.1 dX2_power_13 rfl (lv_at hl 0 rfl) ?_
  refine gX2_113 C hP Nat.zero_lt_one dX2_power_14 ?_
  refine lv_imul C.1 C.2.1 dX2_power_17 ?_
  refine lv_iadd C.1 C.2.1 dX2_power_18 ?_
  exact retI (wf := (xw g)) C hP hS hw dX2_power_19
def b_X10_parityOf_49 (Q : Int32 → Mem → Prop) (k4 : Int32 → Int32 → Int32 → Mem → Prop) (v0 : Int32) (v1 : Int32) (v2 : Int32) (v3 : Int32) (M : Mem) : Prop := (∀ x3 : Int32, x3 = ((v1 <<< (1 &&& 31)) ||| v3) → (∀ x4 : Int32, x4 = (v2 + 1) → (k4 v0 x3 x4 M)))
set_option maxRecDepth 100000 in
set_option maxHeartbeats 4000000 in
theorem k_X10_parityOf_49 {p : Program} {l : Launch} {e : Env} {s : State} {m : MethodId} {args : Array Value} {below : List Frame} {meth : Method} {c : Code} {g : Geo} (C : CX g p s m args meth c cX10_parityOf 5 (some .int) RX10) {Q : Int32 → Mem → Prop} {k4 : Int32 → Int32 → Int32 → Mem → Prop} (hk4 : ∀ (v0 : Int32) (v1 : Int32) (v2 : Int32) (M : Mem), k4 v0 v1 v2 M → ∀ (H : Heap) (locs : List Loc) (ls : Array Slot), lv_has ls 5 [(0, .int v0), (1, .int v1), (2, .int v2)] → va_P g.1 clz (xw g M) H → va_S (Af 0 g) s.heap H locs → W p l e ({ frames := 0, cells := 0, slots := 0, locals := 0 } : Room) s m args below meth c H locs 0 0 (MQ below (va_Qi Q (PB g (xw g)) (Af 0 g)) args s 0 0 (Af 0 g)) (F0 m 4 ls [])) (v0 : Int32) (v1 : Int32) (v2 : Int32) (v3 : Int32) (M : Mem) (hw : b_X10_parityOf_49 Q k4 v0 v1 v2 v3 M) {H : Heap} {locs : List Loc} {ls : Array Slot} (hl : lv_has ls 5 [(0, .int v0), (1, .int v1), (2, .int v2), (3, .int v3)]) (hP : va_P g.1 clz (xw g M) H) (hS : va_S (Af 0 g) s.heap H locs) : W p l e ({ frames := 0, cells := 0, slots := 0, locals := 0 } : Room) s m args below meth c H locs 0 0 (MQ below (va_Qi Q (PB g (xw g)) (Af 0 g)) args s 0 0 (Af 0 g)) (F0 m 49 ls []) := by
  unfold b_X10_parityOf_49 at hw
  refine lv_iload_n C.1 C.2.1 dX10_parityOf_49 rfl (lv_at hl 1 rfl) ?_
  refine lv_iconst (v := 1) C.1 C.2.1 dX10_parityOf_50 (by decide) ?_
  refine lv_ishl C.1 C.2.1 dX10_parityOf_51 ?_
  refine lv_iload_n C.1 C.2.1 dX10_parityOf_52 rfl (lv_at hl 3 rfl) ?_
  refine lv_ior C.1 C.2.1 dX10_parityOf_53 ?_
  refine lv_topi (fun x3 e3 => ?_)
  have hw := hw x3 e3
  refine lv_istore_n (lv' := [(1, .int x3), (0, .int v0), (2, .int v2), (3, .int v3)]) C.1 C.2.1 dX10_parityOf_54 rfl hl (by decide) rfl (fun ls hl => ?_)
  obtain ⟨x4, e4⟩ : ∃ y : Int32, y = (v2 + 1) := ⟨_, rfl⟩
  have hw := hw x4 e4
  refine lv_iinc (v := x4) (lv' := [(2, .int x4), (1, .int x3), (0, .int v0), (3, .int v3)]) C.1 C.2.1 dX10_parityOf_55 hl (k := 2) rfl (by rw [e4]; rfl) (by decide) rfl (fun ls hl => ?_)
  refine lv_goto (tgt := 4) C.1 C.2.1 dX10_parityOf_58 (by decide) ?_
  exact hk4 v0 x3 x4  _ hw _ _ _ (lv_sub hl [2, 1, 0] rfl) hP hS
def b_X10_parityOf_43 (Q : Int32 → Mem → Prop) (k14 : Int32 → Int32 → Int32 → Int32 → Int32 → Mem → Prop) (v0 : Int32) (v1 : Int32) (v2 : Int32) (v3 : Int32) (v4 : Int32) (M : Mem) : Prop := (∀ x6 : Int32, x6 = (v4 + 1) → (k14 v0 v1 v2 v3 x6 M))
set_option maxRecDepth 100000 in
set_option maxHeartbeats 4000000 in
theorem k_X10_parityOf_43 {p : Program} {l : Launch} {e : Env} {s : State} {m : MethodId} {args : Array Value} {below : List Frame} {meth : Method} {c : Code} {g : Geo} (C : CX g p s m args meth c cX10_parityOf 5 (some .int) RX10) {Q : Int32 → Mem → Prop} {k14 : Int32 → Int32 → Int32 → Int32 → Int32 → Mem → Prop} (hk14 : ∀ (v0 : Int32) (v1 : Int32) (v2 : Int32) (v3 : Int32) (v4 : Int32) (M : Mem), k14 v0 v1 v2 v3 v4 M → ∀ (H : Heap) (locs : List Loc) (ls : Array Slot), lv_has ls 5 [(0, .int v0), (1, .int v1), (2, .int v2), (3, .int v3), (4, .int v4)] → va_P g.1 clz (xw g M) H → va_S (Af 0 g) s.heap H locs → W p l e ({ frames := 0, cells := 0, slots := 0, locals := 0 } : Room) s m args below meth c H locs 0 0 (MQ below (va_Qi Q (PB g (xw g)) (Af 0 g)) args s 0 0 (Af 0 g)) (F0 m 14 ls [])) (v0 : Int32) (v1 : Int32) (v2 : Int32) (v3 : Int32) (v4 : Int32) (M : Mem) (hw : b_X10_parityOf_43 Q k14 v0 v1 v2 v3 v4 M) {H : Heap} {locs : List Loc} {ls : Array Slot} (hl : lv_has ls 5 [(0, .int v0), (1, .int v1), (2, .int v2), (3, .int v3), (4, .int v4)]) (hP : va_P g.1 clz (xw g M) H) (hS : va_S (Af 0 g) s.heap H locs) : W p l e ({ frames := 0, cells := 0, slots := 0, locals := 0 } : Room) s m args below meth c H locs 0 0 (MQ below (va_Qi Q (PB g (xw g)) (Af 0 g)) args s 0 0 (Af 0 g)) (F0 m 43 ls []) := by
  unfold b_X10_parityOf_43 at hw
  obtain ⟨x6, e6⟩ : ∃ y : Int32, y = (v4 + 1) := ⟨_, rfl⟩
  have hw := hw x6 e6
  refine lv_iinc (v := x6) (lv' := [(4, .int x6), (0, .int v0), (1, .int v1), (2, .int v2), (3, .int v3)]) C.1 C.2.1 dX10_parityOf_43 hl (k := 4) rfl (by rw [e6]; rfl) (by decide) rfl (fun ls hl => ?_)
  refine lv_goto (tgt := 14) C.1 C.2.1 dX10_parityOf_46 (by decide) ?_
  exact hk14 v0 v1 v2 v3 x6  _ hw _ _ _ (lv_sub hl [1, 2, 3, 4, 0] rfl) hP hS
def b_X10_parityOf_14 (Q : Int32 → Mem → Prop) (k4 : Int32 → Int32 → Int32 → Mem → Prop) : Nat → Int32 → Int32 → Int32 → Int32 → Int32 → Mem → Prop
  | 0, _, _, _, _, _, _ => False
  | n + 1, v0, v1, v2, v3, v4, M => ((8 < v4 → (b_X10_parityOf_49 Q k4 v0 v1 v2 v3 M)) ∧ (¬ 8 < v4 → ((¬ (((v4 : Int32).toUInt32 >>> ((v2 : Int32).toUInt32 &&& Int32.toUInt32 31)).toInt32 &&& 1) = 1 → (b_X10_parityOf_43 Q (fun v0 v1 v2 v3 v4 M => b_X10_parityOf_14 Q k4 n v0 v1 v2 v3 v4 M) v0 v1 v2 v3 v4 M)) ∧ ((((v4 : Int32).toUInt32 >>> ((v2 : Int32).toUInt32 &&& Int32.toUInt32 31)).toInt32 &&& 1) = 1 → (∀ x7 : Int32, x7 = (v3 ^^^ (((v0 : Int32).toUInt32 >>> ((((8 : Int32) - v4) : Int32).toUInt32 &&& Int32.toUInt32 31)).toInt32 &&& 1)) → (b_X10_parityOf_43 Q (fun v0 v1 v2 v3 v4 M => b_X10_parityOf_14 Q k4 n v0 v1 v2 v3 v4 M) v0 v1 v2 x7 v4 M))))))
set_option maxRecDepth 100000 in
set_option maxHeartbeats 4000000 in
theorem k_X10_parityOf_14 {p : Program} {l : Launch} {e : Env} {s : State} {m : MethodId} {args : Array Value} {below : List Frame} {meth : Method} {c : Code} {g : Geo} (C : CX g p s m args meth c cX10_parityOf 5 (some .int) RX10) {Q : Int32 → Mem → Prop} {k4 : Int32 → Int32 → Int32 → Mem → Prop} (hk4 : ∀ (v0 : Int32) (v1 : Int32) (v2 : Int32) (M : Mem), k4 v0 v1 v2 M → ∀ (H : Heap) (locs : List Loc) (ls : Array Slot), lv_has ls 5 [(0, .int v0), (1, .int v1), (2, .int v2)] → va_P g.1 clz (xw g M) H → va_S (Af 0 g) s.heap H locs → W p l e ({ frames := 0, cells := 0, slots := 0, locals := 0 } : Room) s m args below meth c H locs 0 0 (MQ below (va_Qi Q (PB g (xw g)) (Af 0 g)) args s 0 0 (Af 0 g)) (F0 m 4 ls [])) : ∀ (n : Nat) (v0 : Int32) (v1 : Int32) (v2 : Int32) (v3 : Int32) (v4 : Int32) (M : Mem) (hw : b_X10_parityOf_14 Q k4 n v0 v1 v2 v3 v4 M) {H : Heap} {locs : List Loc} {ls : Array Slot} (hl : lv_has ls 5 [(0, .int v0), (1, .int v1), (2, .int v2), (3, .int v3), (4, .int v4)]) (hP : va_P g.1 clz (xw g M) H) (hS : va_S (Af 0 g) s.heap H locs), W p l e ({ frames := 0, cells := 0, slots := 0, locals := 0 } : Room) s m args below meth c H locs 0 0 (MQ below (va_Qi Q (PB g (xw g)) (Af 0 g)) args s 0 0 (Af 0 g)) (F0 m 14 ls []) := by
  intro n
  induction n with
  | zero => intro v0 v1 v2 v3 v4 M hw H locs ls hl hP hS; exact absurd hw (by rw [b_X10_parityOf_14]; exact fun h => h)
  | succ n ih =>
    intro v0 v1 v2 v3 v4 M hw H locs ls hl hP hS
    rw [b_X10_parityOf_14] at hw
    refine lv_iload C.1 C.2.1 dX10_parityOf_14 (lv_at hl 4 rfl) ?_
    refine lv_bipush (v := 8) C.1 C.2.1 dX10_parityOf_16 (by decide) ?_
    refine lv_icmp_gt (tgt := 49) C.1 C.2.1 dX10_parityOf_18 (by decide) (fun h2 => ?_) (fun h2 => ?_)
    · have hw := hw.1 h2
      exact k_X10_parityOf_49 (Q := Q) C hk4 v0 v1 v2 v3  _ hw (lv_sub hl [0, 1, 2, 3] rfl) hP hS
    · have hw := hw.2 h2
      refine lv_iload C.1 C.2.1 dX10_parityOf_21 (lv_at hl 4 rfl) ?_
      refine lv_iload_n C.1 C.2.1 dX10_parityOf_23 rfl (lv_at hl 2 rfl) ?_
      refine lv_iushr C.1 C.2.1 dX10_parityOf_24 rfl ?_
      refine lv_iconst (v := 1) C.1 C.2.1 dX10_parityOf_25 (by decide) ?_
      refine lv_iand C.1 C.2.1 dX10_parityOf_26 ?_
      refine lv_iconst (v := 1) C.1 C.2.1 dX10_parityOf_27 (by decide) ?_
      refine lv_icmp_ne (tgt := 43) C.1 C.2.1 dX10_parityOf_28 (by decide) (fun h5 => ?_) (fun h5 => ?_)
      · have hw := hw.1 h5
        exact k_X10_parityOf_43 (Q := Q) C (fun v0 v1 v2 v3 v4  M hw H locs ls hl hP hS => ih v0 v1 v2 v3 v4  M hw hl hP hS) v0 v1 v2 v3 v4  _ hw (lv_sub hl [0, 1, 2, 3, 4] rfl) hP hS
      · have hw := hw.2 h5
        refine lv_iload_n C.1 C.2.1 dX10_parityOf_31 rfl (lv_at hl 3 rfl) ?_
        refine lv_iload_n C.1 C.2.1 dX10_parityOf_32 rfl (lv_at hl 0 rfl) ?_
        refine lv_bipush (v := 8) C.1 C.2.1 dX10_parityOf_33 (by decide) ?_
        refine lv_iload C.1 C.2.1 dX10_parityOf_35 (lv_at hl 4 rfl) ?_
        refine lv_isub C.1 C.2.1 dX10_parityOf_37 ?_
        refine lv_iushr C.1 C.2.1 dX10_parityOf_38 rfl ?_
        refine lv_iconst (v := 1) C.1 C.2.1 dX10_parityOf_39 (by decide) ?_
        refine lv_iand C.1 C.2.1 dX10_parityOf_40 ?_
        refine lv_ixor C.1 C.2.1 dX10_parityOf_41 ?_
        refine lv_topi (fun x7 e7 => ?_)
        have hw := hw x7 e7
        refine lv_istore_n (lv' := [(3, .int x7), (0, .int v0), (1, .int v1), (2, .int v2), (4, .int v4)]) C.1 C.2.1 dX10_parityOf_42 rfl hl (by decide) rfl (fun ls hl => ?_)
        exact k_X10_parityOf_43 (Q := Q) C (fun v0 v1 v2 v3 v4  M hw H locs ls hl hP hS => ih v0 v1 v2 v3 v4  M hw hl hP hS) v0 v1 v2 x7 v4  _ hw (lv_sub hl [1, 2, 3, 0, 4] rfl) hP hS
def b_X10_parityOf_4 (Q : Int32 → Mem → Prop) : Nat → Int32 → Int32 → Int32 → Mem → Prop
  | 0, _, _, _, _ => False
  | n + 1, v0, v1, v2, M => ((4 ≤ v2 → (Q v1 M)) ∧ (¬ 4 ≤ v2 → (∃ n14 : Nat, b_X10_parityOf_14 Q (fun v0 v1 v2 M => b_X10_parityOf_4 Q n v0 v1 v2 M) n14 v0 v1 v2 0 1 M)))
set_option maxRecDepth 100000 in
set_option maxHeartbeats 4000000 in
theorem k_X10_parityOf_4 {p : Program} {l : Launch} {e : Env} {s : State} {m : MethodId} {args : Array Value} {below : List Frame} {meth : Method} {c : Code} {g : Geo} (C : CX g p s m args meth c cX10_parityOf 5 (some .int) RX10) {Q : Int32 → Mem → Prop} : ∀ (n : Nat) (v0 : Int32) (v1 : Int32) (v2 : Int32) (M : Mem) (hw : b_X10_parityOf_4 Q n v0 v1 v2 M) {H : Heap} {locs : List Loc} {ls : Array Slot} (hl : lv_has ls 5 [(0, .int v0), (1, .int v1), (2, .int v2)]) (hP : va_P g.1 clz (xw g M) H) (hS : va_S (Af 0 g) s.heap H locs), W p l e ({ frames := 0, cells := 0, slots := 0, locals := 0 } : Room) s m args below meth c H locs 0 0 (MQ below (va_Qi Q (PB g (xw g)) (Af 0 g)) args s 0 0 (Af 0 g)) (F0 m 4 ls []) := by
  intro n
  induction n with
  | zero => intro v0 v1 v2 M hw H locs ls hl hP hS; exact absurd hw (by rw [b_X10_parityOf_4]; exact fun h => h)
  | succ n ih =>
    intro v0 v1 v2 M hw H locs ls hl hP hS
    rw [b_X10_parityOf_4] at hw
    refine lv_iload_n C.1 C.2.1 dX10_parityOf_4 rfl (lv_at hl 2 rfl) ?_
    refine lv_iconst (v := 4) C.1 C.2.1 dX10_parityOf_5 (by decide) ?_
    refine lv_icmp_ge (tgt := 61) C.1 C.2.1 dX10_parityOf_6 (by decide) (fun h1 => ?_) (fun h1 => ?_)
    · have hw := hw.1 h1
      refine lv_iload_n C.1 C.2.1 dX10_parityOf_61 rfl (lv_at hl 1 rfl) ?_
      exact retI (wf := (xw g)) C hP hS hw dX10_parityOf_62
    · have hw := hw.2 h1
      refine lv_iconst (v := 0) C.1 C.2.1 dX10_parityOf_9 (by decide) ?_
      refine lv_istore_n (lv' := [(3, .int 0), (0, .int v0), (1, .int v1), (2, .int v2)]) C.1 C.2.1 dX10_parityOf_10 rfl hl (by decide) rfl (fun ls hl => ?_)
      refine lv_iconst (v := 1) C.1 C.2.1 dX10_parityOf_11 (by decide) ?_
      refine lv_istore (lv' := [(4, .int 1), (3, .int 0), (0, .int v0), (1, .int v1), (2, .int v2)]) C.1 C.2.1 dX10_parityOf_12 hl (by decide) rfl (fun ls hl => ?_)
      obtain ⟨n9, hw⟩ := hw
      exact k_X10_parityOf_14 (Q := Q) C (fun v0 v1 v2  M hw H locs ls hl hP hS => ih v0 v1 v2  M hw hl hP hS) n9 v0 v1 v2 0 1  _ hw (lv_sub hl [2, 3, 4, 1, 0] rfl) hP hS
def p_X10_parityOf (a0 : Int32) (M : Mem) (Q : Int32 → Mem → Prop) : Prop := (∃ n4 : Nat, b_X10_parityOf_4 Q n4 a0 0 0 M)
set_option maxRecDepth 100000 in
set_option maxHeartbeats 4000000 in
theorem c_X10_parityOf (l : Launch) (g : Geo) (gi : GI g) (a0 : Int32) (M : Mem) (Q : Int32 → Mem → Prop) (hw : p_X10_parityOf a0 M Q) : Met l yX10_parityOf (Cond.code yX10_parityOf cX10_parityOf 5 (some .int) :: bg) ({ frames := 0, cells := 0, slots := 0, locals := 0 } : Room) (va_Pc [.int a0] (PW g (xw g M))) (va_Qi Q (PB g (xw g)) (Af 0 g)) 0 0 (Af 0 g) := by
  refine Met.ofW (cc := cX10_parityOf) (maxL := 5) (ret := (some .int)) (by decide +kernel) rfl ?_
  intro p e s m args below meth c s₁ B hml hv
  obtain ⟨rfl, hv⟩ := hv
  have C := CX.start (own := RX10) B hml rfl gi hv
  have hP := hv.1
  have hS : va_S (Af 0 g) s.heap s.heap [] := va_S.rf
  have hl := lv_entry ([.int a0]) (n := 5) (Nat.le_of_ble_eq_true rfl)
  rw [lg_entry_eq]
  generalize (lg_sl ([.int a0]) ++ List.replicate (5 - (lg_sl ([.int a0])).length) Slot.unset).toArray = ls at hl ⊢
  have hl : lv_has ls 5 [(0, .int a0)] := hl
  unfold p_X10_parityOf at hw
  refine lv_iconst (v := 0) C.1 C.2.1 dX10_parityOf_0 (by decide) ?_
  refine lv_istore_n (lv' := [(1, .int 0), (0, .int a0)]) C.1 C.2.1 dX10_parityOf_1 rfl hl (by decide) rfl (fun ls hl => ?_)
  refine lv_iconst (v := 0) C.1 C.2.1 dX10_parityOf_2 (by decide) ?_
  refine lv_istore_n (lv' := [(2, .int 0), (1, .int 0), (0, .int a0)]) C.1 C.2.1 dX10_parityOf_3 rfl hl (by decide) rfl (fun ls hl => ?_)
  obtain ⟨n9, hw⟩ := hw
  exact k_X10_parityOf_4 (Q := Q) C n9 a0 0 0  _ hw (lv_sub hl [2, 1, 0] rfl) hP hS
def b_X3_readWord_44 (Q : Int32 → Mem → Prop) (v1 : Int32) (v4 : Int32) (s0 : Int32) (M : Mem) : Prop := (p_X10_parityOf ((((s0 : Int32).toUInt32 >>> ((4 : Int32).toUInt32 &&& Int32.toUInt32 31)).toInt32 &&& 255)) M (fun r5 M5 => (((s0 &&& 15) = r5 → ((4 ≤ (M5.1 13 0 0) → (Q 1 M5)) ∧ (¬ 4 ≤ (M5.1 13 0 0) → (vp_in (M5.1 13 0 0) 4 ∧ (∀ M8 : Mem, M8 = sI M5 14 0 ((M5.1 13 0 0) : Int32).toNatClampNeg v1 → (vp_in (M8.1 13 0 0) 4 ∧ (∀ M9 : Mem, M9 = sI M8 15 0 ((M8.1 13 0 0) : Int32).toNatClampNeg s0 → (vp_in (M9.1 13 0 0) 4 ∧ (∀ M10 : Mem, M10 = sI M9 16 0 ((M9.1 13 0 0) : Int32).toNatClampNeg v4 → (∀ M11 : Mem, M11 = sI M10 13 0 0 ((M10.1 13 0 0) + 1) → (Q 1 M11))))))))))) ∧ (¬ (s0 &&& 15) = r5 → (∀ M12 : Mem, M12 = sI M5 13 0 1 ((M5.1 13 0 1) + 1) → (Q 0 M12))))))
set_option maxRecDepth 100000 in
set_option maxHeartbeats 4000000 in
theorem k_X3_readWord_44 {p : Program} {l : Launch} {e : Env} {s : State} {m : MethodId} {args : Array Value} {below : List Frame} {meth : Method} {c : Code} {g : Geo} (C : CX g p s m args meth c cX3_readWord 6 (some .boolean) RX3) {Q : Int32 → Mem → Prop} (v1 : Int32) (v4 : Int32) (s0 : Int32) (M : Mem) (hw : b_X3_readWord_44 Q v1 v4 s0 M) {H : Heap} {locs : List Loc} {ls : Array Slot} (hl : lv_has ls 6 [(0, .ref (g.2.1 (13 + 0))), (1, .int v1), (4, .int v4)]) (hP : va_P g.1 clz (xw g M) H) (hS : va_S (Af 0 g) s.heap H locs) : W p l e ({ frames := 1, cells := 0, slots := 0, locals := 24 } : Room) s m args below meth c H locs 0 0 (MQ below (va_Qi (fun r M => Q r M ∧ narrow .boolean (.int r) = .int r) (PB g (xw g)) (Af 0 g)) args s 0 0 (Af 0 g)) (F0 m 44 ls [.int s0]) := by
  unfold b_X3_readWord_44 at hw
  refine lv_istore (lv' := [(5, .int s0), (0, .ref (g.2.1 (13 + 0))), (1, .int v1), (4, .int v4)]) C.1 C.2.1 dX3_readWord_44 hl (by decide) rfl (fun ls hl => ?_)
  refine lv_iload C.1 C.2.1 dX3_readWord_46 (lv_at hl 0 rfl) ?_
  refine lv_bipush (v := 15) C.1 C.2.1 dX3_readWord_48 (by decide) ?_
  refine lv_iand C.1 C.2.1 dX3_readWord_50 ?_
  refine lv_iload C.1 C.2.1 dX3_readWord_51 (lv_at hl 0 rfl) ?_
  refine lv_iconst (v := 4) C.1 C.2.1 dX3_readWord_53 (by decide) ?_
  refine lv_iushr C.1 C.2.1 dX3_readWord_54 rfl ?_
  refine lv_sipush (v := 255) C.1 C.2.1 dX3_readWord_55 (by decide) ?_
  refine lv_iand C.1 C.2.1 dX3_readWord_58 ?_
  refine goI (wf := (xw g)) (runN (w := xw g M) (As := [.int (((s0 : Int32).toUInt32 >>> ((4 : Int32).toUInt32 &&& Int32.toUInt32 31)).toInt32 &&& 255)]) (rest := [.int (s0 &&& 15)]) C lkX3_33 (c_X10_parityOf l g C.2.2.2.2.2.2.2.2.2.2 ((((s0 : Int32).toUInt32 >>> ((4 : Int32).toUInt32 &&& Int32.toUInt32 31)).toInt32 &&& 255))  M _ hw) hP hS rfl rfl ⟨Nat.le_of_ble_eq_true rfl, Nat.le_of_ble_eq_true rfl⟩ hl.1 rfl (Nat.le_of_ble_eq_true rfl) dX3_readWord_59) hS (fun r5 M5 hw H locs hP hS => ?_)
  refine lv_icmp_eq (tgt := 77) C.1 C.2.1 dX3_readWord_62 (by decide) (fun h6 => ?_) (fun h6 => ?_)
  · have hw := hw.1 h6
    refine lv_aload_n C.1 C.2.1 dX3_readWord_77 rfl (lv_at hl 1 rfl) ?_
    refine gX3_21 C hP Nat.zero_lt_one dX3_readWord_78 ?_
    refine lv_iconst (v := 4) C.1 C.2.1 dX3_readWord_81 (by decide) ?_
    refine lv_icmp_ge (tgt := 127) C.1 C.2.1 dX3_readWord_82 (by decide) (fun h7 => ?_) (fun h7 => ?_)
    · have hw := hw.1 h7
      refine lv_iconst (v := 1) C.1 C.2.1 dX3_readWord_127 (by decide) ?_
      exact retZ (wf := (xw g)) C hP hS rfl hw dX3_readWord_128
    · have hw := hw.2 h7
      refine lv_aload_n C.1 C.2.1 dX3_readWord_85 rfl (lv_at hl 1 rfl) ?_
      refine gX3_11 C hP Nat.zero_lt_one dX3_readWord_86 ?_
      refine lv_aload_n C.1 C.2.1 dX3_readWord_89 rfl (lv_at hl 1 rfl) ?_
      refine gX3_21 C hP Nat.zero_lt_one dX3_readWord_90 ?_
      refine lv_iload_n C.1 C.2.1 dX3_readWord_93 rfl (lv_at hl 2 rfl) ?_
      obtain ⟨h8, hw⟩ := hw
      refine as_14 C hP hS Nat.zero_lt_one h8 dX3_readWord_94 (fun M8 e8 H locs hP hS => ?_)
      have hw := hw M8 e8
      refine lv_aload_n C.1 C.2.1 dX3_readWord_95 rfl (lv_at hl 1 rfl) ?_
      refine gX3_15 C hP Nat.zero_lt_one dX3_readWord_96 ?_
      refine lv_aload_n C.1 C.2.1 dX3_readWord_99 rfl (lv_at hl 1 rfl) ?_
      refine gX3_21 C hP Nat.zero_lt_one dX3_readWord_100 ?_
      refine lv_iload C.1 C.2.1 dX3_readWord_103 (lv_at hl 0 rfl) ?_
      obtain ⟨h9, hw⟩ := hw
      refine as_15 C hP hS Nat.zero_lt_one h9 dX3_readWord_105 (fun M9 e9 H locs hP hS => ?_)
      have hw := hw M9 e9
      refine lv_aload_n C.1 C.2.1 dX3_readWord_106 rfl (lv_at hl 1 rfl) ?_
      refine gX3_18 C hP Nat.zero_lt_one dX3_readWord_107 ?_
      refine lv_aload_n C.1 C.2.1 dX3_readWord_110 rfl (lv_at hl 1 rfl) ?_
      refine gX3_21 C hP Nat.zero_lt_one dX3_readWord_111 ?_
      refine lv_iload C.1 C.2.1 dX3_readWord_114 (lv_at hl 3 rfl) ?_
      obtain ⟨h10, hw⟩ := hw
      refine as_16 C hP hS Nat.zero_lt_one h10 dX3_readWord_116 (fun M10 e10 H locs hP hS => ?_)
      have hw := hw M10 e10
      refine lv_aload_n C.1 C.2.1 dX3_readWord_117 rfl (lv_at hl 1 rfl) ?_
      refine lv_dup C.1 C.2.1 dX3_readWord_118 rfl ?_
      refine gX3_21 C hP Nat.zero_lt_one dX3_readWord_119 ?_
      refine lv_iconst (v := 1) C.1 C.2.1 dX3_readWord_122 (by decide) ?_
      refine lv_iadd C.1 C.2.1 dX3_readWord_123 ?_
      refine pX3_21 C hP hS Nat.zero_lt_one dX3_readWord_124 (fun M11 e11 H locs hP hS => ?_)
      have hw := hw M11 e11
      refine lv_iconst (v := 1) C.1 C.2.1 dX3_readWord_127 (by decide) ?_
      exact retZ (wf := (xw g)) C hP hS rfl hw dX3_readWord_128
  · have hw := hw.2 h6
    refine lv_aload_n C.1 C.2.1 dX3_readWord_65 rfl (lv_at hl 1 rfl) ?_
    refine lv_dup C.1 C.2.1 dX3_readWord_66 rfl ?_
    refine gX3_25 C hP Nat.zero_lt_one dX3_readWord_67 ?_
    refine lv_iconst (v := 1) C.1 C.2.1 dX3_readWord_70 (by decide) ?_
    refine lv_iadd C.1 C.2.1 dX3_readWord_71 ?_
    refine pX3_25 C hP hS Nat.zero_lt_one dX3_readWord_72 (fun M12 e12 H locs hP hS => ?_)
    have hw := hw M12 e12
    refine lv_iconst (v := 0) C.1 C.2.1 dX3_readWord_75 (by decide) ?_
    exact retZ (wf := (xw g)) C hP hS rfl hw dX3_readWord_76
def b_X3_readWord_28 (Q : Int32 → Mem → Prop) (v1 : Int32) (v2 : Int32) (s0 : Int32) (M : Mem) : Prop := ((¬ s0 = 1 → (b_X3_readWord_44 Q v1 s0 v2 M)) ∧ (s0 = 1 → (b_X3_readWord_44 Q v1 s0 ((v2 ^^^ 65535)) M)))
set_option maxRecDepth 100000 in
set_option maxHeartbeats 4000000 in
theorem k_X3_readWord_28 {p : Program} {l : Launch} {e : Env} {s : State} {m : MethodId} {args : Array Value} {below : List Frame} {meth : Method} {c : Code} {g : Geo} (C : CX g p s m args meth c cX3_readWord 6 (some .boolean) RX3) {Q : Int32 → Mem → Prop} (v1 : Int32) (v2 : Int32) (s0 : Int32) (M : Mem) (hw : b_X3_readWord_28 Q v1 v2 s0 M) {H : Heap} {locs : List Loc} {ls : Array Slot} (hl : lv_has ls 6 [(0, .ref (g.2.1 (13 + 0))), (1, .int v1), (2, .int v2)]) (hP : va_P g.1 clz (xw g M) H) (hS : va_S (Af 0 g) s.heap H locs) : W p l e ({ frames := 1, cells := 0, slots := 0, locals := 24 } : Room) s m args below meth c H locs 0 0 (MQ below (va_Qi (fun r M => Q r M ∧ narrow .boolean (.int r) = .int r) (PB g (xw g)) (Af 0 g)) args s 0 0 (Af 0 g)) (F0 m 28 ls [.int s0]) := by
  unfold b_X3_readWord_28 at hw
  refine lv_istore (lv' := [(4, .int s0), (0, .ref (g.2.1 (13 + 0))), (1, .int v1), (2, .int v2)]) C.1 C.2.1 dX3_readWord_28 hl (by decide) rfl (fun ls hl => ?_)
  refine lv_iload C.1 C.2.1 dX3_readWord_30 (lv_at hl 0 rfl) ?_
  refine lv_iconst (v := 1) C.1 C.2.1 dX3_readWord_32 (by decide) ?_
  refine lv_icmp_ne (tgt := 43) C.1 C.2.1 dX3_readWord_33 (by decide) (fun h4 => ?_) (fun h4 => ?_)
  · have hw := hw.1 h4
    refine lv_iload_n C.1 C.2.1 dX3_readWord_43 rfl (lv_at hl 3 rfl) ?_
    exact k_X3_readWord_44 (Q := Q) C v1 s0 v2  _ hw (lv_sub hl [1, 2, 0] rfl) hP hS
  · have hw := hw.2 h4
    refine lv_iload_n C.1 C.2.1 dX3_readWord_36 rfl (lv_at hl 3 rfl) ?_
    refine lv_ldc (v := 65535) C.1 C.2.1 C.2.2.2.2.1 (C.2.2.2.2.2.1 _ (bg_of 1057 (by decide +kernel) rfl)) dX3_readWord_37 ?_
    refine lv_ixor C.1 C.2.1 dX3_readWord_39 ?_
    refine lv_goto (tgt := 44) C.1 C.2.1 dX3_readWord_40 (by decide) ?_
    exact k_X3_readWord_44 (Q := Q) C v1 s0 ((v2 ^^^ 65535))  _ hw (lv_sub hl [1, 2, 0] rfl) hP hS
def b_X3_readWord_18 (Q : Int32 → Mem → Prop) (v1 : Int32) (v2 : Int32) (v3 : Int32) (M : Mem) : Prop := ((¬ v3 = 4 → (b_X3_readWord_28 Q v1 v2 0 M)) ∧ (v3 = 4 → (b_X3_readWord_28 Q v1 v2 1 M)))
set_option maxRecDepth 100000 in
set_option maxHeartbeats 4000000 in
theorem k_X3_readWord_18 {p : Program} {l : Launch} {e : Env} {s : State} {m : MethodId} {args : Array Value} {below : List Frame} {meth : Method} {c : Code} {g : Geo} (C : CX g p s m args meth c cX3_readWord 6 (some .boolean) RX3) {Q : Int32 → Mem → Prop} (v1 : Int32) (v2 : Int32) (v3 : Int32) (M : Mem) (hw : b_X3_readWord_18 Q v1 v2 v3 M) {H : Heap} {locs : List Loc} {ls : Array Slot} (hl : lv_has ls 6 [(0, .ref (g.2.1 (13 + 0))), (1, .int v1), (2, .int v2), (3, .int v3)]) (hP : va_P g.1 clz (xw g M) H) (hS : va_S (Af 0 g) s.heap H locs) : W p l e ({ frames := 1, cells := 0, slots := 0, locals := 24 } : Room) s m args below meth c H locs 0 0 (MQ below (va_Qi (fun r M => Q r M ∧ narrow .boolean (.int r) = .int r) (PB g (xw g)) (Af 0 g)) args s 0 0 (Af 0 g)) (F0 m 18 ls []) := by
  unfold b_X3_readWord_18 at hw
  refine lv_iload_n C.1 C.2.1 dX3_readWord_18 rfl (lv_at hl 3 rfl) ?_
  refine lv_iconst (v := 4) C.1 C.2.1 dX3_readWord_19 (by decide) ?_
  refine lv_icmp_ne (tgt := 27) C.1 C.2.1 dX3_readWord_20 (by decide) (fun h3 => ?_) (fun h3 => ?_)
  · have hw := hw.1 h3
    refine lv_iconst (v := 0) C.1 C.2.1 dX3_readWord_27 (by decide) ?_
    exact k_X3_readWord_28 (Q := Q) C v1 v2 0  _ hw (lv_sub hl [0, 1, 2] rfl) hP hS
  · have hw := hw.2 h3
    refine lv_iconst (v := 1) C.1 C.2.1 dX3_readWord_23 (by decide) ?_
    refine lv_goto (tgt := 28) C.1 C.2.1 dX3_readWord_24 (by decide) ?_
    exact k_X3_readWord_28 (Q := Q) C v1 v2 1  _ hw (lv_sub hl [0, 1, 2] rfl) hP hS
def p_X3_readWord (a1 : Int32) (a2 : Int32) (M : Mem) (Q : Int32 → Mem → Prop) : Prop := (∀ x1 : Int32, x1 = ((a2 : Int32).toUInt32 >>> ((12 : Int32).toUInt32 &&& Int32.toUInt32 31)).toInt32 → ((x1 = 11 → (b_X3_readWord_18 Q a1 a2 x1 M)) ∧ (¬ x1 = 11 → ((x1 = 4 → (b_X3_readWord_18 Q a1 a2 x1 M)) ∧ (¬ x1 = 4 → (Q 0 M))))))
set_option maxRecDepth 100000 in
set_option maxHeartbeats 4000000 in
theorem c_X3_readWord (l : Launch) (g : Geo) (gi : GI g) (a1 : Int32) (a2 : Int32) (M : Mem) (Q : Int32 → Mem → Prop) (hw : p_X3_readWord a1 a2 M Q) : Met l yX3_readWord (Cond.code yX3_readWord cX3_readWord 6 (some .boolean) :: bg) ({ frames := 1, cells := 0, slots := 0, locals := 24 } : Room) (va_Pc [.ref (g.2.1 (13 + 0)), .int a1, .int a2] (PW g (xw g M))) (va_Qi (fun r M => Q r M ∧ narrow .boolean (.int r) = .int r) (PB g (xw g)) (Af 0 g)) 0 0 (Af 0 g) := by
  refine Met.ofW (cc := cX3_readWord) (maxL := 6) (ret := (some .boolean)) (by decide +kernel) rfl ?_
  intro p e s m args below meth c s₁ B hml hv
  obtain ⟨rfl, hv⟩ := hv
  have C := CX.start (own := RX3) B hml rfl gi hv
  have hP := hv.1
  have hS : va_S (Af 0 g) s.heap s.heap [] := va_S.rf
  have hl := lv_entry ([.ref (g.2.1 (13 + 0)), .int a1, .int a2]) (n := 6) (Nat.le_of_ble_eq_true rfl)
  rw [lg_entry_eq]
  generalize (lg_sl ([.ref (g.2.1 (13 + 0)), .int a1, .int a2]) ++ List.replicate (6 - (lg_sl ([.ref (g.2.1 (13 + 0)), .int a1, .int a2])).length) Slot.unset).toArray = ls at hl ⊢
  have hl : lv_has ls 6 [(0, .ref (g.2.1 (13 + 0))), (1, .int a1), (2, .int a2)] := hl
  unfold p_X3_readWord at hw
  refine lv_iload_n C.1 C.2.1 dX3_readWord_0 rfl (lv_at hl 2 rfl) ?_
  refine lv_bipush (v := 12) C.1 C.2.1 dX3_readWord_1 (by decide) ?_
  refine lv_iushr C.1 C.2.1 dX3_readWord_3 rfl ?_
  refine lv_topi (fun x1 e1 => ?_)
  have hw := hw x1 e1
  refine lv_istore_n (lv' := [(3, .int x1), (0, .ref (g.2.1 (13 + 0))), (1, .int a1), (2, .int a2)]) C.1 C.2.1 dX3_readWord_4 rfl hl (by decide) rfl (fun ls hl => ?_)
  refine lv_iload_n C.1 C.2.1 dX3_readWord_5 rfl (lv_at hl 0 rfl) ?_
  refine lv_bipush (v := 11) C.1 C.2.1 dX3_readWord_6 (by decide) ?_
  refine lv_icmp_eq (tgt := 18) C.1 C.2.1 dX3_readWord_8 (by decide) (fun h2 => ?_) (fun h2 => ?_)
  · have hw := hw.1 h2
    exact k_X3_readWord_18 (Q := Q) C a1 a2 x1  _ hw (lv_sub hl [1, 2, 3, 0] rfl) hP hS
  · have hw := hw.2 h2
    refine lv_iload_n C.1 C.2.1 dX3_readWord_11 rfl (lv_at hl 0 rfl) ?_
    refine lv_iconst (v := 4) C.1 C.2.1 dX3_readWord_12 (by decide) ?_
    refine lv_icmp_eq (tgt := 18) C.1 C.2.1 dX3_readWord_13 (by decide) (fun h13 => ?_) (fun h13 => ?_)
    · have hw := hw.1 h13
      exact k_X3_readWord_18 (Q := Q) C a1 a2 x1  _ hw (lv_sub hl [1, 2, 3, 0] rfl) hP hS
    · have hw := hw.2 h13
      refine lv_iconst (v := 0) C.1 C.2.1 dX3_readWord_16 (by decide) ?_
      exact retZ (wf := (xw g)) C hP hS rfl hw dX3_readWord_17
def b_X3_read_56 (Q : Mem → Prop) (k13 : Int64 → Int32 → Int32 → Mem → Prop) (v1 : Int64) (v3 : Int32) (s0 : Int32) (s1 : Int32) (M : Mem) : Prop := (∀ x7 : Int32, x7 = (s0 + s1) → (k13 v1 v3 x7 M))
set_option maxRecDepth 100000 in
set_option maxHeartbeats 4000000 in
theorem k_X3_read_56 {p : Program} {l : Launch} {e : Env} {s : State} {m : MethodId} {args : Array Value} {below : List Frame} {meth : Method} {c : Code} {g : Geo} (C : CX g p s m args meth c cX3_read 6 none RX3) {Q : Mem → Prop} {k13 : Int64 → Int32 → Int32 → Mem → Prop} (hk13 : ∀ (v1 : Int64) (v3 : Int32) (v4 : Int32) (M : Mem), k13 v1 v3 v4 M → ∀ (H : Heap) (locs : List Loc) (ls : Array Slot), lv_has ls 6 [(0, .ref (g.2.1 (13 + 0))), (1, .long v1), (3, .int v3), (4, .int v4)] → va_P g.1 clz (xw g M) H → va_S (Af 0 g) s.heap H locs → W p l e ({ frames := 2, cells := 0, slots := 0, locals := 49 } : Room) s m args below meth c H locs 0 0 (MQ below (va_Qv Q (PB g (xw g)) (Af 0 g)) args s 0 0 (Af 0 g)) (F0 m 13 ls [])) (v1 : Int64) (v3 : Int32) (s0 : Int32) (s1 : Int32) (M : Mem) (hw : b_X3_read_56 Q k13 v1 v3 s0 s1 M) {H : Heap} {locs : List Loc} {ls : Array Slot} (hl : lv_has ls 6 [(0, .ref (g.2.1 (13 + 0))), (1, .long v1), (3, .int v3)]) (hP : va_P g.1 clz (xw g M) H) (hS : va_S (Af 0 g) s.heap H locs) : W p l e ({ frames := 2, cells := 0, slots := 0, locals := 49 } : Room) s m args below meth c H locs 0 0 (MQ below (va_Qv Q (PB g (xw g)) (Af 0 g)) args s 0 0 (Af 0 g)) (F0 m 56 ls [.int s1, .int s0]) := by
  unfold b_X3_read_56 at hw
  refine lv_iadd C.1 C.2.1 dX3_read_56 ?_
  refine lv_topi (fun x7 e7 => ?_)
  have hw := hw x7 e7
  refine lv_istore (lv' := [(4, .int x7), (0, .ref (g.2.1 (13 + 0))), (1, .long v1), (3, .int v3)]) C.1 C.2.1 dX3_read_57 hl (by decide) rfl (fun ls hl => ?_)
  refine lv_goto (tgt := 13) C.1 C.2.1 dX3_read_59 (by decide) ?_
  exact hk13 v1 v3 x7  _ hw _ _ _ (lv_sub hl [1, 2, 3, 0] rfl) hP hS
def b_X3_read_13 (Q : Mem → Prop) : Nat → Int64 → Int32 → Int32 → Mem → Prop
  | 0, _, _, _, _ => False
  | n + 1, v1, v3, v4, M => ((v3 < (v4 + 16) → (Q M)) ∧ (¬ v3 < (v4 + 16) → (∀ x4 : Int32, x4 = ((((v1 : Int64).toUInt64 >>> ((((v3 - 16) - v4) : Int32).toInt64.toUInt64 &&& Int64.toUInt64 63)).toInt64 : Int64).toInt32 &&& 65535) → (p_X3_readWord v4 x4 M (fun r5 M5 => ((r5 = 0 → (b_X3_read_56 Q (fun v1 v3 v4 M => b_X3_read_13 Q n v1 v3 v4 M) v1 v3 v4 1 M5)) ∧ (¬ r5 = 0 → (b_X3_read_56 Q (fun v1 v3 v4 M => b_X3_read_13 Q n v1 v3 v4 M) v1 v3 v4 16 M5))))))))
set_option maxRecDepth 100000 in
set_option maxHeartbeats 4000000 in
theorem k_X3_read_13 {p : Program} {l : Launch} {e : Env} {s : State} {m : MethodId} {args : Array Value} {below : List Frame} {meth : Method} {c : Code} {g : Geo} (C : CX g p s m args meth c cX3_read 6 none RX3) {Q : Mem → Prop} : ∀ (n : Nat) (v1 : Int64) (v3 : Int32) (v4 : Int32) (M : Mem) (hw : b_X3_read_13 Q n v1 v3 v4 M) {H : Heap} {locs : List Loc} {ls : Array Slot} (hl : lv_has ls 6 [(0, .ref (g.2.1 (13 + 0))), (1, .long v1), (3, .int v3), (4, .int v4)]) (hP : va_P g.1 clz (xw g M) H) (hS : va_S (Af 0 g) s.heap H locs), W p l e ({ frames := 2, cells := 0, slots := 0, locals := 49 } : Room) s m args below meth c H locs 0 0 (MQ below (va_Qv Q (PB g (xw g)) (Af 0 g)) args s 0 0 (Af 0 g)) (F0 m 13 ls []) := by
  intro n
  induction n with
  | zero => intro v1 v3 v4 M hw H locs ls hl hP hS; exact absurd hw (by rw [b_X3_read_13]; exact fun h => h)
  | succ n ih =>
    intro v1 v3 v4 M hw H locs ls hl hP hS
    rw [b_X3_read_13] at hw
    refine lv_iload C.1 C.2.1 dX3_read_13 (lv_at hl 3 rfl) ?_
    refine lv_bipush (v := 16) C.1 C.2.1 dX3_read_15 (by decide) ?_
    refine lv_iadd C.1 C.2.1 dX3_read_17 ?_
    refine lv_iload_n C.1 C.2.1 dX3_read_18 rfl (lv_at hl 2 rfl) ?_
    refine lv_icmp_gt (tgt := 62) C.1 C.2.1 dX3_read_19 (by decide) (fun h3 => ?_) (fun h3 => ?_)
    · have hw := hw.1 h3
      exact retV (wf := (xw g)) C hP hS hw dX3_read_62
    · have hw := hw.2 h3
      refine lv_lload_n C.1 C.2.1 dX3_read_22 rfl (lv_at hl 1 rfl) ?_
      refine lv_iload_n C.1 C.2.1 dX3_read_23 rfl (lv_at hl 2 rfl) ?_
      refine lv_bipush (v := 16) C.1 C.2.1 dX3_read_24 (by decide) ?_
      refine lv_isub C.1 C.2.1 dX3_read_26 ?_
      refine lv_iload C.1 C.2.1 dX3_read_27 (lv_at hl 3 rfl) ?_
      refine lv_isub C.1 C.2.1 dX3_read_29 ?_
      refine lv_lushr C.1 C.2.1 dX3_read_30 rfl ?_
      refine lv_l2i C.1 C.2.1 dX3_read_31 rfl ?_
      refine lv_ldc (v := 65535) C.1 C.2.1 C.2.2.2.2.1 (C.2.2.2.2.2.1 _ (bg_of 1057 (by decide +kernel) rfl)) dX3_read_32 ?_
      refine lv_iand C.1 C.2.1 dX3_read_34 ?_
      refine lv_topi (fun x4 e4 => ?_)
      have hw := hw x4 e4
      refine lv_istore (lv' := [(5, .int x4), (0, .ref (g.2.1 (13 + 0))), (1, .long v1), (3, .int v3), (4, .int v4)]) C.1 C.2.1 dX3_read_35 hl (by decide) rfl (fun ls hl => ?_)
      refine lv_iload C.1 C.2.1 dX3_read_37 (lv_at hl 4 rfl) ?_
      refine lv_aload_n C.1 C.2.1 dX3_read_39 rfl (lv_at hl 1 rfl) ?_
      refine lv_iload C.1 C.2.1 dX3_read_40 (lv_at hl 4 rfl) ?_
      refine lv_iload C.1 C.2.1 dX3_read_42 (lv_at hl 0 rfl) ?_
      refine goI (wf := (xw g)) (runV (w := xw g M) (As := [.int v4, .int x4]) (rest := [.int v4]) C lkX3_29 (c_X3_readWord l g C.2.2.2.2.2.2.2.2.2.2 v4 x4  M _ hw) hP hS rfl rfl ⟨Nat.le_of_ble_eq_true rfl, Nat.le_of_ble_eq_true rfl⟩ (xx_13 Nat.zero_lt_one) rfl rfl hl.1 rfl (Nat.le_of_ble_eq_true rfl) dX3_read_44) hS (fun r5 M5 hw H locs hP hS => ?_)
      obtain ⟨hw, hz5⟩ := hw
      refine lv_if_eq (tgt := 55) C.1 C.2.1 dX3_read_47 (by decide) (fun h6 => ?_) (fun h6 => ?_)
      · have hw := hw.1 h6
        refine lv_iconst (v := 1) C.1 C.2.1 dX3_read_55 (by decide) ?_
        exact k_X3_read_56 (Q := Q) C (fun v1 v3 v4  M hw H locs ls hl hP hS => ih v1 v3 v4  M hw hl hP hS) v1 v3 v4 1  _ hw (lv_sub hl [1, 2, 3] rfl) hP hS
      · have hw := hw.2 h6
        refine lv_bipush (v := 16) C.1 C.2.1 dX3_read_50 (by decide) ?_
        refine lv_goto (tgt := 56) C.1 C.2.1 dX3_read_52 (by decide) ?_
        exact k_X3_read_56 (Q := Q) C (fun v1 v3 v4  M hw H locs ls hl hP hS => ih v1 v3 v4  M hw hl hP hS) v1 v3 v4 16  _ hw (lv_sub hl [1, 2, 3] rfl) hP hS
def p_X3_read (a1 : Int64) (a3 : Int32) (M : Mem) (Q : Mem → Prop) : Prop := (∀ M1 : Mem, M1 = sI M 13 0 0 0 → (∀ M2 : Mem, M2 = sI M1 13 0 1 0 → (∃ n13 : Nat, b_X3_read_13 Q n13 a1 a3 0 M2)))
set_option maxRecDepth 100000 in
set_option maxHeartbeats 4000000 in
theorem c_X3_read (l : Launch) (g : Geo) (gi : GI g) (a1 : Int64) (a3 : Int32) (M : Mem) (Q : Mem → Prop) (hw : p_X3_read a1 a3 M Q) : Met l yX3_read (Cond.code yX3_read cX3_read 6 none :: bg) ({ frames := 2, cells := 0, slots := 0, locals := 49 } : Room) (va_Pc [.ref (g.2.1 (13 + 0)), .long a1, .int a3] (PW g (xw g M))) (va_Qv Q (PB g (xw g)) (Af 0 g)) 0 0 (Af 0 g) := by
  refine Met.ofW (cc := cX3_read) (maxL := 6) (ret := none) (by decide +kernel) rfl ?_
  intro p e s m args below meth c s₁ B hml hv
  obtain ⟨rfl, hv⟩ := hv
  have C := CX.start (own := RX3) B hml rfl gi hv
  have hP := hv.1
  have hS : va_S (Af 0 g) s.heap s.heap [] := va_S.rf
  have hl := lv_entry ([.ref (g.2.1 (13 + 0)), .long a1, .int a3]) (n := 6) (Nat.le_of_ble_eq_true rfl)
  rw [lg_entry_eq]
  generalize (lg_sl ([.ref (g.2.1 (13 + 0)), .long a1, .int a3]) ++ List.replicate (6 - (lg_sl ([.ref (g.2.1 (13 + 0)), .long a1, .int a3])).length) Slot.unset).toArray = ls at hl ⊢
  have hl : lv_has ls 6 [(0, .ref (g.2.1 (13 + 0))), (1, .long a1), (3, .int a3)] := hl
  unfold p_X3_read at hw
  refine lv_aload_n C.1 C.2.1 dX3_read_0 rfl (lv_at hl 0 rfl) ?_
  refine lv_iconst (v := 0) C.1 C.2.1 dX3_read_1 (by decide) ?_
  refine pX3_21 C hP hS Nat.zero_lt_one dX3_read_2 (fun M1 e1 H locs hP hS => ?_)
  have hw := hw M1 e1
  refine lv_aload_n C.1 C.2.1 dX3_read_5 rfl (lv_at hl 0 rfl) ?_
  refine lv_iconst (v := 0) C.1 C.2.1 dX3_read_6 (by decide) ?_
  refine pX3_25 C hP hS Nat.zero_lt_one dX3_read_7 (fun M2 e2 H locs hP hS => ?_)
  have hw := hw M2 e2
  refine lv_iconst (v := 0) C.1 C.2.1 dX3_read_10 (by decide) ?_
  refine lv_istore (lv' := [(4, .int 0), (0, .ref (g.2.1 (13 + 0))), (1, .long a1), (3, .int a3)]) C.1 C.2.1 dX3_read_11 hl (by decide) rfl (fun ls hl => ?_)
  obtain ⟨n9, hw⟩ := hw
  exact k_X3_read_13 (Q := Q) C n9 a1 a3 0  _ hw (lv_sub hl [1, 2, 3, 0] rfl) hP hS
def p_X3_told (a1 : Int32) (a2 : Int32) (M : Mem) (Q : Int32 → Mem → Prop) : Prop := ((a1 < 0 → (Q (-1) M)) ∧ (¬ a1 < 0 → ((a1 < (M.1 13 0 0) → ((a2 = 0 → (vp_in a1 4 ∧ (Q (M.1 14 0 (a1 : Int32).toNatClampNeg) M))) ∧ (a2 = 1 → (vp_in a1 4 ∧ (Q ((((M.1 15 0 (a1 : Int32).toNatClampNeg) : Int32).toUInt32 >>> ((10 : Int32).toUInt32 &&& Int32.toUInt32 31)).toInt32 &&& 3) M))) ∧ (a2 = 2 → (vp_in a1 4 ∧ (Q ((((M.1 15 0 (a1 : Int32).toNatClampNeg) : Int32).toUInt32 >>> ((4 : Int32).toUInt32 &&& Int32.toUInt32 31)).toInt32 &&& 63) M))) ∧ (¬ a2 = 0 → ¬ a2 = 1 → ¬ a2 = 2 → (vp_in a1 4 ∧ (Q (M.1 16 0 (a1 : Int32).toNatClampNeg) M))))) ∧ (¬ a1 < (M.1 13 0 0) → (Q (-1) M)))))
set_option maxRecDepth 100000 in
set_option maxHeartbeats 4000000 in
theorem c_X3_told (l : Launch) (g : Geo) (gi : GI g) (a1 : Int32) (a2 : Int32) (M : Mem) (Q : Int32 → Mem → Prop) (hw : p_X3_told a1 a2 M Q) : Met l yX3_told (Cond.code yX3_told cX3_told 3 (some .int) :: bg) ({ frames := 0, cells := 0, slots := 0, locals := 0 } : Room) (va_Pc [.ref (g.2.1 (13 + 0)), .int a1, .int a2] (PW g (xw g M))) (va_Qi Q (PB g (xw g)) (Af 0 g)) 0 0 (Af 0 g) := by
  refine Met.ofW (cc := cX3_told) (maxL := 3) (ret := (some .int)) (by decide +kernel) rfl ?_
  intro p e s m args below meth c s₁ B hml hv
  obtain ⟨rfl, hv⟩ := hv
  have C := CX.start (own := RX3) B hml rfl gi hv
  have hP := hv.1
  have hS : va_S (Af 0 g) s.heap s.heap [] := va_S.rf
  have hl := lv_entry ([.ref (g.2.1 (13 + 0)), .int a1, .int a2]) (n := 3) (Nat.le_of_ble_eq_true rfl)
  rw [lg_entry_eq]
  generalize (lg_sl ([.ref (g.2.1 (13 + 0)), .int a1, .int a2]) ++ List.replicate (3 - (lg_sl ([.ref (g.2.1 (13 + 0)), .int a1, .int a2])).length) Slot.unset).toArray = ls at hl ⊢
  have hl : lv_has ls 3 [(0, .ref (g.2.1 (13 + 0))), (1, .int a1), (2, .int a2)] := hl
  unfold p_X3_told at hw
  refine lv_iload_n C.1 C.2.1 dX3_told_0 rfl (lv_at hl 1 rfl) ?_
  refine lv_if_lt (tgt := 12) C.1 C.2.1 dX3_told_1 (by decide) (fun h1 => ?_) (fun h1 => ?_)
  · have hw := hw.1 h1
    refine lv_iconst (v := (-1)) C.1 C.2.1 dX3_told_12 (by decide) ?_
    exact retI (wf := (xw g)) C hP hS hw dX3_told_13
  · have hw := hw.2 h1
    refine lv_iload_n C.1 C.2.1 dX3_told_4 rfl (lv_at hl 1 rfl) ?_
    refine lv_aload_n C.1 C.2.1 dX3_told_5 rfl (lv_at hl 0 rfl) ?_
    refine gX3_21 C hP Nat.zero_lt_one dX3_told_6 ?_
    refine lv_icmp_lt (tgt := 14) C.1 C.2.1 dX3_told_9 (by decide) (fun h2 => ?_) (fun h2 => ?_)
    · have hw := hw.1 h2
      refine lv_iload_n C.1 C.2.1 dX3_told_14 rfl (lv_at hl 2 rfl) ?_
      by_cases q3_0 : a2 = 0
      · have hw := hw.1 q3_0
        refine lv_tableIn (tgt := 40) (off := 25) C.1 C.2.1 dX3_told_15 (by rw [q3_0]; decide) (by rw [q3_0]; decide) (by rw [q3_0]; decide +kernel) (by decide) ?_
        refine lv_aload_n C.1 C.2.1 dX3_told_40 rfl (lv_at hl 0 rfl) ?_
        refine gX3_11 C hP Nat.zero_lt_one dX3_told_41 ?_
        refine lv_iload_n C.1 C.2.1 dX3_told_44 rfl (lv_at hl 1 rfl) ?_
        obtain ⟨h5, hw⟩ := hw
        refine al_14 C hP Nat.zero_lt_one h5 dX3_told_45 ?_
        exact retI (wf := (xw g)) C hP hS hw dX3_told_46
      by_cases q3_1 : a2 = 1
      · have hw := hw.2.1 q3_1
        refine lv_tableIn (tgt := 47) (off := 32) C.1 C.2.1 dX3_told_15 (by rw [q3_1]; decide) (by rw [q3_1]; decide) (by rw [q3_1]; decide +kernel) (by decide) ?_
        refine lv_aload_n C.1 C.2.1 dX3_told_47 rfl (lv_at hl 0 rfl) ?_
        refine gX3_15 C hP Nat.zero_lt_one dX3_told_48 ?_
        refine lv_iload_n C.1 C.2.1 dX3_told_51 rfl (lv_at hl 1 rfl) ?_
        obtain ⟨h6, hw⟩ := hw
        refine al_15 C hP Nat.zero_lt_one h6 dX3_told_52 ?_
        refine lv_bipush (v := 10) C.1 C.2.1 dX3_told_53 (by decide) ?_
        refine lv_iushr C.1 C.2.1 dX3_told_55 rfl ?_
        refine lv_iconst (v := 3) C.1 C.2.1 dX3_told_56 (by decide) ?_
        refine lv_iand C.1 C.2.1 dX3_told_57 ?_
        exact retI (wf := (xw g)) C hP hS hw dX3_told_58
      by_cases q3_2 : a2 = 2
      · have hw := hw.2.2.1 q3_2
        refine lv_tableIn (tgt := 59) (off := 44) C.1 C.2.1 dX3_told_15 (by rw [q3_2]; decide) (by rw [q3_2]; decide) (by rw [q3_2]; decide +kernel) (by decide) ?_
        refine lv_aload_n C.1 C.2.1 dX3_told_59 rfl (lv_at hl 0 rfl) ?_
        refine gX3_15 C hP Nat.zero_lt_one dX3_told_60 ?_
        refine lv_iload_n C.1 C.2.1 dX3_told_63 rfl (lv_at hl 1 rfl) ?_
        obtain ⟨h7, hw⟩ := hw
        refine al_15 C hP Nat.zero_lt_one h7 dX3_told_64 ?_
        refine lv_iconst (v := 4) C.1 C.2.1 dX3_told_65 (by decide) ?_
        refine lv_iushr C.1 C.2.1 dX3_told_66 rfl ?_
        refine lv_bipush (v := 63) C.1 C.2.1 dX3_told_67 (by decide) ?_
        refine lv_iand C.1 C.2.1 dX3_told_69 ?_
        exact retI (wf := (xw g)) C hP hS hw dX3_told_70
      have hw := hw.2.2.2 q3_0 q3_1 q3_2
      have n3_0 : a2.toInt ≠ 0 := tsw q3_0
      have n3_1 : a2.toInt ≠ 1 := tsw q3_1
      have n3_2 : a2.toInt ≠ 2 := tsw q3_2
      refine lv_tableOut (tgt := 71) C.1 C.2.1 dX3_told_15 (by omega) (by decide) ?_
      refine lv_aload_n C.1 C.2.1 dX3_told_71 rfl (lv_at hl 0 rfl) ?_
      refine gX3_18 C hP Nat.zero_lt_one dX3_told_72 ?_
      refine lv_iload_n C.1 C.2.1 dX3_told_75 rfl (lv_at hl 1 rfl) ?_
      obtain ⟨h4, hw⟩ := hw
      refine al_16 C hP Nat.zero_lt_one h4 dX3_told_76 ?_
      exact retI (wf := (xw g)) C hP hS hw dX3_told_77
    · have hw := hw.2 h2
      refine lv_iconst (v := (-1)) C.1 C.2.1 dX3_told_12 (by decide) ?_
      exact retI (wf := (xw g)) C hP hS hw dX3_told_13
def b_X4_begin_2 (Q : Mem → Prop) : Nat → Int32 → Mem → Prop
  | 0, _, _ => False
  | n + 1, v1, M => ((930 ≤ v1 → (Q M)) ∧ (¬ 930 ≤ v1 → (vp_in v1 930 ∧ (∀ M2 : Mem, M2 = sI M 12 0 (v1 : Int32).toNatClampNeg 0 → (∀ x3 : Int32, x3 = (v1 + 1) → (b_X4_begin_2 Q n x3 M2))))))
set_option maxRecDepth 100000 in
set_option maxHeartbeats 4000000 in
theorem k_X4_begin_2 {p : Program} {l : Launch} {e : Env} {s : State} {m : MethodId} {args : Array Value} {below : List Frame} {meth : Method} {c : Code} {g : Geo} (C : CX g p s m args meth c cX4_begin 2 none RX4) {Q : Mem → Prop} : ∀ (n : Nat) (v1 : Int32) (M : Mem) (hw : b_X4_begin_2 Q n v1 M) {H : Heap} {locs : List Loc} {ls : Array Slot} (hl : lv_has ls 2 [(0, .ref (g.2.1 (11 + 0))), (1, .int v1)]) (hP : va_P g.1 clz (xw g M) H) (hS : va_S (Af 0 g) s.heap H locs), W p l e ({ frames := 0, cells := 0, slots := 0, locals := 0 } : Room) s m args below meth c H locs 0 0 (MQ below (va_Qv Q (PB g (xw g)) (Af 0 g)) args s 0 0 (Af 0 g)) (F0 m 2 ls []) := by
  intro n
  induction n with
  | zero => intro v1 M hw H locs ls hl hP hS; exact absurd hw (by rw [b_X4_begin_2]; exact fun h => h)
  | succ n ih =>
    intro v1 M hw H locs ls hl hP hS
    rw [b_X4_begin_2] at hw
    refine lv_iload_n C.1 C.2.1 dX4_begin_2 rfl (lv_at hl 1 rfl) ?_
    refine lv_aload_n C.1 C.2.1 dX4_begin_3 rfl (lv_at hl 0 rfl) ?_
    refine gX4_9 C hP Nat.zero_lt_one dX4_begin_4 ?_
    refine an_12 C hP Nat.zero_lt_one dX4_begin_7 ?_
    refine lv_icmp_ge (tgt := 24) C.1 C.2.1 dX4_begin_8 (by decide) (fun h1 => ?_) (fun h1 => ?_)
    · have hw := hw.1 h1
      exact retV (wf := (xw g)) C hP hS hw dX4_begin_24
    · have hw := hw.2 h1
      refine lv_aload_n C.1 C.2.1 dX4_begin_11 rfl (lv_at hl 0 rfl) ?_
      refine gX4_9 C hP Nat.zero_lt_one dX4_begin_12 ?_
      refine lv_iload_n C.1 C.2.1 dX4_begin_15 rfl (lv_at hl 1 rfl) ?_
      refine lv_iconst (v := 0) C.1 C.2.1 dX4_begin_16 (by decide) ?_
      obtain ⟨h2, hw⟩ := hw
      refine as_12 C hP hS Nat.zero_lt_one h2 dX4_begin_17 (fun M2 e2 H locs hP hS => ?_)
      have hw := hw M2 e2
      obtain ⟨x3, e3⟩ : ∃ y : Int32, y = (v1 + 1) := ⟨_, rfl⟩
      have hw := hw x3 e3
      refine lv_iinc (v := x3) (lv' := [(1, .int x3), (0, .ref (g.2.1 (11 + 0)))]) C.1 C.2.1 dX4_begin_18 hl (k := 1) rfl (by rw [e3]; rfl) (by decide) rfl (fun ls hl => ?_)
      refine lv_goto (tgt := 2) C.1 C.2.1 dX4_begin_21 (by decide) ?_
      exact ih x3  _ hw (lv_sub hl [1, 0] rfl) hP hS
def p_X4_begin (M : Mem) (Q : Mem → Prop) : Prop := (∃ n2 : Nat, b_X4_begin_2 Q n2 0 M)
set_option maxRecDepth 100000 in
set_option maxHeartbeats 4000000 in
theorem c_X4_begin (l : Launch) (g : Geo) (gi : GI g) (M : Mem) (Q : Mem → Prop) (hw : p_X4_begin  M Q) : Met l yX4_begin (Cond.code yX4_begin cX4_begin 2 none :: bg) ({ frames := 0, cells := 0, slots := 0, locals := 0 } : Room) (va_Pc [.ref (g.2.1 (11 + 0))] (PW g (xw g M))) (va_Qv Q (PB g (xw g)) (Af 0 g)) 0 0 (Af 0 g) := by
  refine Met.ofW (cc := cX4_begin) (maxL := 2) (ret := none) (by decide +kernel) rfl ?_
  intro p e s m args below meth c s₁ B hml hv
  obtain ⟨rfl, hv⟩ := hv
  have C := CX.start (own := RX4) B hml rfl gi hv
  have hP := hv.1
  have hS : va_S (Af 0 g) s.heap s.heap [] := va_S.rf
  have hl := lv_entry ([.ref (g.2.1 (11 + 0))]) (n := 2) (Nat.le_of_ble_eq_true rfl)
  rw [lg_entry_eq]
  generalize (lg_sl ([.ref (g.2.1 (11 + 0))]) ++ List.replicate (2 - (lg_sl ([.ref (g.2.1 (11 + 0))])).length) Slot.unset).toArray = ls at hl ⊢
  have hl : lv_has ls 2 [(0, .ref (g.2.1 (11 + 0)))] := hl
  unfold p_X4_begin at hw
  refine lv_iconst (v := 0) C.1 C.2.1 dX4_begin_0 (by decide) ?_
  refine lv_istore_n (lv' := [(1, .int 0), (0, .ref (g.2.1 (11 + 0)))]) C.1 C.2.1 dX4_begin_1 rfl hl (by decide) rfl (fun ls hl => ?_)
  obtain ⟨n9, hw⟩ := hw
  exact k_X4_begin_2 (Q := Q) C n9 0  _ hw (lv_sub hl [1, 0] rfl) hP hS
def b_X4_add_65 (Q : Mem → Prop) (k8 : Int32 → Int32 → Mem → Prop) (v3 : Int32) (v4 : Int32) (M : Mem) : Prop := (∀ x5 : Int32, x5 = (v4 + 1) → (k8 v3 x5 M))
set_option maxRecDepth 100000 in
set_option maxHeartbeats 4000000 in
theorem k_X4_add_65 {p : Program} {l : Launch} {e : Env} {s : State} {m : MethodId} {args : Array Value} {below : List Frame} {meth : Method} {c : Code} {g : Geo} (C : CX g p s m args meth c cX4_add 6 none RX4) {Q : Mem → Prop} {k8 : Int32 → Int32 → Mem → Prop} (hk8 : ∀ (v3 : Int32) (v4 : Int32) (M : Mem), k8 v3 v4 M → ∀ (H : Heap) (locs : List Loc) (ls : Array Slot), lv_has ls 6 [(0, .ref (g.2.1 (11 + 0))), (1, .ref (g.2.1 (5 + 0))), (3, .int v3), (4, .int v4)] → va_P g.1 clz (xw g M) H → va_S (Af 0 g) s.heap H locs → W p l e ({ frames := 2, cells := 0, slots := 0, locals := 52 } : Room) s m args below meth c H locs 0 0 (MQ below (va_Qv Q (PB g (xw g)) (Af 0 g)) args s 0 0 (Af 0 g)) (F0 m 8 ls [])) (v3 : Int32) (v4 : Int32) (M : Mem) (hw : b_X4_add_65 Q k8 v3 v4 M) {H : Heap} {locs : List Loc} {ls : Array Slot} (hl : lv_has ls 6 [(0, .ref (g.2.1 (11 + 0))), (1, .ref (g.2.1 (5 + 0))), (3, .int v3), (4, .int v4)]) (hP : va_P g.1 clz (xw g M) H) (hS : va_S (Af 0 g) s.heap H locs) : W p l e ({ frames := 2, cells := 0, slots := 0, locals := 52 } : Room) s m args below meth c H locs 0 0 (MQ below (va_Qv Q (PB g (xw g)) (Af 0 g)) args s 0 0 (Af 0 g)) (F0 m 65 ls []) := by
  unfold b_X4_add_65 at hw
  obtain ⟨x5, e5⟩ : ∃ y : Int32, y = (v4 + 1) := ⟨_, rfl⟩
  have hw := hw x5 e5
  refine lv_iinc (v := x5) (lv' := [(4, .int x5), (0, .ref (g.2.1 (11 + 0))), (1, .ref (g.2.1 (5 + 0))), (3, .int v3)]) C.1 C.2.1 dX4_add_65 hl (k := 3) rfl (by rw [e5]; rfl) (by decide) rfl (fun ls hl => ?_)
  refine lv_goto (tgt := 8) C.1 C.2.1 dX4_add_68 (by decide) ?_
  exact hk8 v3 x5  _ hw _ _ _ (lv_sub hl [1, 2, 3, 0] rfl) hP hS
def b_X4_add_26 (Q : Mem → Prop) (k8 : Int32 → Int32 → Mem → Prop) : Nat → Int32 → Int32 → Int32 → Mem → Prop
  | 0, _, _, _, _ => False
  | n + 1, v3, v4, v5, M => ((62 ≤ v5 → (b_X4_add_65 Q k8 v3 v4 M)) ∧ (¬ 62 ≤ v5 → (p_X2_sumAt v5 M (fun M6 => (vp_in (((62 : Int32) * v4) + v5) 930 ∧ (p_X2_power  M6 (fun r8 M8 => (vp_in (((62 : Int32) * v4) + v5) 930 ∧ (∀ M9 : Mem, M9 = sI M8 12 0 ((((62 : Int32) * v4) + v5) : Int32).toNatClampNeg ((M6.1 12 0 ((((62 : Int32) * v4) + v5) : Int32).toNatClampNeg) + r8) → (∀ x10 : Int32, x10 = (v5 + 1) → (b_X4_add_26 Q k8 n v3 v4 x10 M9)))))))))))
set_option maxRecDepth 100000 in
set_option maxHeartbeats 4000000 in
theorem k_X4_add_26 {p : Program} {l : Launch} {e : Env} {s : State} {m : MethodId} {args : Array Value} {below : List Frame} {meth : Method} {c : Code} {g : Geo} (C : CX g p s m args meth c cX4_add 6 none RX4) {Q : Mem → Prop} {k8 : Int32 → Int32 → Mem → Prop} (hk8 : ∀ (v3 : Int32) (v4 : Int32) (M : Mem), k8 v3 v4 M → ∀ (H : Heap) (locs : List Loc) (ls : Array Slot), lv_has ls 6 [(0, .ref (g.2.1 (11 + 0))), (1, .ref (g.2.1 (5 + 0))), (3, .int v3), (4, .int v4)] → va_P g.1 clz (xw g M) H → va_S (Af 0 g) s.heap H locs → W p l e ({ frames := 2, cells := 0, slots := 0, locals := 52 } : Room) s m args below meth c H locs 0 0 (MQ below (va_Qv Q (PB g (xw g)) (Af 0 g)) args s 0 0 (Af 0 g)) (F0 m 8 ls [])) : ∀ (n : Nat) (v3 : Int32) (v4 : Int32) (v5 : Int32) (M : Mem) (hw : b_X4_add_26 Q k8 n v3 v4 v5 M) {H : Heap} {locs : List Loc} {ls : Array Slot} (hl : lv_has ls 6 [(0, .ref (g.2.1 (11 + 0))), (1, .ref (g.2.1 (5 + 0))), (3, .int v3), (4, .int v4), (5, .int v5)]) (hP : va_P g.1 clz (xw g M) H) (hS : va_S (Af 0 g) s.heap H locs), W p l e ({ frames := 2, cells := 0, slots := 0, locals := 52 } : Room) s m args below meth c H locs 0 0 (MQ below (va_Qv Q (PB g (xw g)) (Af 0 g)) args s 0 0 (Af 0 g)) (F0 m 26 ls []) := by
  intro n
  induction n with
  | zero => intro v3 v4 v5 M hw H locs ls hl hP hS; exact absurd hw (by rw [b_X4_add_26]; exact fun h => h)
  | succ n ih =>
    intro v3 v4 v5 M hw H locs ls hl hP hS
    rw [b_X4_add_26] at hw
    refine lv_iload C.1 C.2.1 dX4_add_26 (lv_at hl 4 rfl) ?_
    refine lv_bipush (v := 62) C.1 C.2.1 dX4_add_28 (by decide) ?_
    refine lv_icmp_ge (tgt := 65) C.1 C.2.1 dX4_add_30 (by decide) (fun h4 => ?_) (fun h4 => ?_)
    · have hw := hw.1 h4
      exact k_X4_add_65 (Q := Q) C hk8 v3 v4  _ hw (lv_sub hl [0, 1, 2, 3] rfl) hP hS
    · have hw := hw.2 h4
      refine lv_aload_n C.1 C.2.1 dX4_add_33 rfl (lv_at hl 1 rfl) ?_
      refine lv_iload C.1 C.2.1 dX4_add_34 (lv_at hl 4 rfl) ?_
      refine goV (wf := (xw g)) (runV (w := xw g M) (As := [.int v5]) (rest := []) C lkX4_25 (c_X2_sumAt l g C.2.2.2.2.2.2.2.2.2.2 v5  M _ hw) hP hS rfl rfl ⟨Nat.le_of_ble_eq_true rfl, Nat.le_of_ble_eq_true rfl⟩ (xx_5 Nat.zero_lt_one) rfl rfl hl.1 rfl (Nat.le_of_ble_eq_true rfl) dX4_add_36) hS (fun M6 hw H locs hP hS => ?_)
      refine lv_aload_n C.1 C.2.1 dX4_add_39 rfl (lv_at hl 0 rfl) ?_
      refine gX4_9 C hP Nat.zero_lt_one dX4_add_40 ?_
      refine lv_bipush (v := 62) C.1 C.2.1 dX4_add_43 (by decide) ?_
      refine lv_iload C.1 C.2.1 dX4_add_45 (lv_at hl 3 rfl) ?_
      refine lv_imul C.1 C.2.1 dX4_add_47 ?_
      refine lv_iload C.1 C.2.1 dX4_add_48 (lv_at hl 4 rfl) ?_
      refine lv_iadd C.1 C.2.1 dX4_add_50 ?_
      refine lv_dup2_11 C.1 C.2.1 dX4_add_51 rfl rfl ?_
      obtain ⟨h7, hw⟩ := hw
      refine al_12 C hP Nat.zero_lt_one h7 dX4_add_52 ?_
      refine lv_aload_n C.1 C.2.1 dX4_add_53 rfl (lv_at hl 1 rfl) ?_
      refine goI (wf := (xw g)) (runV (w := xw g M6) (As := []) (rest := [.int (M6.1 12 0 ((((62 : Int32) * v4) + v5) : Int32).toNatClampNeg), .int (((62 : Int32) * v4) + v5), .ref (g.2.1 (12 + 0))]) C lkX4_28 (c_X2_power l g C.2.2.2.2.2.2.2.2.2.2   M6 _ hw) hP hS rfl rfl ⟨Nat.le_of_ble_eq_true rfl, Nat.le_of_ble_eq_true rfl⟩ (xx_5 Nat.zero_lt_one) rfl rfl hl.1 rfl (Nat.le_of_ble_eq_true rfl) dX4_add_54) hS (fun r8 M8 hw H locs hP hS => ?_)
      refine lv_iadd C.1 C.2.1 dX4_add_57 ?_
      obtain ⟨h9, hw⟩ := hw
      refine as_12 C hP hS Nat.zero_lt_one h9 dX4_add_58 (fun M9 e9 H locs hP hS => ?_)
      have hw := hw M9 e9
      obtain ⟨x10, e10⟩ : ∃ y : Int32, y = (v5 + 1) := ⟨_, rfl⟩
      have hw := hw x10 e10
      refine lv_iinc (v := x10) (lv' := [(5, .int x10), (0, .ref (g.2.1 (11 + 0))), (1, .ref (g.2.1 (5 + 0))), (3, .int v3), (4, .int v4)]) C.1 C.2.1 dX4_add_59 hl (k := 4) rfl (by rw [e10]; rfl) (by decide) rfl (fun ls hl => ?_)
      refine lv_goto (tgt := 26) C.1 C.2.1 dX4_add_62 (by decide) ?_
      exact ih v3 v4 x10  _ hw (lv_sub hl [1, 2, 3, 4, 0] rfl) hP hS
def b_X4_add_8 (Q : Mem → Prop) : Nat → Int32 → Int32 → Mem → Prop
  | 0, _, _, _ => False
  | n + 1, v3, v4, M => ((15 ≤ v4 → (Q M)) ∧ (¬ 15 ≤ v4 → (p_X2_turnBack v3 v4 0 M (fun M3 => (∃ n26 : Nat, b_X4_add_26 Q (fun v3 v4 M => b_X4_add_8 Q n v3 v4 M) n26 v3 v4 0 M3)))))
set_option maxRecDepth 100000 in
set_option maxHeartbeats 4000000 in
theorem k_X4_add_8 {p : Program} {l : Launch} {e : Env} {s : State} {m : MethodId} {args : Array Value} {below : List Frame} {meth : Method} {c : Code} {g : Geo} (C : CX g p s m args meth c cX4_add 6 none RX4) {Q : Mem → Prop} : ∀ (n : Nat) (v3 : Int32) (v4 : Int32) (M : Mem) (hw : b_X4_add_8 Q n v3 v4 M) {H : Heap} {locs : List Loc} {ls : Array Slot} (hl : lv_has ls 6 [(0, .ref (g.2.1 (11 + 0))), (1, .ref (g.2.1 (5 + 0))), (3, .int v3), (4, .int v4)]) (hP : va_P g.1 clz (xw g M) H) (hS : va_S (Af 0 g) s.heap H locs), W p l e ({ frames := 2, cells := 0, slots := 0, locals := 52 } : Room) s m args below meth c H locs 0 0 (MQ below (va_Qv Q (PB g (xw g)) (Af 0 g)) args s 0 0 (Af 0 g)) (F0 m 8 ls []) := by
  intro n
  induction n with
  | zero => intro v3 v4 M hw H locs ls hl hP hS; exact absurd hw (by rw [b_X4_add_8]; exact fun h => h)
  | succ n ih =>
    intro v3 v4 M hw H locs ls hl hP hS
    rw [b_X4_add_8] at hw
    refine lv_iload C.1 C.2.1 dX4_add_8 (lv_at hl 3 rfl) ?_
    refine lv_bipush (v := 15) C.1 C.2.1 dX4_add_10 (by decide) ?_
    refine lv_icmp_ge (tgt := 71) C.1 C.2.1 dX4_add_12 (by decide) (fun h2 => ?_) (fun h2 => ?_)
    · have hw := hw.1 h2
      exact retV (wf := (xw g)) C hP hS hw dX4_add_71
    · have hw := hw.2 h2
      refine lv_aload_n C.1 C.2.1 dX4_add_15 rfl (lv_at hl 1 rfl) ?_
      refine lv_iload_n C.1 C.2.1 dX4_add_16 rfl (lv_at hl 2 rfl) ?_
      refine lv_iload C.1 C.2.1 dX4_add_17 (lv_at hl 3 rfl) ?_
      refine lv_iconst (v := 0) C.1 C.2.1 dX4_add_19 (by decide) ?_
      refine goV (wf := (xw g)) (runV (w := xw g M) (As := [.int v3, .int v4, .int 0]) (rest := []) C lkX4_21 (c_X2_turnBack l g C.2.2.2.2.2.2.2.2.2.2 v3 v4 0  M _ hw) hP hS rfl rfl ⟨Nat.le_of_ble_eq_true rfl, Nat.le_of_ble_eq_true rfl⟩ (xx_5 Nat.zero_lt_one) rfl rfl hl.1 rfl (Nat.le_of_ble_eq_true rfl) dX4_add_20) hS (fun M3 hw H locs hP hS => ?_)
      refine lv_iconst (v := 0) C.1 C.2.1 dX4_add_23 (by decide) ?_
      refine lv_istore (lv' := [(5, .int 0), (0, .ref (g.2.1 (11 + 0))), (1, .ref (g.2.1 (5 + 0))), (3, .int v3), (4, .int v4)]) C.1 C.2.1 dX4_add_24 hl (by decide) rfl (fun ls hl => ?_)
      obtain ⟨n9, hw⟩ := hw
      exact k_X4_add_26 (Q := Q) C (fun v3 v4  M hw H locs ls hl hP hS => ih v3 v4  M hw hl hP hS) n9 v3 v4 0  _ hw (lv_sub hl [1, 2, 3, 4, 0] rfl) hP hS
def p_X4_add (a2 : Int32) (a3 : Int32) (M : Mem) (Q : Mem → Prop) : Prop := (p_X2_takeCode a2 M (fun M1 => (∃ n8 : Nat, b_X4_add_8 Q n8 a3 0 M1)))
set_option maxRecDepth 100000 in
set_option maxHeartbeats 4000000 in
theorem c_X4_add (l : Launch) (g : Geo) (gi : GI g) (a2 : Int32) (a3 : Int32) (M : Mem) (Q : Mem → Prop) (hw : p_X4_add a2 a3 M Q) : Met l yX4_add (Cond.code yX4_add cX4_add 6 none :: bg) ({ frames := 2, cells := 0, slots := 0, locals := 52 } : Room) (va_Pc [.ref (g.2.1 (11 + 0)), .ref (g.2.1 (5 + 0)), .int a2, .int a3] (PW g (xw g M))) (va_Qv Q (PB g (xw g)) (Af 0 g)) 0 0 (Af 0 g) := by
  refine Met.ofW (cc := cX4_add) (maxL := 6) (ret := none) (by decide +kernel) rfl ?_
  intro p e s m args below meth c s₁ B hml hv
  obtain ⟨rfl, hv⟩ := hv
  have C := CX.start (own := RX4) B hml rfl gi hv
  have hP := hv.1
  have hS : va_S (Af 0 g) s.heap s.heap [] := va_S.rf
  have hl := lv_entry ([.ref (g.2.1 (11 + 0)), .ref (g.2.1 (5 + 0)), .int a2, .int a3]) (n := 6) (Nat.le_of_ble_eq_true rfl)
  rw [lg_entry_eq]
  generalize (lg_sl ([.ref (g.2.1 (11 + 0)), .ref (g.2.1 (5 + 0)), .int a2, .int a3]) ++ List.replicate (6 - (lg_sl ([.ref (g.2.1 (11 + 0)), .ref (g.2.1 (5 + 0)), .int a2, .int a3])).length) Slot.unset).toArray = ls at hl ⊢
  have hl : lv_has ls 6 [(0, .ref (g.2.1 (11 + 0))), (1, .ref (g.2.1 (5 + 0))), (2, .int a2), (3, .int a3)] := hl
  unfold p_X4_add at hw
  refine lv_aload_n C.1 C.2.1 dX4_add_0 rfl (lv_at hl 1 rfl) ?_
  refine lv_iload_n C.1 C.2.1 dX4_add_1 rfl (lv_at hl 2 rfl) ?_
  refine goV (wf := (xw g)) (runV (w := xw g M) (As := [.int a2]) (rest := []) C lkX4_15 (c_X2_takeCode l g C.2.2.2.2.2.2.2.2.2.2 a2  M _ hw) hP hS rfl rfl ⟨Nat.le_of_ble_eq_true rfl, Nat.le_of_ble_eq_true rfl⟩ (xx_5 Nat.zero_lt_one) rfl rfl hl.1 rfl (Nat.le_of_ble_eq_true rfl) dX4_add_2) hS (fun M1 hw H locs hP hS => ?_)
  refine lv_iconst (v := 0) C.1 C.2.1 dX4_add_5 (by decide) ?_
  refine lv_istore (lv' := [(4, .int 0), (0, .ref (g.2.1 (11 + 0))), (1, .ref (g.2.1 (5 + 0))), (2, .int a2), (3, .int a3)]) C.1 C.2.1 dX4_add_6 hl (by decide) rfl (fun ls hl => ?_)
  obtain ⟨n9, hw⟩ := hw
  exact k_X4_add_8 (Q := Q) C n9 a3 0  _ hw (lv_sub hl [1, 2, 4, 0] rfl) hP hS
def p_X10_apart (a0 : Int32) (a1 : Int32) (M : Mem) (Q : Int32 → Mem → Prop) : Prop := (∀ x1 : Int32, x1 = (if 0 ≤ (a0 - a1) then (a0 - a1) else 0 - (a0 - a1)) → (Q (if ((62 : Int32) - x1) < x1 then ((62 : Int32) - x1) else x1) M))
set_option maxRecDepth 100000 in
set_option maxHeartbeats 4000000 in
theorem c_X10_apart (l : Launch) (g : Geo) (gi : GI g) (a0 : Int32) (a1 : Int32) (M : Mem) (Q : Int32 → Mem → Prop) (hw : p_X10_apart a0 a1 M Q) : Met l yX10_apart (Cond.code yX10_apart cX10_apart 3 (some .int) :: bg) ({ frames := 1, cells := 0, slots := 0, locals := 21 } : Room) (va_Pc [.int a0, .int a1] (PW g (xw g M))) (va_Qi Q (PB g (xw g)) (Af 0 g)) 0 0 (Af 0 g) := by
  refine Met.ofW (cc := cX10_apart) (maxL := 3) (ret := (some .int)) (by decide +kernel) rfl ?_
  intro p e s m args below meth c s₁ B hml hv
  obtain ⟨rfl, hv⟩ := hv
  have C := CX.start (own := RX10) B hml rfl gi hv
  have hP := hv.1
  have hS : va_S (Af 0 g) s.heap s.heap [] := va_S.rf
  have hl := lv_entry ([.int a0, .int a1]) (n := 3) (Nat.le_of_ble_eq_true rfl)
  rw [lg_entry_eq]
  generalize (lg_sl ([.int a0, .int a1]) ++ List.replicate (3 - (lg_sl ([.int a0, .int a1])).length) Slot.unset).toArray = ls at hl ⊢
  have hl : lv_has ls 3 [(0, .int a0), (1, .int a1)] := hl
  unfold p_X10_apart at hw
  refine lv_iload_n C.1 C.2.1 dX10_apart_0 rfl (lv_at hl 0 rfl) ?_
  refine lv_iload_n C.1 C.2.1 dX10_apart_1 rfl (lv_at hl 1 rfl) ?_
  refine lv_isub C.1 C.2.1 dX10_apart_2 ?_
  refine va_mabs C.1 C.2.1 (C.2.2.1.trans hl.1.symm) C.2.2.2.2.1 (C.2.2.2.2.2.1 _ (bg_of 787 (by decide +kernel) rfl)) (C.2.2.2.2.2.1 _ (bg_of 788 (by decide +kernel) rfl)) (C.2.2.2.2.2.1 _ (bg_of 108 (by decide +kernel) rfl)) (C.2.2.2.2.2.1 _ (bg_of 789 (by decide +kernel) rfl)) (Nat.le_of_ble_eq_true rfl) (Nat.le_of_ble_eq_true rfl) (Nat.zero_le _) (Nat.zero_le _) dX10_apart_3 ?_
  refine lv_topi (fun x1 e1 => ?_)
  have hw := hw x1 e1
  refine lv_istore_n (lv' := [(2, .int x1), (0, .int a0), (1, .int a1)]) C.1 C.2.1 dX10_apart_6 rfl hl (by decide) rfl (fun ls hl => ?_)
  refine lv_iload_n C.1 C.2.1 dX10_apart_7 rfl (lv_at hl 0 rfl) ?_
  refine lv_bipush (v := 62) C.1 C.2.1 dX10_apart_8 (by decide) ?_
  refine lv_iload_n C.1 C.2.1 dX10_apart_10 rfl (lv_at hl 0 rfl) ?_
  refine lv_isub C.1 C.2.1 dX10_apart_11 ?_
  refine va_mmin C.1 C.2.1 (C.2.2.1.trans hl.1.symm) C.2.2.2.2.1 (C.2.2.2.2.2.1 _ (bg_of 905 (by decide +kernel) rfl)) (C.2.2.2.2.2.1 _ (bg_of 638 (by decide +kernel) rfl)) (C.2.2.2.2.2.1 _ (bg_of 108 (by decide +kernel) rfl)) (C.2.2.2.2.2.1 _ (bg_of 639 (by decide +kernel) rfl)) (Nat.le_of_ble_eq_true rfl) (Nat.le_of_ble_eq_true rfl) (Nat.zero_le _) (Nat.zero_le _) dX10_apart_12 ?_
  exact retI (wf := (xw g)) C hP hS hw dX10_apart_15
def b_X4_judgeRival_2 (Q : Mem → Prop) : Nat → Int32 → Int32 → Mem → Prop
  | 0, _, _, _ => False
  | n + 1, v1, v2, M => ((15 ≤ v2 → (Q M)) ∧ (¬ 15 ≤ v2 → (vp_in (((62 : Int32) * v2) + v1) 930 ∧ (∀ M3 : Mem, M3 = sI M 11 0 3 (if (M.1 11 0 3) < (M.1 12 0 ((((62 : Int32) * v2) + v1) : Int32).toNatClampNeg) then (M.1 12 0 ((((62 : Int32) * v2) + v1) : Int32).toNatClampNeg) else (M.1 11 0 3)) → (∀ x4 : Int32, x4 = (v2 + 1) → (b_X4_judgeRival_2 Q n v1 x4 M3))))))
set_option maxRecDepth 100000 in
set_option maxHeartbeats 4000000 in
theorem k_X4_judgeRival_2 {p : Program} {l : Launch} {e : Env} {s : State} {m : MethodId} {args : Array Value} {below : List Frame} {meth : Method} {c : Code} {g : Geo} (C : CX g p s m args meth c cX4_judgeRival 3 none RX4) {Q : Mem → Prop} : ∀ (n : Nat) (v1 : Int32) (v2 : Int32) (M : Mem) (hw : b_X4_judgeRival_2 Q n v1 v2 M) {H : Heap} {locs : List Loc} {ls : Array Slot} (hl : lv_has ls 3 [(0, .ref (g.2.1 (11 + 0))), (1, .int v1), (2, .int v2)]) (hP : va_P g.1 clz (xw g M) H) (hS : va_S (Af 0 g) s.heap H locs), W p l e ({ frames := 1, cells := 0, slots := 0, locals := 21 } : Room) s m args below meth c H locs 0 0 (MQ below (va_Qv Q (PB g (xw g)) (Af 0 g)) args s 0 0 (Af 0 g)) (F0 m 2 ls []) := by
  intro n
  induction n with
  | zero => intro v1 v2 M hw H locs ls hl hP hS; exact absurd hw (by rw [b_X4_judgeRival_2]; exact fun h => h)
  | succ n ih =>
    intro v1 v2 M hw H locs ls hl hP hS
    rw [b_X4_judgeRival_2] at hw
    refine lv_iload_n C.1 C.2.1 dX4_judgeRival_2 rfl (lv_at hl 2 rfl) ?_
    refine lv_bipush (v := 15) C.1 C.2.1 dX4_judgeRival_3 (by decide) ?_
    refine lv_icmp_ge (tgt := 36) C.1 C.2.1 dX4_judgeRival_5 (by decide) (fun h1 => ?_) (fun h1 => ?_)
    · have hw := hw.1 h1
      exact retV (wf := (xw g)) C hP hS hw dX4_judgeRival_36
    · have hw := hw.2 h1
      refine lv_aload_n C.1 C.2.1 dX4_judgeRival_8 rfl (lv_at hl 0 rfl) ?_
      refine lv_aload_n C.1 C.2.1 dX4_judgeRival_9 rfl (lv_at hl 0 rfl) ?_
      refine gX4_39 C hP Nat.zero_lt_one dX4_judgeRival_10 ?_
      refine lv_aload_n C.1 C.2.1 dX4_judgeRival_13 rfl (lv_at hl 0 rfl) ?_
      refine gX4_9 C hP Nat.zero_lt_one dX4_judgeRival_14 ?_
      refine lv_bipush (v := 62) C.1 C.2.1 dX4_judgeRival_17 (by decide) ?_
      refine lv_iload_n C.1 C.2.1 dX4_judgeRival_19 rfl (lv_at hl 2 rfl) ?_
      refine lv_imul C.1 C.2.1 dX4_judgeRival_20 ?_
      refine lv_iload_n C.1 C.2.1 dX4_judgeRival_21 rfl (lv_at hl 1 rfl) ?_
      refine lv_iadd C.1 C.2.1 dX4_judgeRival_22 ?_
      obtain ⟨h2, hw⟩ := hw
      refine al_12 C hP Nat.zero_lt_one h2 dX4_judgeRival_23 ?_
      refine va_mmax C.1 C.2.1 (C.2.2.1.trans hl.1.symm) C.2.2.2.2.1 (C.2.2.2.2.2.1 _ (bg_of 910 (by decide +kernel) rfl)) (C.2.2.2.2.2.1 _ (bg_of 791 (by decide +kernel) rfl)) (C.2.2.2.2.2.1 _ (bg_of 108 (by decide +kernel) rfl)) (C.2.2.2.2.2.1 _ (bg_of 792 (by decide +kernel) rfl)) (Nat.le_of_ble_eq_true rfl) (Nat.le_of_ble_eq_true rfl) (Nat.zero_le _) (Nat.zero_le _) dX4_judgeRival_24 ?_
      refine pX4_39 C hP hS Nat.zero_lt_one dX4_judgeRival_27 (fun M3 e3 H locs hP hS => ?_)
      have hw := hw M3 e3
      obtain ⟨x4, e4⟩ : ∃ y : Int32, y = (v2 + 1) := ⟨_, rfl⟩
      have hw := hw x4 e4
      refine lv_iinc (v := x4) (lv' := [(2, .int x4), (0, .ref (g.2.1 (11 + 0))), (1, .int v1)]) C.1 C.2.1 dX4_judgeRival_30 hl (k := 2) rfl (by rw [e4]; rfl) (by decide) rfl (fun ls hl => ?_)
      refine lv_goto (tgt := 2) C.1 C.2.1 dX4_judgeRival_33 (by decide) ?_
      exact ih v1 x4  _ hw (lv_sub hl [1, 2, 0] rfl) hP hS
def p_X4_judgeRival (a1 : Int32) (M : Mem) (Q : Mem → Prop) : Prop := (∃ n2 : Nat, b_X4_judgeRival_2 Q n2 a1 0 M)
set_option maxRecDepth 100000 in
set_option maxHeartbeats 4000000 in
theorem c_X4_judgeRival (l : Launch) (g : Geo) (gi : GI g) (a1 : Int32) (M : Mem) (Q : Mem → Prop) (hw : p_X4_judgeRival a1 M Q) : Met l yX4_judgeRival (Cond.code yX4_judgeRival cX4_judgeRival 3 none :: bg) ({ frames := 1, cells := 0, slots := 0, locals := 21 } : Room) (va_Pc [.ref (g.2.1 (11 + 0)), .int a1] (PW g (xw g M))) (va_Qv Q (PB g (xw g)) (Af 0 g)) 0 0 (Af 0 g) := by
  refine Met.ofW (cc := cX4_judgeRival) (maxL := 3) (ret := none) (by decide +kernel) rfl ?_
  intro p e s m args below meth c s₁ B hml hv
  obtain ⟨rfl, hv⟩ := hv
  have C := CX.start (own := RX4) B hml rfl gi hv
  have hP := hv.1
  have hS : va_S (Af 0 g) s.heap s.heap [] := va_S.rf
  have hl := lv_entry ([.ref (g.2.1 (11 + 0)), .int a1]) (n := 3) (Nat.le_of_ble_eq_true rfl)
  rw [lg_entry_eq]
  generalize (lg_sl ([.ref (g.2.1 (11 + 0)), .int a1]) ++ List.replicate (3 - (lg_sl ([.ref (g.2.1 (11 + 0)), .int a1])).length) Slot.unset).toArray = ls at hl ⊢
  have hl : lv_has ls 3 [(0, .ref (g.2.1 (11 + 0))), (1, .int a1)] := hl
  unfold p_X4_judgeRival at hw
  refine lv_iconst (v := 0) C.1 C.2.1 dX4_judgeRival_0 (by decide) ?_
  refine lv_istore_n (lv' := [(2, .int 0), (0, .ref (g.2.1 (11 + 0))), (1, .int a1)]) C.1 C.2.1 dX4_judgeRival_1 rfl hl (by decide) rfl (fun ls hl => ?_)
  obtain ⟨n9, hw⟩ := hw
  exact k_X4_judgeRival_2 (Q := Q) C n9 a1 0  _ hw (lv_sub hl [1, 2, 0] rfl) hP hS
def b_X4_judge_91 (Q : Mem → Prop) (k65 : Int32 → Mem → Prop) (v1 : Int32) (M : Mem) : Prop := (∀ x9 : Int32, x9 = (v1 + 1) → (k65 x9 M))
set_option maxRecDepth 100000 in
set_option maxHeartbeats 4000000 in
theorem k_X4_judge_91 {p : Program} {l : Launch} {e : Env} {s : State} {m : MethodId} {args : Array Value} {below : List Frame} {meth : Method} {c : Code} {g : Geo} (C : CX g p s m args meth c cX4_judge 2 none RX4) {Q : Mem → Prop} {k65 : Int32 → Mem → Prop} (hk65 : ∀ (v1 : Int32) (M : Mem), k65 v1 M → ∀ (H : Heap) (locs : List Loc) (ls : Array Slot), lv_has ls 2 [(0, .ref (g.2.1 (11 + 0))), (1, .int v1)] → va_P g.1 clz (xw g M) H → va_S (Af 0 g) s.heap H locs → W p l e ({ frames := 2, cells := 0, slots := 0, locals := 43 } : Room) s m args below meth c H locs 0 0 (MQ below (va_Qv Q (PB g (xw g)) (Af 0 g)) args s 0 0 (Af 0 g)) (F0 m 65 ls [])) (v1 : Int32) (M : Mem) (hw : b_X4_judge_91 Q k65 v1 M) {H : Heap} {locs : List Loc} {ls : Array Slot} (hl : lv_has ls 2 [(0, .ref (g.2.1 (11 + 0))), (1, .int v1)]) (hP : va_P g.1 clz (xw g M) H) (hS : va_S (Af 0 g) s.heap H locs) : W p l e ({ frames := 2, cells := 0, slots := 0, locals := 43 } : Room) s m args below meth c H locs 0 0 (MQ below (va_Qv Q (PB g (xw g)) (Af 0 g)) args s 0 0 (Af 0 g)) (F0 m 91 ls []) := by
  unfold b_X4_judge_91 at hw
  obtain ⟨x9, e9⟩ : ∃ y : Int32, y = (v1 + 1) := ⟨_, rfl⟩
  have hw := hw x9 e9
  refine lv_iinc (v := x9) (lv' := [(1, .int x9), (0, .ref (g.2.1 (11 + 0)))]) C.1 C.2.1 dX4_judge_91 hl (k := 1) rfl (by rw [e9]; rfl) (by decide) rfl (fun ls hl => ?_)
  refine lv_goto (tgt := 65) C.1 C.2.1 dX4_judge_94 (by decide) ?_
  exact hk65 x9  _ hw _ _ _ (lv_sub hl [1, 0] rfl) hP hS
def b_X4_judge_65 (Q : Mem → Prop) : Nat → Int32 → Mem → Prop
  | 0, _, _ => False
  | n + 1, v1, M => ((62 ≤ v1 → (Q M)) ∧ (¬ 62 ≤ v1 → (p_X10_apart v1 (((M.1 11 0 1) - (M.1 11 0 1) / 62 * 62)) M (fun r7 M7 => ((r7 < 3 → (b_X4_judge_91 Q (fun v1 M => b_X4_judge_65 Q n v1 M) v1 M7)) ∧ (¬ r7 < 3 → (p_X4_judgeRival v1 M7 (fun M10 => (b_X4_judge_91 Q (fun v1 M => b_X4_judge_65 Q n v1 M) v1 M10)))))))))
set_option maxRecDepth 100000 in
set_option maxHeartbeats 4000000 in
theorem k_X4_judge_65 {p : Program} {l : Launch} {e : Env} {s : State} {m : MethodId} {args : Array Value} {below : List Frame} {meth : Method} {c : Code} {g : Geo} (C : CX g p s m args meth c cX4_judge 2 none RX4) {Q : Mem → Prop} : ∀ (n : Nat) (v1 : Int32) (M : Mem) (hw : b_X4_judge_65 Q n v1 M) {H : Heap} {locs : List Loc} {ls : Array Slot} (hl : lv_has ls 2 [(0, .ref (g.2.1 (11 + 0))), (1, .int v1)]) (hP : va_P g.1 clz (xw g M) H) (hS : va_S (Af 0 g) s.heap H locs), W p l e ({ frames := 2, cells := 0, slots := 0, locals := 43 } : Room) s m args below meth c H locs 0 0 (MQ below (va_Qv Q (PB g (xw g)) (Af 0 g)) args s 0 0 (Af 0 g)) (F0 m 65 ls []) := by
  intro n
  induction n with
  | zero => intro v1 M hw H locs ls hl hP hS; exact absurd hw (by rw [b_X4_judge_65]; exact fun h => h)
  | succ n ih =>
    intro v1 M hw H locs ls hl hP hS
    rw [b_X4_judge_65] at hw
    refine lv_iload_n C.1 C.2.1 dX4_judge_65 rfl (lv_at hl 1 rfl) ?_
    refine lv_bipush (v := 62) C.1 C.2.1 dX4_judge_66 (by decide) ?_
    refine lv_icmp_ge (tgt := 97) C.1 C.2.1 dX4_judge_68 (by decide) (fun h6 => ?_) (fun h6 => ?_)
    · have hw := hw.1 h6
      exact retV (wf := (xw g)) C hP hS hw dX4_judge_97
    · have hw := hw.2 h6
      refine lv_iload_n C.1 C.2.1 dX4_judge_71 rfl (lv_at hl 1 rfl) ?_
      refine lv_aload_n C.1 C.2.1 dX4_judge_72 rfl (lv_at hl 0 rfl) ?_
      refine gX4_32 C hP Nat.zero_lt_one dX4_judge_73 ?_
      refine lv_bipush (v := 62) C.1 C.2.1 dX4_judge_76 (by decide) ?_
      refine lv_irem C.1 C.2.1 dX4_judge_78 (by decide) ?_
      refine goI (wf := (xw g)) (runN (w := xw g M) (As := [.int v1, .int ((M.1 11 0 1) - (M.1 11 0 1) / 62 * 62)]) (rest := []) C lkX4_42 (c_X10_apart l g C.2.2.2.2.2.2.2.2.2.2 v1 (((M.1 11 0 1) - (M.1 11 0 1) / 62 * 62))  M _ hw) hP hS rfl rfl ⟨Nat.le_of_ble_eq_true rfl, Nat.le_of_ble_eq_true rfl⟩ hl.1 rfl (Nat.le_of_ble_eq_true rfl) dX4_judge_79) hS (fun r7 M7 hw H locs hP hS => ?_)
      refine lv_iconst (v := 3) C.1 C.2.1 dX4_judge_82 (by decide) ?_
      refine lv_icmp_lt (tgt := 91) C.1 C.2.1 dX4_judge_83 (by decide) (fun h8 => ?_) (fun h8 => ?_)
      · have hw := hw.1 h8
        exact k_X4_judge_91 (Q := Q) C (fun v1  M hw H locs ls hl hP hS => ih v1  M hw hl hP hS) v1  _ hw (lv_sub hl [0, 1] rfl) hP hS
      · have hw := hw.2 h8
        refine lv_aload_n C.1 C.2.1 dX4_judge_86 rfl (lv_at hl 0 rfl) ?_
        refine lv_iload_n C.1 C.2.1 dX4_judge_87 rfl (lv_at hl 1 rfl) ?_
        refine goV (wf := (xw g)) (runV (w := xw g M7) (As := [.int v1]) (rest := []) C lkX4_46 (c_X4_judgeRival l g C.2.2.2.2.2.2.2.2.2.2 v1  M7 _ hw) hP hS rfl rfl ⟨Nat.le_of_ble_eq_true rfl, Nat.le_of_ble_eq_true rfl⟩ (xx_11 Nat.zero_lt_one) rfl rfl hl.1 rfl (Nat.le_of_ble_eq_true rfl) dX4_judge_88) hS (fun M10 hw H locs hP hS => ?_)
        exact k_X4_judge_91 (Q := Q) C (fun v1  M hw H locs ls hl hP hS => ih v1  M hw hl hP hS) v1  _ hw (lv_sub hl [0, 1] rfl) hP hS
def b_X4_judge_45 (Q : Mem → Prop) (M : Mem) : Prop := (vp_in (M.1 11 0 1) 930 ∧ (∀ M4 : Mem, M4 = sI M 11 0 2 (M.1 12 0 ((M.1 11 0 1) : Int32).toNatClampNeg) → (∀ M5 : Mem, M5 = sI M4 11 0 3 0 → (∃ n65 : Nat, b_X4_judge_65 Q n65 0 M5))))
set_option maxRecDepth 100000 in
set_option maxHeartbeats 4000000 in
theorem k_X4_judge_45 {p : Program} {l : Launch} {e : Env} {s : State} {m : MethodId} {args : Array Value} {below : List Frame} {meth : Method} {c : Code} {g : Geo} (C : CX g p s m args meth c cX4_judge 2 none RX4) {Q : Mem → Prop} (M : Mem) (hw : b_X4_judge_45 Q M) {H : Heap} {locs : List Loc} {ls : Array Slot} (hl : lv_has ls 2 [(0, .ref (g.2.1 (11 + 0)))]) (hP : va_P g.1 clz (xw g M) H) (hS : va_S (Af 0 g) s.heap H locs) : W p l e ({ frames := 2, cells := 0, slots := 0, locals := 43 } : Room) s m args below meth c H locs 0 0 (MQ below (va_Qv Q (PB g (xw g)) (Af 0 g)) args s 0 0 (Af 0 g)) (F0 m 45 ls []) := by
  unfold b_X4_judge_45 at hw
  refine lv_aload_n C.1 C.2.1 dX4_judge_45 rfl (lv_at hl 0 rfl) ?_
  refine lv_aload_n C.1 C.2.1 dX4_judge_46 rfl (lv_at hl 0 rfl) ?_
  refine gX4_9 C hP Nat.zero_lt_one dX4_judge_47 ?_
  refine lv_aload_n C.1 C.2.1 dX4_judge_50 rfl (lv_at hl 0 rfl) ?_
  refine gX4_32 C hP Nat.zero_lt_one dX4_judge_51 ?_
  obtain ⟨h3, hw⟩ := hw
  refine al_12 C hP Nat.zero_lt_one h3 dX4_judge_54 ?_
  refine pX4_36 C hP hS Nat.zero_lt_one dX4_judge_55 (fun M4 e4 H locs hP hS => ?_)
  have hw := hw M4 e4
  refine lv_aload_n C.1 C.2.1 dX4_judge_58 rfl (lv_at hl 0 rfl) ?_
  refine lv_iconst (v := 0) C.1 C.2.1 dX4_judge_59 (by decide) ?_
  refine pX4_39 C hP hS Nat.zero_lt_one dX4_judge_60 (fun M5 e5 H locs hP hS => ?_)
  have hw := hw M5 e5
  refine lv_iconst (v := 0) C.1 C.2.1 dX4_judge_63 (by decide) ?_
  refine lv_istore_n (lv' := [(1, .int 0), (0, .ref (g.2.1 (11 + 0)))]) C.1 C.2.1 dX4_judge_64 rfl hl (by decide) rfl (fun ls hl => ?_)
  obtain ⟨n9, hw⟩ := hw
  exact k_X4_judge_65 (Q := Q) C n9 0  _ hw (lv_sub hl [1, 0] rfl) hP hS
def b_X4_judge_39 (Q : Mem → Prop) (k7 : Int32 → Mem → Prop) (v1 : Int32) (M : Mem) : Prop := (∀ x14 : Int32, x14 = (v1 + 1) → (k7 x14 M))
set_option maxRecDepth 100000 in
set_option maxHeartbeats 4000000 in
theorem k_X4_judge_39 {p : Program} {l : Launch} {e : Env} {s : State} {m : MethodId} {args : Array Value} {below : List Frame} {meth : Method} {c : Code} {g : Geo} (C : CX g p s m args meth c cX4_judge 2 none RX4) {Q : Mem → Prop} {k7 : Int32 → Mem → Prop} (hk7 : ∀ (v1 : Int32) (M : Mem), k7 v1 M → ∀ (H : Heap) (locs : List Loc) (ls : Array Slot), lv_has ls 2 [(0, .ref (g.2.1 (11 + 0))), (1, .int v1)] → va_P g.1 clz (xw g M) H → va_S (Af 0 g) s.heap H locs → W p l e ({ frames := 2, cells := 0, slots := 0, locals := 43 } : Room) s m args below meth c H locs 0 0 (MQ below (va_Qv Q (PB g (xw g)) (Af 0 g)) args s 0 0 (Af 0 g)) (F0 m 7 ls [])) (v1 : Int32) (M : Mem) (hw : b_X4_judge_39 Q k7 v1 M) {H : Heap} {locs : List Loc} {ls : Array Slot} (hl : lv_has ls 2 [(0, .ref (g.2.1 (11 + 0))), (1, .int v1)]) (hP : va_P g.1 clz (xw g M) H) (hS : va_S (Af 0 g) s.heap H locs) : W p l e ({ frames := 2, cells := 0, slots := 0, locals := 43 } : Room) s m args below meth c H locs 0 0 (MQ below (va_Qv Q (PB g (xw g)) (Af 0 g)) args s 0 0 (Af 0 g)) (F0 m 39 ls []) := by
  unfold b_X4_judge_39 at hw
  obtain ⟨x14, e14⟩ : ∃ y : Int32, y = (v1 + 1) := ⟨_, rfl⟩
  have hw := hw x14 e14
  refine lv_iinc (v := x14) (lv' := [(1, .int x14), (0, .ref (g.2.1 (11 + 0)))]) C.1 C.2.1 dX4_judge_39 hl (k := 1) rfl (by rw [e14]; rfl) (by decide) rfl (fun ls hl => ?_)
  refine lv_goto (tgt := 7) C.1 C.2.1 dX4_judge_42 (by decide) ?_
  exact hk7 x14  _ hw _ _ _ (lv_sub hl [1, 0] rfl) hP hS
def b_X4_judge_7 (Q : Mem → Prop) : Nat → Int32 → Mem → Prop
  | 0, _, _ => False
  | n + 1, v1, M => ((930 ≤ v1 → (b_X4_judge_45 Q  M)) ∧ (¬ 930 ≤ v1 → (vp_in v1 930 ∧ (vp_in (M.1 11 0 1) 930 ∧ (((M.1 12 0 (v1 : Int32).toNatClampNeg) ≤ (M.1 12 0 ((M.1 11 0 1) : Int32).toNatClampNeg) → (b_X4_judge_39 Q (fun v1 M => b_X4_judge_7 Q n v1 M) v1 M)) ∧ (¬ (M.1 12 0 (v1 : Int32).toNatClampNeg) ≤ (M.1 12 0 ((M.1 11 0 1) : Int32).toNatClampNeg) → (∀ M15 : Mem, M15 = sI M 11 0 1 v1 → (b_X4_judge_39 Q (fun v1 M => b_X4_judge_7 Q n v1 M) v1 M15))))))))
set_option maxRecDepth 100000 in
set_option maxHeartbeats 4000000 in
theorem k_X4_judge_7 {p : Program} {l : Launch} {e : Env} {s : State} {m : MethodId} {args : Array Value} {below : List Frame} {meth : Method} {c : Code} {g : Geo} (C : CX g p s m args meth c cX4_judge 2 none RX4) {Q : Mem → Prop} : ∀ (n : Nat) (v1 : Int32) (M : Mem) (hw : b_X4_judge_7 Q n v1 M) {H : Heap} {locs : List Loc} {ls : Array Slot} (hl : lv_has ls 2 [(0, .ref (g.2.1 (11 + 0))), (1, .int v1)]) (hP : va_P g.1 clz (xw g M) H) (hS : va_S (Af 0 g) s.heap H locs), W p l e ({ frames := 2, cells := 0, slots := 0, locals := 43 } : Room) s m args below meth c H locs 0 0 (MQ below (va_Qv Q (PB g (xw g)) (Af 0 g)) args s 0 0 (Af 0 g)) (F0 m 7 ls []) := by
  intro n
  induction n with
  | zero => intro v1 M hw H locs ls hl hP hS; exact absurd hw (by rw [b_X4_judge_7]; exact fun h => h)
  | succ n ih =>
    intro v1 M hw H locs ls hl hP hS
    rw [b_X4_judge_7] at hw
    refine lv_iload_n C.1 C.2.1 dX4_judge_7 rfl (lv_at hl 1 rfl) ?_
    refine lv_aload_n C.1 C.2.1 dX4_judge_8 rfl (lv_at hl 0 rfl) ?_
    refine gX4_9 C hP Nat.zero_lt_one dX4_judge_9 ?_
    refine an_12 C hP Nat.zero_lt_one dX4_judge_12 ?_
    refine lv_icmp_ge (tgt := 45) C.1 C.2.1 dX4_judge_13 (by decide) (fun h2 => ?_) (fun h2 => ?_)
    · have hw := hw.1 h2
      exact k_X4_judge_45 (Q := Q) C   _ hw (lv_sub hl [0] rfl) hP hS
    · have hw := hw.2 h2
      refine lv_aload_n C.1 C.2.1 dX4_judge_16 rfl (lv_at hl 0 rfl) ?_
      refine gX4_9 C hP Nat.zero_lt_one dX4_judge_17 ?_
      refine lv_iload_n C.1 C.2.1 dX4_judge_20 rfl (lv_at hl 1 rfl) ?_
      obtain ⟨h11, hw⟩ := hw
      refine al_12 C hP Nat.zero_lt_one h11 dX4_judge_21 ?_
      refine lv_aload_n C.1 C.2.1 dX4_judge_22 rfl (lv_at hl 0 rfl) ?_
      refine gX4_9 C hP Nat.zero_lt_one dX4_judge_23 ?_
      refine lv_aload_n C.1 C.2.1 dX4_judge_26 rfl (lv_at hl 0 rfl) ?_
      refine gX4_32 C hP Nat.zero_lt_one dX4_judge_27 ?_
      obtain ⟨h12, hw⟩ := hw
      refine al_12 C hP Nat.zero_lt_one h12 dX4_judge_30 ?_
      refine lv_icmp_le (tgt := 39) C.1 C.2.1 dX4_judge_31 (by decide) (fun h13 => ?_) (fun h13 => ?_)
      · have hw := hw.1 h13
        exact k_X4_judge_39 (Q := Q) C (fun v1  M hw H locs ls hl hP hS => ih v1  M hw hl hP hS) v1  _ hw (lv_sub hl [0, 1] rfl) hP hS
      · have hw := hw.2 h13
        refine lv_aload_n C.1 C.2.1 dX4_judge_34 rfl (lv_at hl 0 rfl) ?_
        refine lv_iload_n C.1 C.2.1 dX4_judge_35 rfl (lv_at hl 1 rfl) ?_
        refine pX4_32 C hP hS Nat.zero_lt_one dX4_judge_36 (fun M15 e15 H locs hP hS => ?_)
        have hw := hw M15 e15
        exact k_X4_judge_39 (Q := Q) C (fun v1  M hw H locs ls hl hP hS => ih v1  M hw hl hP hS) v1  _ hw (lv_sub hl [0, 1] rfl) hP hS
def p_X4_judge (M : Mem) (Q : Mem → Prop) : Prop := (∀ M1 : Mem, M1 = sI M 11 0 1 0 → (∃ n7 : Nat, b_X4_judge_7 Q n7 1 M1))
set_option maxRecDepth 100000 in
set_option maxHeartbeats 4000000 in
theorem c_X4_judge (l : Launch) (g : Geo) (gi : GI g) (M : Mem) (Q : Mem → Prop) (hw : p_X4_judge  M Q) : Met l yX4_judge (Cond.code yX4_judge cX4_judge 2 none :: bg) ({ frames := 2, cells := 0, slots := 0, locals := 43 } : Room) (va_Pc [.ref (g.2.1 (11 + 0))] (PW g (xw g M))) (va_Qv Q (PB g (xw g)) (Af 0 g)) 0 0 (Af 0 g) := by
  refine Met.ofW (cc := cX4_judge) (maxL := 2) (ret := none) (by decide +kernel) rfl ?_
  intro p e s m args below meth c s₁ B hml hv
  obtain ⟨rfl, hv⟩ := hv
  have C := CX.start (own := RX4) B hml rfl gi hv
  have hP := hv.1
  have hS : va_S (Af 0 g) s.heap s.heap [] := va_S.rf
  have hl := lv_entry ([.ref (g.2.1 (11 + 0))]) (n := 2) (Nat.le_of_ble_eq_true rfl)
  rw [lg_entry_eq]
  generalize (lg_sl ([.ref (g.2.1 (11 + 0))]) ++ List.replicate (2 - (lg_sl ([.ref (g.2.1 (11 + 0))])).length) Slot.unset).toArray = ls at hl ⊢
  have hl : lv_has ls 2 [(0, .ref (g.2.1 (11 + 0)))] := hl
  unfold p_X4_judge at hw
  refine lv_aload_n C.1 C.2.1 dX4_judge_0 rfl (lv_at hl 0 rfl) ?_
  refine lv_iconst (v := 0) C.1 C.2.1 dX4_judge_1 (by decide) ?_
  refine pX4_32 C hP hS Nat.zero_lt_one dX4_judge_2 (fun M1 e1 H locs hP hS => ?_)
  have hw := hw M1 e1
  refine lv_iconst (v := 1) C.1 C.2.1 dX4_judge_5 (by decide) ?_
  refine lv_istore_n (lv' := [(1, .int 1), (0, .ref (g.2.1 (11 + 0)))]) C.1 C.2.1 dX4_judge_6 rfl hl (by decide) rfl (fun ls hl => ?_)
  obtain ⟨n9, hw⟩ := hw
  exact k_X4_judge_7 (Q := Q) C n9 1  _ hw (lv_sub hl [1, 0] rfl) hP hS
def p_X4_isAcquired (a1 : Int32) (M : Mem) (Q : Int32 → Mem → Prop) : Prop := (((M.1 11 0 2) ≤ 0 → (Q 0 M)) ∧ (¬ (M.1 11 0 2) ≤ 0 → (((lg_cmp ((10 : Int64) * ((M.1 11 0 2) : Int32).toInt64) ((a1 : Int32).toInt64 * ((M.1 11 0 3) : Int32).toInt64)) < 0 → (Q 0 M)) ∧ (¬ (lg_cmp ((10 : Int64) * ((M.1 11 0 2) : Int32).toInt64) ((a1 : Int32).toInt64 * ((M.1 11 0 3) : Int32).toInt64)) < 0 → (Q 1 M)))))
set_option maxRecDepth 100000 in
set_option maxHeartbeats 4000000 in
theorem c_X4_isAcquired (l : Launch) (g : Geo) (gi : GI g) (a1 : Int32) (M : Mem) (Q : Int32 → Mem → Prop) (hw : p_X4_isAcquired a1 M Q) : Met l yX4_isAcquired (Cond.code yX4_isAcquired cX4_isAcquired 2 (some .boolean) :: bg) ({ frames := 0, cells := 0, slots := 0, locals := 0 } : Room) (va_Pc [.ref (g.2.1 (11 + 0)), .int a1] (PW g (xw g M))) (va_Qi (fun r M => Q r M ∧ narrow .boolean (.int r) = .int r) (PB g (xw g)) (Af 0 g)) 0 0 (Af 0 g) := by
  refine Met.ofW (cc := cX4_isAcquired) (maxL := 2) (ret := (some .boolean)) (by decide +kernel) rfl ?_
  intro p e s m args below meth c s₁ B hml hv
  obtain ⟨rfl, hv⟩ := hv
  have C := CX.start (own := RX4) B hml rfl gi hv
  have hP := hv.1
  have hS : va_S (Af 0 g) s.heap s.heap [] := va_S.rf
  have hl := lv_entry ([.ref (g.2.1 (11 + 0)), .int a1]) (n := 2) (Nat.le_of_ble_eq_true rfl)
  rw [lg_entry_eq]
  generalize (lg_sl ([.ref (g.2.1 (11 + 0)), .int a1]) ++ List.replicate (2 - (lg_sl ([.ref (g.2.1 (11 + 0)), .int a1])).length) Slot.unset).toArray = ls at hl ⊢
  have hl : lv_has ls 2 [(0, .ref (g.2.1 (11 + 0))), (1, .int a1)] := hl
  unfold p_X4_isAcquired at hw
  refine lv_aload_n C.1 C.2.1 dX4_isAcquired_0 rfl (lv_at hl 0 rfl) ?_
  refine gX4_36 C hP Nat.zero_lt_one dX4_isAcquired_1 ?_
  refine lv_if_le (tgt := 32) C.1 C.2.1 dX4_isAcquired_4 (by decide) (fun h1 => ?_) (fun h1 => ?_)
  · have hw := hw.1 h1
    refine lv_iconst (v := 0) C.1 C.2.1 dX4_isAcquired_32 (by decide) ?_
    exact retZ (wf := (xw g)) C hP hS rfl hw dX4_isAcquired_33
  · have hw := hw.2 h1
    refine lv_ldc2 (v := 10) C.1 C.2.1 C.2.2.2.2.1 (C.2.2.2.2.2.1 _ (bg_of 915 (by decide +kernel) rfl)) dX4_isAcquired_7 ?_
    refine lv_aload_n C.1 C.2.1 dX4_isAcquired_10 rfl (lv_at hl 0 rfl) ?_
    refine gX4_36 C hP Nat.zero_lt_one dX4_isAcquired_11 ?_
    refine lv_i2l C.1 C.2.1 dX4_isAcquired_14 rfl ?_
    refine lv_lmul C.1 C.2.1 dX4_isAcquired_15 ?_
    refine lv_iload_n C.1 C.2.1 dX4_isAcquired_16 rfl (lv_at hl 1 rfl) ?_
    refine lv_i2l C.1 C.2.1 dX4_isAcquired_17 rfl ?_
    refine lv_aload_n C.1 C.2.1 dX4_isAcquired_18 rfl (lv_at hl 0 rfl) ?_
    refine gX4_39 C hP Nat.zero_lt_one dX4_isAcquired_19 ?_
    refine lv_i2l C.1 C.2.1 dX4_isAcquired_22 rfl ?_
    refine lv_lmul C.1 C.2.1 dX4_isAcquired_23 ?_
    refine W.lcmp C.1 C.2.1 dX4_isAcquired_24 ?_
    refine lv_if_lt (tgt := 32) C.1 C.2.1 dX4_isAcquired_25 (by decide) (fun h2 => ?_) (fun h2 => ?_)
    · have hw := hw.1 h2
      refine lv_iconst (v := 0) C.1 C.2.1 dX4_isAcquired_32 (by decide) ?_
      exact retZ (wf := (xw g)) C hP hS rfl hw dX4_isAcquired_33
    · have hw := hw.2 h2
      refine lv_iconst (v := 1) C.1 C.2.1 dX4_isAcquired_28 (by decide) ?_
      refine lv_goto (tgt := 33) C.1 C.2.1 dX4_isAcquired_29 (by decide) ?_
      exact retZ (wf := (xw g)) C hP hS rfl hw dX4_isAcquired_33
