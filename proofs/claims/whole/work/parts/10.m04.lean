def p_X7_told (a1 : Int32) (M : Mem) (Q : Int32 → Mem → Prop) : Prop := ((a1 = 0 → (Q (M.1 17 0 3) M)) ∧ (a1 = 1 → (Q (M.1 17 0 4) M)) ∧ (a1 = 2 → (Q (M.1 17 0 5) M)) ∧ (a1 = 3 → (Q (M.1 17 0 6) M)) ∧ (¬ a1 = 0 → ¬ a1 = 1 → ¬ a1 = 2 → ¬ a1 = 3 → (Q (M.1 17 0 1) M)))
set_option maxRecDepth 100000 in
set_option maxHeartbeats 4000000 in
theorem c_X7_told (l : Launch) (g : Geo) (gi : GI g) (a1 : Int32) (M : Mem) (Q : Int32 → Mem → Prop) (hw : p_X7_told a1 M Q) : Met l yX7_told (Cond.code yX7_told cX7_told 2 (some .int) :: bg) ({ frames := 0, cells := 0, slots := 0, locals := 0 } : Room) (va_Pc [.ref (g.2.1 (17 + 0)), .int a1] (PW g (xw g M))) (va_Qi Q (PB g (xw g)) (Af 0 g)) 0 0 (Af 0 g) := by
  refine Met.ofW (cc := cX7_told) (maxL := 2) (ret := (some .int)) (by decide +kernel) rfl ?_
  intro p e s m args below meth c s₁ B hml hv
  obtain ⟨rfl, hv⟩ := hv
  have C := CX.start (own := RX7) B hml rfl gi hv
  have hP := hv.1
  have hS : va_S (Af 0 g) s.heap s.heap [] := va_S.rf
  have hl := lv_entry ([.ref (g.2.1 (17 + 0)), .int a1]) (n := 2) (Nat.le_of_ble_eq_true rfl)
  rw [lg_entry_eq]
  generalize (lg_sl ([.ref (g.2.1 (17 + 0)), .int a1]) ++ List.replicate (2 - (lg_sl ([.ref (g.2.1 (17 + 0)), .int a1])).length) Slot.unset).toArray = ls at hl ⊢
  have hl : lv_has ls 2 [(0, .ref (g.2.1 (17 + 0))), (1, .int a1)] := hl
  unfold p_X7_told at hw
  refine lv_iload_n C.1 C.2.1 dX7_told_0 rfl (lv_at hl 1 rfl) ?_
  by_cases q1_0 : a1 = 0
  · have hw := hw.1 q1_0
    refine lv_tableIn (tgt := 32) (off := 31) C.1 C.2.1 dX7_told_1 (by rw [q1_0]; decide) (by rw [q1_0]; decide) (by rw [q1_0]; decide +kernel) (by decide) ?_
    refine lv_aload_n C.1 C.2.1 dX7_told_32 rfl (lv_at hl 0 rfl) ?_
    refine gX7_68 C hP Nat.zero_lt_one dX7_told_33 ?_
    exact retI (wf := (xw g)) C hP hS hw dX7_told_36
  by_cases q1_1 : a1 = 1
  · have hw := hw.2.1 q1_1
    refine lv_tableIn (tgt := 37) (off := 36) C.1 C.2.1 dX7_told_1 (by rw [q1_1]; decide) (by rw [q1_1]; decide) (by rw [q1_1]; decide +kernel) (by decide) ?_
    refine lv_aload_n C.1 C.2.1 dX7_told_37 rfl (lv_at hl 0 rfl) ?_
    refine gX7_69 C hP Nat.zero_lt_one dX7_told_38 ?_
    exact retI (wf := (xw g)) C hP hS hw dX7_told_41
  by_cases q1_2 : a1 = 2
  · have hw := hw.2.2.1 q1_2
    refine lv_tableIn (tgt := 42) (off := 41) C.1 C.2.1 dX7_told_1 (by rw [q1_2]; decide) (by rw [q1_2]; decide) (by rw [q1_2]; decide +kernel) (by decide) ?_
    refine lv_aload_n C.1 C.2.1 dX7_told_42 rfl (lv_at hl 0 rfl) ?_
    refine gX7_70 C hP Nat.zero_lt_one dX7_told_43 ?_
    exact retI (wf := (xw g)) C hP hS hw dX7_told_46
  by_cases q1_3 : a1 = 3
  · have hw := hw.2.2.2.1 q1_3
    refine lv_tableIn (tgt := 47) (off := 46) C.1 C.2.1 dX7_told_1 (by rw [q1_3]; decide) (by rw [q1_3]; decide) (by rw [q1_3]; decide +kernel) (by decide) ?_
    refine lv_aload_n C.1 C.2.1 dX7_told_47 rfl (lv_at hl 0 rfl) ?_
    refine gX7_71 C hP Nat.zero_lt_one dX7_told_48 ?_
    exact retI (wf := (xw g)) C hP hS hw dX7_told_51
  have hw := hw.2.2.2.2 q1_0 q1_1 q1_2 q1_3
  have n1_0 : a1.toInt ≠ 0 := tsw q1_0
  have n1_1 : a1.toInt ≠ 1 := tsw q1_1
  have n1_2 : a1.toInt ≠ 2 := tsw q1_2
  have n1_3 : a1.toInt ≠ 3 := tsw q1_3
  refine lv_tableOut (tgt := 52) C.1 C.2.1 dX7_told_1 (by omega) (by decide) ?_
  refine lv_aload_n C.1 C.2.1 dX7_told_52 rfl (lv_at hl 0 rfl) ?_
  refine gX7_41 C hP Nat.zero_lt_one dX7_told_53 ?_
  exact retI (wf := (xw g)) C hP hS hw dX7_told_56
def b_X8_empty_7 (Q : Mem → Prop) : Nat → Nat → Int32 → Mem → Prop
  | 0, _, _, _ => False
  | n + 1, v0, v1, M => ((5 ≤ v1 → (Q M)) ∧ (¬ 5 ≤ v1 → (vp_in v1 5 ∧ (∀ M3 : Mem, M3 = sI M 29 v0 (v1 : Int32).toNatClampNeg (-1) → (∀ x4 : Int32, x4 = (v1 + 1) → (b_X8_empty_7 Q n v0 x4 M3))))))
set_option maxRecDepth 100000 in
set_option maxHeartbeats 4000000 in
theorem k_X8_empty_7 {p : Program} {l : Launch} {e : Env} {s : State} {m : MethodId} {args : Array Value} {below : List Frame} {meth : Method} {c : Code} {g : Geo} (C : CX g p s m args meth c cX8_empty 2 none RX8) {Q : Mem → Prop} : ∀ (n : Nat) (v0 : Nat) (v1 : Int32) (hv0 : v0 < 13) (M : Mem) (hw : b_X8_empty_7 Q n v0 v1 M) {H : Heap} {locs : List Loc} {ls : Array Slot} (hl : lv_has ls 2 [(0, .ref (g.2.1 (47 + v0))), (1, .int v1)]) (hP : va_P g.1 clz (xw g M) H) (hS : va_S (Af 0 g) s.heap H locs), W p l e ({ frames := 0, cells := 0, slots := 0, locals := 0 } : Room) s m args below meth c H locs 0 0 (MQ below (va_Qv Q (PB g (xw g)) (Af 0 g)) args s 0 0 (Af 0 g)) (F0 m 7 ls []) := by
  intro n
  induction n with
  | zero => intro v0 v1 hv0 M hw H locs ls hl hP hS; exact absurd hw (by rw [b_X8_empty_7]; exact fun h => h)
  | succ n ih =>
    intro v0 v1 hv0 M hw H locs ls hl hP hS
    rw [b_X8_empty_7] at hw
    refine lv_iload_n C.1 C.2.1 dX8_empty_7 rfl (lv_at hl 1 rfl) ?_
    refine lv_aload_n C.1 C.2.1 dX8_empty_8 rfl (lv_at hl 0 rfl) ?_
    refine gX8_17 C hP hv0 dX8_empty_9 ?_
    refine an_29 C hP hv0 dX8_empty_12 ?_
    refine lv_icmp_ge (tgt := 29) C.1 C.2.1 dX8_empty_13 (by decide) (fun h2 => ?_) (fun h2 => ?_)
    · have hw := hw.1 h2
      exact retV (wf := (xw g)) C hP hS hw dX8_empty_29
    · have hw := hw.2 h2
      refine lv_aload_n C.1 C.2.1 dX8_empty_16 rfl (lv_at hl 0 rfl) ?_
      refine gX8_17 C hP hv0 dX8_empty_17 ?_
      refine lv_iload_n C.1 C.2.1 dX8_empty_20 rfl (lv_at hl 1 rfl) ?_
      refine lv_iconst (v := (-1)) C.1 C.2.1 dX8_empty_21 (by decide) ?_
      obtain ⟨h3, hw⟩ := hw
      refine as_29 C hP hS hv0 h3 dX8_empty_22 (fun M3 e3 H locs hP hS => ?_)
      have hw := hw M3 e3
      obtain ⟨x4, e4⟩ : ∃ y : Int32, y = (v1 + 1) := ⟨_, rfl⟩
      have hw := hw x4 e4
      refine lv_iinc (v := x4) (lv' := [(1, .int x4), (0, .ref (g.2.1 (47 + v0)))]) C.1 C.2.1 dX8_empty_23 hl (k := 1) rfl (by rw [e4]; rfl) (by decide) rfl (fun ls hl => ?_)
      refine lv_goto (tgt := 7) C.1 C.2.1 dX8_empty_26 (by decide) ?_
      exact ih v0 x4 hv0 _ hw (lv_sub hl [1, 0] rfl) hP hS
def p_X8_empty (a0 : Nat) (M : Mem) (Q : Mem → Prop) : Prop := (∀ M1 : Mem, M1 = sI M 27 a0 1 0 → (∃ n7 : Nat, b_X8_empty_7 Q n7 a0 0 M1))
set_option maxRecDepth 100000 in
set_option maxHeartbeats 4000000 in
theorem c_X8_empty (l : Launch) (g : Geo) (gi : GI g) (a0 : Nat) (ha0 : a0 < 13) (M : Mem) (Q : Mem → Prop) (hw : p_X8_empty a0 M Q) : Met l yX8_empty (Cond.code yX8_empty cX8_empty 2 none :: bg) ({ frames := 0, cells := 0, slots := 0, locals := 0 } : Room) (va_Pc [.ref (g.2.1 (47 + a0))] (PW g (xw g M))) (va_Qv Q (PB g (xw g)) (Af 0 g)) 0 0 (Af 0 g) := by
  refine Met.ofW (cc := cX8_empty) (maxL := 2) (ret := none) (by decide +kernel) rfl ?_
  intro p e s m args below meth c s₁ B hml hv
  obtain ⟨rfl, hv⟩ := hv
  have C := CX.start (own := RX8) B hml rfl gi hv
  have hP := hv.1
  have hS : va_S (Af 0 g) s.heap s.heap [] := va_S.rf
  have hl := lv_entry ([.ref (g.2.1 (47 + a0))]) (n := 2) (Nat.le_of_ble_eq_true rfl)
  rw [lg_entry_eq]
  generalize (lg_sl ([.ref (g.2.1 (47 + a0))]) ++ List.replicate (2 - (lg_sl ([.ref (g.2.1 (47 + a0))])).length) Slot.unset).toArray = ls at hl ⊢
  have hl : lv_has ls 2 [(0, .ref (g.2.1 (47 + a0)))] := hl
  unfold p_X8_empty at hw
  refine lv_aload_n C.1 C.2.1 dX8_empty_0 rfl (lv_at hl 0 rfl) ?_
  refine lv_iconst (v := 0) C.1 C.2.1 dX8_empty_1 (by decide) ?_
  refine pX8_25 C hP hS ha0 dX8_empty_2 (fun M1 e1 H locs hP hS => ?_)
  have hw := hw M1 e1
  refine lv_iconst (v := 0) C.1 C.2.1 dX8_empty_5 (by decide) ?_
  refine lv_istore_n (lv' := [(1, .int 0), (0, .ref (g.2.1 (47 + a0)))]) C.1 C.2.1 dX8_empty_6 rfl hl (by decide) rfl (fun ls hl => ?_)
  obtain ⟨n9, hw⟩ := hw
  exact k_X8_empty_7 (Q := Q) C n9 a0 0 ha0 _ hw (lv_sub hl [1, 0] rfl) hP hS
def b_X8_howManyLost_30 (Q : Int32 → Mem → Prop) (k4 : Nat → Int32 → Int32 → Mem → Prop) (v0 : Nat) (v2 : Int32) (s0 : Int32) (s1 : Int32) (M : Mem) : Prop := (∀ x5 : Int32, x5 = (s0 + s1) → (∀ x6 : Int32, x6 = (v2 + 1) → (k4 v0 x5 x6 M)))
set_option maxRecDepth 100000 in
set_option maxHeartbeats 4000000 in
theorem k_X8_howManyLost_30 {p : Program} {l : Launch} {e : Env} {s : State} {m : MethodId} {args : Array Value} {below : List Frame} {meth : Method} {c : Code} {g : Geo} (C : CX g p s m args meth c cX8_howManyLost 3 (some .int) RX8) {Q : Int32 → Mem → Prop} {k4 : Nat → Int32 → Int32 → Mem → Prop} (hk4 : ∀ (v0 : Nat) (v1 : Int32) (v2 : Int32) (hv0 : v0 < 13) (M : Mem), k4 v0 v1 v2 M → ∀ (H : Heap) (locs : List Loc) (ls : Array Slot), lv_has ls 3 [(0, .ref (g.2.1 (47 + v0))), (1, .int v1), (2, .int v2)] → va_P g.1 clz (xw g M) H → va_S (Af 0 g) s.heap H locs → W p l e ({ frames := 1, cells := 0, slots := 0, locals := 20 } : Room) s m args below meth c H locs 0 0 (MQ below (va_Qi Q (PB g (xw g)) (Af 0 g)) args s 0 0 (Af 0 g)) (F0 m 4 ls [])) (v0 : Nat) (v2 : Int32) (s0 : Int32) (s1 : Int32) (hv0 : v0 < 13) (M : Mem) (hw : b_X8_howManyLost_30 Q k4 v0 v2 s0 s1 M) {H : Heap} {locs : List Loc} {ls : Array Slot} (hl : lv_has ls 3 [(0, .ref (g.2.1 (47 + v0))), (2, .int v2)]) (hP : va_P g.1 clz (xw g M) H) (hS : va_S (Af 0 g) s.heap H locs) : W p l e ({ frames := 1, cells := 0, slots := 0, locals := 20 } : Room) s m args below meth c H locs 0 0 (MQ below (va_Qi Q (PB g (xw g)) (Af 0 g)) args s 0 0 (Af 0 g)) (F0 m 30 ls [.int s1, .int s0]) := by
  unfold b_X8_howManyLost_30 at hw
  refine lv_iadd C.1 C.2.1 dX8_howManyLost_30 ?_
  refine lv_topi (fun x5 e5 => ?_)
  have hw := hw x5 e5
  refine lv_istore_n (lv' := [(1, .int x5), (0, .ref (g.2.1 (47 + v0))), (2, .int v2)]) C.1 C.2.1 dX8_howManyLost_31 rfl hl (by decide) rfl (fun ls hl => ?_)
  obtain ⟨x6, e6⟩ : ∃ y : Int32, y = (v2 + 1) := ⟨_, rfl⟩
  have hw := hw x6 e6
  refine lv_iinc (v := x6) (lv' := [(2, .int x6), (1, .int x5), (0, .ref (g.2.1 (47 + v0)))]) C.1 C.2.1 dX8_howManyLost_32 hl (k := 2) rfl (by rw [e6]; rfl) (by decide) rfl (fun ls hl => ?_)
  refine lv_goto (tgt := 4) C.1 C.2.1 dX8_howManyLost_35 (by decide) ?_
  exact hk4 v0 x5 x6 hv0 _ hw _ _ _ (lv_sub hl [2, 1, 0] rfl) hP hS
def b_X8_howManyLost_4 (Q : Int32 → Mem → Prop) : Nat → Nat → Int32 → Int32 → Mem → Prop
  | 0, _, _, _, _ => False
  | n + 1, v0, v1, v2, M => (((M.1 27 v0 1) ≤ v2 → (Q v1 M)) ∧ (¬ (M.1 27 v0 1) ≤ v2 → (vp_in v2 4 ∧ (p_X1_isLost ((4 * v0 + (v2 : Int32).toNatClampNeg)) M (fun r3 M3 => ((r3 = 0 → (b_X8_howManyLost_30 Q (fun v0 v1 v2 M => b_X8_howManyLost_4 Q n v0 v1 v2 M) v0 v2 v1 0 M3)) ∧ (¬ r3 = 0 → (b_X8_howManyLost_30 Q (fun v0 v1 v2 M => b_X8_howManyLost_4 Q n v0 v1 v2 M) v0 v2 v1 1 M3))))))))
set_option maxRecDepth 100000 in
set_option maxHeartbeats 4000000 in
theorem k_X8_howManyLost_4 {p : Program} {l : Launch} {e : Env} {s : State} {m : MethodId} {args : Array Value} {below : List Frame} {meth : Method} {c : Code} {g : Geo} (C : CX g p s m args meth c cX8_howManyLost 3 (some .int) RX8) {Q : Int32 → Mem → Prop} : ∀ (n : Nat) (v0 : Nat) (v1 : Int32) (v2 : Int32) (hv0 : v0 < 13) (M : Mem) (hw : b_X8_howManyLost_4 Q n v0 v1 v2 M) {H : Heap} {locs : List Loc} {ls : Array Slot} (hl : lv_has ls 3 [(0, .ref (g.2.1 (47 + v0))), (1, .int v1), (2, .int v2)]) (hP : va_P g.1 clz (xw g M) H) (hS : va_S (Af 0 g) s.heap H locs), W p l e ({ frames := 1, cells := 0, slots := 0, locals := 20 } : Room) s m args below meth c H locs 0 0 (MQ below (va_Qi Q (PB g (xw g)) (Af 0 g)) args s 0 0 (Af 0 g)) (F0 m 4 ls []) := by
  intro n
  induction n with
  | zero => intro v0 v1 v2 hv0 M hw H locs ls hl hP hS; exact absurd hw (by rw [b_X8_howManyLost_4]; exact fun h => h)
  | succ n ih =>
    intro v0 v1 v2 hv0 M hw H locs ls hl hP hS
    rw [b_X8_howManyLost_4] at hw
    refine lv_iload_n C.1 C.2.1 dX8_howManyLost_4 rfl (lv_at hl 2 rfl) ?_
    refine lv_aload_n C.1 C.2.1 dX8_howManyLost_5 rfl (lv_at hl 0 rfl) ?_
    refine gX8_25 C hP hv0 dX8_howManyLost_6 ?_
    refine lv_icmp_ge (tgt := 38) C.1 C.2.1 dX8_howManyLost_9 (by decide) (fun h1 => ?_) (fun h1 => ?_)
    · have hw := hw.1 h1
      refine lv_iload_n C.1 C.2.1 dX8_howManyLost_38 rfl (lv_at hl 1 rfl) ?_
      exact retI (wf := (xw g)) C hP hS hw dX8_howManyLost_39
    · have hw := hw.2 h1
      refine lv_iload_n C.1 C.2.1 dX8_howManyLost_12 rfl (lv_at hl 1 rfl) ?_
      refine lv_aload_n C.1 C.2.1 dX8_howManyLost_13 rfl (lv_at hl 0 rfl) ?_
      refine gX8_11 C hP hv0 dX8_howManyLost_14 ?_
      refine lv_iload_n C.1 C.2.1 dX8_howManyLost_17 rfl (lv_at hl 2 rfl) ?_
      obtain ⟨h2, hw⟩ := hw
      have hb2 : (4 * v0 + (v2 : Int32).toNatClampNeg) < 52 := by have h9 := vp_lt h2; have h8 := hv0; omega
      refine al_28 C hP hv0 h2 dX8_howManyLost_18 ?_
      refine goI (wf := (xw g)) (runV (w := xw g M) (As := []) (rest := [.int v1]) C lkX8_33 (c_X1_isLost l g C.2.2.2.2.2.2.2.2.2.2 ((4 * v0 + (v2 : Int32).toNatClampNeg)) hb2 M _ hw) hP hS rfl rfl ⟨Nat.le_of_ble_eq_true rfl, Nat.le_of_ble_eq_true rfl⟩ (xx_30 hb2) rfl rfl hl.1 rfl (Nat.le_of_ble_eq_true rfl) dX8_howManyLost_19) hS (fun r3 M3 hw H locs hP hS => ?_)
      obtain ⟨hw, hz3⟩ := hw
      refine lv_if_eq (tgt := 29) C.1 C.2.1 dX8_howManyLost_22 (by decide) (fun h4 => ?_) (fun h4 => ?_)
      · have hw := hw.1 h4
        refine lv_iconst (v := 0) C.1 C.2.1 dX8_howManyLost_29 (by decide) ?_
        exact k_X8_howManyLost_30 (Q := Q) C (fun v0 v1 v2 hv0 M hw H locs ls hl hP hS => ih v0 v1 v2 hv0 M hw hl hP hS) v0 v2 v1 0 hv0 _ hw (lv_sub hl [0, 2] rfl) hP hS
      · have hw := hw.2 h4
        refine lv_iconst (v := 1) C.1 C.2.1 dX8_howManyLost_25 (by decide) ?_
        refine lv_goto (tgt := 30) C.1 C.2.1 dX8_howManyLost_26 (by decide) ?_
        exact k_X8_howManyLost_30 (Q := Q) C (fun v0 v1 v2 hv0 M hw H locs ls hl hP hS => ih v0 v1 v2 hv0 M hw hl hP hS) v0 v2 v1 1 hv0 _ hw (lv_sub hl [0, 2] rfl) hP hS
def p_X8_howManyLost (a0 : Nat) (M : Mem) (Q : Int32 → Mem → Prop) : Prop := (∃ n4 : Nat, b_X8_howManyLost_4 Q n4 a0 0 0 M)
set_option maxRecDepth 100000 in
set_option maxHeartbeats 4000000 in
theorem c_X8_howManyLost (l : Launch) (g : Geo) (gi : GI g) (a0 : Nat) (ha0 : a0 < 13) (M : Mem) (Q : Int32 → Mem → Prop) (hw : p_X8_howManyLost a0 M Q) : Met l yX8_howManyLost (Cond.code yX8_howManyLost cX8_howManyLost 3 (some .int) :: bg) ({ frames := 1, cells := 0, slots := 0, locals := 20 } : Room) (va_Pc [.ref (g.2.1 (47 + a0))] (PW g (xw g M))) (va_Qi Q (PB g (xw g)) (Af 0 g)) 0 0 (Af 0 g) := by
  refine Met.ofW (cc := cX8_howManyLost) (maxL := 3) (ret := (some .int)) (by decide +kernel) rfl ?_
  intro p e s m args below meth c s₁ B hml hv
  obtain ⟨rfl, hv⟩ := hv
  have C := CX.start (own := RX8) B hml rfl gi hv
  have hP := hv.1
  have hS : va_S (Af 0 g) s.heap s.heap [] := va_S.rf
  have hl := lv_entry ([.ref (g.2.1 (47 + a0))]) (n := 3) (Nat.le_of_ble_eq_true rfl)
  rw [lg_entry_eq]
  generalize (lg_sl ([.ref (g.2.1 (47 + a0))]) ++ List.replicate (3 - (lg_sl ([.ref (g.2.1 (47 + a0))])).length) Slot.unset).toArray = ls at hl ⊢
  have hl : lv_has ls 3 [(0, .ref (g.2.1 (47 + a0)))] := hl
  unfold p_X8_howManyLost at hw
  refine lv_iconst (v := 0) C.1 C.2.1 dX8_howManyLost_0 (by decide) ?_
  refine lv_istore_n (lv' := [(1, .int 0), (0, .ref (g.2.1 (47 + a0)))]) C.1 C.2.1 dX8_howManyLost_1 rfl hl (by decide) rfl (fun ls hl => ?_)
  refine lv_iconst (v := 0) C.1 C.2.1 dX8_howManyLost_2 (by decide) ?_
  refine lv_istore_n (lv' := [(2, .int 0), (1, .int 0), (0, .ref (g.2.1 (47 + a0)))]) C.1 C.2.1 dX8_howManyLost_3 rfl hl (by decide) rfl (fun ls hl => ?_)
  obtain ⟨n9, hw⟩ := hw
  exact k_X8_howManyLost_4 (Q := Q) C n9 a0 0 0 ha0 _ hw (lv_sub hl [2, 1, 0] rfl) hP hS
def b_X8_howManyRanges_29 (Q : Int32 → Mem → Prop) (k4 : Nat → Int32 → Int32 → Mem → Prop) (v0 : Nat) (v2 : Int32) (s0 : Int32) (s1 : Int32) (M : Mem) : Prop := (∀ x4 : Int32, x4 = (s0 + s1) → (∀ x5 : Int32, x5 = (v2 + 1) → (k4 v0 x4 x5 M)))
set_option maxRecDepth 100000 in
set_option maxHeartbeats 4000000 in
theorem k_X8_howManyRanges_29 {p : Program} {l : Launch} {e : Env} {s : State} {m : MethodId} {args : Array Value} {below : List Frame} {meth : Method} {c : Code} {g : Geo} (C : CX g p s m args meth c cX8_howManyRanges 3 (some .int) RX8) {Q : Int32 → Mem → Prop} {k4 : Nat → Int32 → Int32 → Mem → Prop} (hk4 : ∀ (v0 : Nat) (v1 : Int32) (v2 : Int32) (hv0 : v0 < 13) (M : Mem), k4 v0 v1 v2 M → ∀ (H : Heap) (locs : List Loc) (ls : Array Slot), lv_has ls 3 [(0, .ref (g.2.1 (47 + v0))), (1, .int v1), (2, .int v2)] → va_P g.1 clz (xw g M) H → va_S (Af 0 g) s.heap H locs → W p l e ({ frames := 0, cells := 0, slots := 0, locals := 0 } : Room) s m args below meth c H locs 0 0 (MQ below (va_Qi Q (PB g (xw g)) (Af 0 g)) args s 0 0 (Af 0 g)) (F0 m 4 ls [])) (v0 : Nat) (v2 : Int32) (s0 : Int32) (s1 : Int32) (hv0 : v0 < 13) (M : Mem) (hw : b_X8_howManyRanges_29 Q k4 v0 v2 s0 s1 M) {H : Heap} {locs : List Loc} {ls : Array Slot} (hl : lv_has ls 3 [(0, .ref (g.2.1 (47 + v0))), (2, .int v2)]) (hP : va_P g.1 clz (xw g M) H) (hS : va_S (Af 0 g) s.heap H locs) : W p l e ({ frames := 0, cells := 0, slots := 0, locals := 0 } : Room) s m args below meth c H locs 0 0 (MQ below (va_Qi Q (PB g (xw g)) (Af 0 g)) args s 0 0 (Af 0 g)) (F0 m 29 ls [.int s1, .int s0]) := by
  unfold b_X8_howManyRanges_29 at hw
  refine lv_iadd C.1 C.2.1 dX8_howManyRanges_29 ?_
  refine lv_topi (fun x4 e4 => ?_)
  have hw := hw x4 e4
  refine lv_istore_n (lv' := [(1, .int x4), (0, .ref (g.2.1 (47 + v0))), (2, .int v2)]) C.1 C.2.1 dX8_howManyRanges_30 rfl hl (by decide) rfl (fun ls hl => ?_)
  obtain ⟨x5, e5⟩ : ∃ y : Int32, y = (v2 + 1) := ⟨_, rfl⟩
  have hw := hw x5 e5
  refine lv_iinc (v := x5) (lv' := [(2, .int x5), (1, .int x4), (0, .ref (g.2.1 (47 + v0)))]) C.1 C.2.1 dX8_howManyRanges_31 hl (k := 2) rfl (by rw [e5]; rfl) (by decide) rfl (fun ls hl => ?_)
  refine lv_goto (tgt := 4) C.1 C.2.1 dX8_howManyRanges_34 (by decide) ?_
  exact hk4 v0 x4 x5 hv0 _ hw _ _ _ (lv_sub hl [2, 1, 0] rfl) hP hS
def b_X8_howManyRanges_4 (Q : Int32 → Mem → Prop) : Nat → Nat → Int32 → Int32 → Mem → Prop
  | 0, _, _, _, _ => False
  | n + 1, v0, v1, v2, M => ((5 ≤ v2 → (Q v1 M)) ∧ (¬ 5 ≤ v2 → (vp_in v2 5 ∧ (((M.1 29 v0 (v2 : Int32).toNatClampNeg) = (-1) → (b_X8_howManyRanges_29 Q (fun v0 v1 v2 M => b_X8_howManyRanges_4 Q n v0 v1 v2 M) v0 v2 v1 0 M)) ∧ (¬ (M.1 29 v0 (v2 : Int32).toNatClampNeg) = (-1) → (b_X8_howManyRanges_29 Q (fun v0 v1 v2 M => b_X8_howManyRanges_4 Q n v0 v1 v2 M) v0 v2 v1 1 M))))))
set_option maxRecDepth 100000 in
set_option maxHeartbeats 4000000 in
theorem k_X8_howManyRanges_4 {p : Program} {l : Launch} {e : Env} {s : State} {m : MethodId} {args : Array Value} {below : List Frame} {meth : Method} {c : Code} {g : Geo} (C : CX g p s m args meth c cX8_howManyRanges 3 (some .int) RX8) {Q : Int32 → Mem → Prop} : ∀ (n : Nat) (v0 : Nat) (v1 : Int32) (v2 : Int32) (hv0 : v0 < 13) (M : Mem) (hw : b_X8_howManyRanges_4 Q n v0 v1 v2 M) {H : Heap} {locs : List Loc} {ls : Array Slot} (hl : lv_has ls 3 [(0, .ref (g.2.1 (47 + v0))), (1, .int v1), (2, .int v2)]) (hP : va_P g.1 clz (xw g M) H) (hS : va_S (Af 0 g) s.heap H locs), W p l e ({ frames := 0, cells := 0, slots := 0, locals := 0 } : Room) s m args below meth c H locs 0 0 (MQ below (va_Qi Q (PB g (xw g)) (Af 0 g)) args s 0 0 (Af 0 g)) (F0 m 4 ls []) := by
  intro n
  induction n with
  | zero => intro v0 v1 v2 hv0 M hw H locs ls hl hP hS; exact absurd hw (by rw [b_X8_howManyRanges_4]; exact fun h => h)
  | succ n ih =>
    intro v0 v1 v2 hv0 M hw H locs ls hl hP hS
    rw [b_X8_howManyRanges_4] at hw
    refine lv_iload_n C.1 C.2.1 dX8_howManyRanges_4 rfl (lv_at hl 2 rfl) ?_
    refine lv_aload_n C.1 C.2.1 dX8_howManyRanges_5 rfl (lv_at hl 0 rfl) ?_
    refine gX8_17 C hP hv0 dX8_howManyRanges_6 ?_
    refine an_29 C hP hv0 dX8_howManyRanges_9 ?_
    refine lv_icmp_ge (tgt := 37) C.1 C.2.1 dX8_howManyRanges_10 (by decide) (fun h1 => ?_) (fun h1 => ?_)
    · have hw := hw.1 h1
      refine lv_iload_n C.1 C.2.1 dX8_howManyRanges_37 rfl (lv_at hl 1 rfl) ?_
      exact retI (wf := (xw g)) C hP hS hw dX8_howManyRanges_38
    · have hw := hw.2 h1
      refine lv_iload_n C.1 C.2.1 dX8_howManyRanges_13 rfl (lv_at hl 1 rfl) ?_
      refine lv_aload_n C.1 C.2.1 dX8_howManyRanges_14 rfl (lv_at hl 0 rfl) ?_
      refine gX8_17 C hP hv0 dX8_howManyRanges_15 ?_
      refine lv_iload_n C.1 C.2.1 dX8_howManyRanges_18 rfl (lv_at hl 2 rfl) ?_
      obtain ⟨h2, hw⟩ := hw
      refine al_29 C hP hv0 h2 dX8_howManyRanges_19 ?_
      refine lv_iconst (v := (-1)) C.1 C.2.1 dX8_howManyRanges_20 (by decide) ?_
      refine lv_icmp_eq (tgt := 28) C.1 C.2.1 dX8_howManyRanges_21 (by decide) (fun h3 => ?_) (fun h3 => ?_)
      · have hw := hw.1 h3
        refine lv_iconst (v := 0) C.1 C.2.1 dX8_howManyRanges_28 (by decide) ?_
        exact k_X8_howManyRanges_29 (Q := Q) C (fun v0 v1 v2 hv0 M hw H locs ls hl hP hS => ih v0 v1 v2 hv0 M hw hl hP hS) v0 v2 v1 0 hv0 _ hw (lv_sub hl [0, 2] rfl) hP hS
      · have hw := hw.2 h3
        refine lv_iconst (v := 1) C.1 C.2.1 dX8_howManyRanges_24 (by decide) ?_
        refine lv_goto (tgt := 29) C.1 C.2.1 dX8_howManyRanges_25 (by decide) ?_
        exact k_X8_howManyRanges_29 (Q := Q) C (fun v0 v1 v2 hv0 M hw H locs ls hl hP hS => ih v0 v1 v2 hv0 M hw hl hP hS) v0 v2 v1 1 hv0 _ hw (lv_sub hl [0, 2] rfl) hP hS
def p_X8_howManyRanges (a0 : Nat) (M : Mem) (Q : Int32 → Mem → Prop) : Prop := (∃ n4 : Nat, b_X8_howManyRanges_4 Q n4 a0 0 0 M)
set_option maxRecDepth 100000 in
set_option maxHeartbeats 4000000 in
theorem c_X8_howManyRanges (l : Launch) (g : Geo) (gi : GI g) (a0 : Nat) (ha0 : a0 < 13) (M : Mem) (Q : Int32 → Mem → Prop) (hw : p_X8_howManyRanges a0 M Q) : Met l yX8_howManyRanges (Cond.code yX8_howManyRanges cX8_howManyRanges 3 (some .int) :: bg) ({ frames := 0, cells := 0, slots := 0, locals := 0 } : Room) (va_Pc [.ref (g.2.1 (47 + a0))] (PW g (xw g M))) (va_Qi Q (PB g (xw g)) (Af 0 g)) 0 0 (Af 0 g) := by
  refine Met.ofW (cc := cX8_howManyRanges) (maxL := 3) (ret := (some .int)) (by decide +kernel) rfl ?_
  intro p e s m args below meth c s₁ B hml hv
  obtain ⟨rfl, hv⟩ := hv
  have C := CX.start (own := RX8) B hml rfl gi hv
  have hP := hv.1
  have hS : va_S (Af 0 g) s.heap s.heap [] := va_S.rf
  have hl := lv_entry ([.ref (g.2.1 (47 + a0))]) (n := 3) (Nat.le_of_ble_eq_true rfl)
  rw [lg_entry_eq]
  generalize (lg_sl ([.ref (g.2.1 (47 + a0))]) ++ List.replicate (3 - (lg_sl ([.ref (g.2.1 (47 + a0))])).length) Slot.unset).toArray = ls at hl ⊢
  have hl : lv_has ls 3 [(0, .ref (g.2.1 (47 + a0)))] := hl
  unfold p_X8_howManyRanges at hw
  refine lv_iconst (v := 0) C.1 C.2.1 dX8_howManyRanges_0 (by decide) ?_
  refine lv_istore_n (lv' := [(1, .int 0), (0, .ref (g.2.1 (47 + a0)))]) C.1 C.2.1 dX8_howManyRanges_1 rfl hl (by decide) rfl (fun ls hl => ?_)
  refine lv_iconst (v := 0) C.1 C.2.1 dX8_howManyRanges_2 (by decide) ?_
  refine lv_istore_n (lv' := [(2, .int 0), (1, .int 0), (0, .ref (g.2.1 (47 + a0)))]) C.1 C.2.1 dX8_howManyRanges_3 rfl hl (by decide) rfl (fun ls hl => ?_)
  obtain ⟨n9, hw⟩ := hw
  exact k_X8_howManyRanges_4 (Q := Q) C n9 a0 0 0 ha0 _ hw (lv_sub hl [2, 1, 0] rfl) hP hS
def p_X9_codeOfBird (a0 : Nat) (a1 : Int32) (M : Mem) (Q : Int32 → Mem → Prop) : Prop := ((a1 < 0 → (Q 0 M)) ∧ (¬ a1 < 0 → (((M.1 23 a0 1) ≤ a1 → (Q 0 M)) ∧ (¬ (M.1 23 a0 1) ≤ a1 → (vp_in a1 5 ∧ (Q (M.1 25 (5 * a0 + (a1 : Int32).toNatClampNeg) 2) M))))))
set_option maxRecDepth 100000 in
set_option maxHeartbeats 4000000 in
theorem c_X9_codeOfBird (l : Launch) (g : Geo) (gi : GI g) (a0 : Nat) (a1 : Int32) (ha0 : a0 < 2) (M : Mem) (Q : Int32 → Mem → Prop) (hw : p_X9_codeOfBird a0 a1 M Q) : Met l yX9_codeOfBird (Cond.code yX9_codeOfBird cX9_codeOfBird 2 (some .int) :: bg) ({ frames := 0, cells := 0, slots := 0, locals := 0 } : Room) (va_Pc [.ref (g.2.1 (23 + a0)), .int a1] (PW g (xw g M))) (va_Qi Q (PB g (xw g)) (Af 0 g)) 0 0 (Af 0 g) := by
  refine Met.ofW (cc := cX9_codeOfBird) (maxL := 2) (ret := (some .int)) (by decide +kernel) rfl ?_
  intro p e s m args below meth c s₁ B hml hv
  obtain ⟨rfl, hv⟩ := hv
  have C := CX.start (own := RX9) B hml rfl gi hv
  have hP := hv.1
  have hS : va_S (Af 0 g) s.heap s.heap [] := va_S.rf
  have hl := lv_entry ([.ref (g.2.1 (23 + a0)), .int a1]) (n := 2) (Nat.le_of_ble_eq_true rfl)
  rw [lg_entry_eq]
  generalize (lg_sl ([.ref (g.2.1 (23 + a0)), .int a1]) ++ List.replicate (2 - (lg_sl ([.ref (g.2.1 (23 + a0)), .int a1])).length) Slot.unset).toArray = ls at hl ⊢
  have hl : lv_has ls 2 [(0, .ref (g.2.1 (23 + a0))), (1, .int a1)] := hl
  unfold p_X9_codeOfBird at hw
  refine lv_iload_n C.1 C.2.1 dX9_codeOfBird_0 rfl (lv_at hl 1 rfl) ?_
  refine lv_if_lt (tgt := 24) C.1 C.2.1 dX9_codeOfBird_1 (by decide) (fun h1 => ?_) (fun h1 => ?_)
  · have hw := hw.1 h1
    refine lv_iconst (v := 0) C.1 C.2.1 dX9_codeOfBird_24 (by decide) ?_
    exact retI (wf := (xw g)) C hP hS hw dX9_codeOfBird_25
  · have hw := hw.2 h1
    refine lv_iload_n C.1 C.2.1 dX9_codeOfBird_4 rfl (lv_at hl 1 rfl) ?_
    refine lv_aload_n C.1 C.2.1 dX9_codeOfBird_5 rfl (lv_at hl 0 rfl) ?_
    refine gX9_24 C hP ha0 dX9_codeOfBird_6 ?_
    refine lv_icmp_ge (tgt := 24) C.1 C.2.1 dX9_codeOfBird_9 (by decide) (fun h2 => ?_) (fun h2 => ?_)
    · have hw := hw.1 h2
      refine lv_iconst (v := 0) C.1 C.2.1 dX9_codeOfBird_24 (by decide) ?_
      exact retI (wf := (xw g)) C hP hS hw dX9_codeOfBird_25
    · have hw := hw.2 h2
      refine lv_aload_n C.1 C.2.1 dX9_codeOfBird_12 rfl (lv_at hl 0 rfl) ?_
      refine gX9_11 C hP ha0 dX9_codeOfBird_13 ?_
      refine lv_iload_n C.1 C.2.1 dX9_codeOfBird_16 rfl (lv_at hl 1 rfl) ?_
      obtain ⟨h3, hw⟩ := hw
      have hb3 : (5 * a0 + (a1 : Int32).toNatClampNeg) < 10 := by have h9 := vp_lt h3; have h8 := ha0; omega
      refine al_24 C hP ha0 h3 dX9_codeOfBird_17 ?_
      refine gX9_69 C hP hb3 dX9_codeOfBird_18 ?_
      refine lv_goto (tgt := 25) C.1 C.2.1 dX9_codeOfBird_21 (by decide) ?_
      exact retI (wf := (xw g)) C hP hS hw dX9_codeOfBird_25
def b_X9_howManyHeard_30 (Q : Int32 → Mem → Prop) (k4 : Nat → Int32 → Int32 → Mem → Prop) (v0 : Nat) (v2 : Int32) (s0 : Int32) (s1 : Int32) (M : Mem) : Prop := (∀ x5 : Int32, x5 = (s0 + s1) → (∀ x6 : Int32, x6 = (v2 + 1) → (k4 v0 x5 x6 M)))
set_option maxRecDepth 100000 in
set_option maxHeartbeats 4000000 in
theorem k_X9_howManyHeard_30 {p : Program} {l : Launch} {e : Env} {s : State} {m : MethodId} {args : Array Value} {below : List Frame} {meth : Method} {c : Code} {g : Geo} (C : CX g p s m args meth c cX9_howManyHeard 3 (some .int) RX9) {Q : Int32 → Mem → Prop} {k4 : Nat → Int32 → Int32 → Mem → Prop} (hk4 : ∀ (v0 : Nat) (v1 : Int32) (v2 : Int32) (hv0 : v0 < 2) (M : Mem), k4 v0 v1 v2 M → ∀ (H : Heap) (locs : List Loc) (ls : Array Slot), lv_has ls 3 [(0, .ref (g.2.1 (23 + v0))), (1, .int v1), (2, .int v2)] → va_P g.1 clz (xw g M) H → va_S (Af 0 g) s.heap H locs → W p l e ({ frames := 1, cells := 0, slots := 0, locals := 20 } : Room) s m args below meth c H locs 0 0 (MQ below (va_Qi Q (PB g (xw g)) (Af 0 g)) args s 0 0 (Af 0 g)) (F0 m 4 ls [])) (v0 : Nat) (v2 : Int32) (s0 : Int32) (s1 : Int32) (hv0 : v0 < 2) (M : Mem) (hw : b_X9_howManyHeard_30 Q k4 v0 v2 s0 s1 M) {H : Heap} {locs : List Loc} {ls : Array Slot} (hl : lv_has ls 3 [(0, .ref (g.2.1 (23 + v0))), (2, .int v2)]) (hP : va_P g.1 clz (xw g M) H) (hS : va_S (Af 0 g) s.heap H locs) : W p l e ({ frames := 1, cells := 0, slots := 0, locals := 20 } : Room) s m args below meth c H locs 0 0 (MQ below (va_Qi Q (PB g (xw g)) (Af 0 g)) args s 0 0 (Af 0 g)) (F0 m 30 ls [.int s1, .int s0]) := by
  unfold b_X9_howManyHeard_30 at hw
  refine lv_iadd C.1 C.2.1 dX9_howManyHeard_30 ?_
  refine lv_topi (fun x5 e5 => ?_)
  have hw := hw x5 e5
  refine lv_istore_n (lv' := [(1, .int x5), (0, .ref (g.2.1 (23 + v0))), (2, .int v2)]) C.1 C.2.1 dX9_howManyHeard_31 rfl hl (by decide) rfl (fun ls hl => ?_)
  obtain ⟨x6, e6⟩ : ∃ y : Int32, y = (v2 + 1) := ⟨_, rfl⟩
  have hw := hw x6 e6
  refine lv_iinc (v := x6) (lv' := [(2, .int x6), (1, .int x5), (0, .ref (g.2.1 (23 + v0)))]) C.1 C.2.1 dX9_howManyHeard_32 hl (k := 2) rfl (by rw [e6]; rfl) (by decide) rfl (fun ls hl => ?_)
  refine lv_goto (tgt := 4) C.1 C.2.1 dX9_howManyHeard_35 (by decide) ?_
  exact hk4 v0 x5 x6 hv0 _ hw _ _ _ (lv_sub hl [2, 1, 0] rfl) hP hS
def b_X9_howManyHeard_4 (Q : Int32 → Mem → Prop) : Nat → Nat → Int32 → Int32 → Mem → Prop
  | 0, _, _, _, _ => False
  | n + 1, v0, v1, v2, M => (((M.1 23 v0 1) ≤ v2 → (Q v1 M)) ∧ (¬ (M.1 23 v0 1) ≤ v2 → (vp_in v2 5 ∧ (p_X0_isHeard ((5 * v0 + (v2 : Int32).toNatClampNeg)) M (fun r3 M3 => ((r3 = 0 → (b_X9_howManyHeard_30 Q (fun v0 v1 v2 M => b_X9_howManyHeard_4 Q n v0 v1 v2 M) v0 v2 v1 0 M3)) ∧ (¬ r3 = 0 → (b_X9_howManyHeard_30 Q (fun v0 v1 v2 M => b_X9_howManyHeard_4 Q n v0 v1 v2 M) v0 v2 v1 1 M3))))))))
set_option maxRecDepth 100000 in
set_option maxHeartbeats 4000000 in
theorem k_X9_howManyHeard_4 {p : Program} {l : Launch} {e : Env} {s : State} {m : MethodId} {args : Array Value} {below : List Frame} {meth : Method} {c : Code} {g : Geo} (C : CX g p s m args meth c cX9_howManyHeard 3 (some .int) RX9) {Q : Int32 → Mem → Prop} : ∀ (n : Nat) (v0 : Nat) (v1 : Int32) (v2 : Int32) (hv0 : v0 < 2) (M : Mem) (hw : b_X9_howManyHeard_4 Q n v0 v1 v2 M) {H : Heap} {locs : List Loc} {ls : Array Slot} (hl : lv_has ls 3 [(0, .ref (g.2.1 (23 + v0))), (1, .int v1), (2, .int v2)]) (hP : va_P g.1 clz (xw g M) H) (hS : va_S (Af 0 g) s.heap H locs), W p l e ({ frames := 1, cells := 0, slots := 0, locals := 20 } : Room) s m args below meth c H locs 0 0 (MQ below (va_Qi Q (PB g (xw g)) (Af 0 g)) args s 0 0 (Af 0 g)) (F0 m 4 ls []) := by
  intro n
  induction n with
  | zero => intro v0 v1 v2 hv0 M hw H locs ls hl hP hS; exact absurd hw (by rw [b_X9_howManyHeard_4]; exact fun h => h)
  | succ n ih =>
    intro v0 v1 v2 hv0 M hw H locs ls hl hP hS
    rw [b_X9_howManyHeard_4] at hw
    refine lv_iload_n C.1 C.2.1 dX9_howManyHeard_4 rfl (lv_at hl 2 rfl) ?_
    refine lv_aload_n C.1 C.2.1 dX9_howManyHeard_5 rfl (lv_at hl 0 rfl) ?_
    refine gX9_24 C hP hv0 dX9_howManyHeard_6 ?_
    refine lv_icmp_ge (tgt := 38) C.1 C.2.1 dX9_howManyHeard_9 (by decide) (fun h1 => ?_) (fun h1 => ?_)
    · have hw := hw.1 h1
      refine lv_iload_n C.1 C.2.1 dX9_howManyHeard_38 rfl (lv_at hl 1 rfl) ?_
      exact retI (wf := (xw g)) C hP hS hw dX9_howManyHeard_39
    · have hw := hw.2 h1
      refine lv_iload_n C.1 C.2.1 dX9_howManyHeard_12 rfl (lv_at hl 1 rfl) ?_
      refine lv_aload_n C.1 C.2.1 dX9_howManyHeard_13 rfl (lv_at hl 0 rfl) ?_
      refine gX9_11 C hP hv0 dX9_howManyHeard_14 ?_
      refine lv_iload_n C.1 C.2.1 dX9_howManyHeard_17 rfl (lv_at hl 2 rfl) ?_
      obtain ⟨h2, hw⟩ := hw
      have hb2 : (5 * v0 + (v2 : Int32).toNatClampNeg) < 10 := by have h9 := vp_lt h2; have h8 := hv0; omega
      refine al_24 C hP hv0 h2 dX9_howManyHeard_18 ?_
      refine goI (wf := (xw g)) (runV (w := xw g M) (As := []) (rest := [.int v1]) C lkX9_83 (c_X0_isHeard l g C.2.2.2.2.2.2.2.2.2.2 ((5 * v0 + (v2 : Int32).toNatClampNeg)) hb2 M _ hw) hP hS rfl rfl ⟨Nat.le_of_ble_eq_true rfl, Nat.le_of_ble_eq_true rfl⟩ (xx_25 hb2) rfl rfl hl.1 rfl (Nat.le_of_ble_eq_true rfl) dX9_howManyHeard_19) hS (fun r3 M3 hw H locs hP hS => ?_)
      obtain ⟨hw, hz3⟩ := hw
      refine lv_if_eq (tgt := 29) C.1 C.2.1 dX9_howManyHeard_22 (by decide) (fun h4 => ?_) (fun h4 => ?_)
      · have hw := hw.1 h4
        refine lv_iconst (v := 0) C.1 C.2.1 dX9_howManyHeard_29 (by decide) ?_
        exact k_X9_howManyHeard_30 (Q := Q) C (fun v0 v1 v2 hv0 M hw H locs ls hl hP hS => ih v0 v1 v2 hv0 M hw hl hP hS) v0 v2 v1 0 hv0 _ hw (lv_sub hl [0, 2] rfl) hP hS
      · have hw := hw.2 h4
        refine lv_iconst (v := 1) C.1 C.2.1 dX9_howManyHeard_25 (by decide) ?_
        refine lv_goto (tgt := 30) C.1 C.2.1 dX9_howManyHeard_26 (by decide) ?_
        exact k_X9_howManyHeard_30 (Q := Q) C (fun v0 v1 v2 hv0 M hw H locs ls hl hP hS => ih v0 v1 v2 hv0 M hw hl hP hS) v0 v2 v1 1 hv0 _ hw (lv_sub hl [0, 2] rfl) hP hS
def p_X9_howManyHeard (a0 : Nat) (M : Mem) (Q : Int32 → Mem → Prop) : Prop := (∃ n4 : Nat, b_X9_howManyHeard_4 Q n4 a0 0 0 M)
set_option maxRecDepth 100000 in
set_option maxHeartbeats 4000000 in
theorem c_X9_howManyHeard (l : Launch) (g : Geo) (gi : GI g) (a0 : Nat) (ha0 : a0 < 2) (M : Mem) (Q : Int32 → Mem → Prop) (hw : p_X9_howManyHeard a0 M Q) : Met l yX9_howManyHeard (Cond.code yX9_howManyHeard cX9_howManyHeard 3 (some .int) :: bg) ({ frames := 1, cells := 0, slots := 0, locals := 20 } : Room) (va_Pc [.ref (g.2.1 (23 + a0))] (PW g (xw g M))) (va_Qi Q (PB g (xw g)) (Af 0 g)) 0 0 (Af 0 g) := by
  refine Met.ofW (cc := cX9_howManyHeard) (maxL := 3) (ret := (some .int)) (by decide +kernel) rfl ?_
  intro p e s m args below meth c s₁ B hml hv
  obtain ⟨rfl, hv⟩ := hv
  have C := CX.start (own := RX9) B hml rfl gi hv
  have hP := hv.1
  have hS : va_S (Af 0 g) s.heap s.heap [] := va_S.rf
  have hl := lv_entry ([.ref (g.2.1 (23 + a0))]) (n := 3) (Nat.le_of_ble_eq_true rfl)
  rw [lg_entry_eq]
  generalize (lg_sl ([.ref (g.2.1 (23 + a0))]) ++ List.replicate (3 - (lg_sl ([.ref (g.2.1 (23 + a0))])).length) Slot.unset).toArray = ls at hl ⊢
  have hl : lv_has ls 3 [(0, .ref (g.2.1 (23 + a0)))] := hl
  unfold p_X9_howManyHeard at hw
  refine lv_iconst (v := 0) C.1 C.2.1 dX9_howManyHeard_0 (by decide) ?_
  refine lv_istore_n (lv' := [(1, .int 0), (0, .ref (g.2.1 (23 + a0)))]) C.1 C.2.1 dX9_howManyHeard_1 rfl hl (by decide) rfl (fun ls hl => ?_)
  refine lv_iconst (v := 0) C.1 C.2.1 dX9_howManyHeard_2 (by decide) ?_
  refine lv_istore_n (lv' := [(2, .int 0), (1, .int 0), (0, .ref (g.2.1 (23 + a0)))]) C.1 C.2.1 dX9_howManyHeard_3 rfl hl (by decide) rfl (fun ls hl => ?_)
  obtain ⟨n9, hw⟩ := hw
  exact k_X9_howManyHeard_4 (Q := Q) C n9 a0 0 0 ha0 _ hw (lv_sub hl [2, 1, 0] rfl) hP hS
def b_X9_howManyPlaced_30 (Q : Int32 → Mem → Prop) (k4 : Nat → Int32 → Int32 → Mem → Prop) (v0 : Nat) (v2 : Int32) (s0 : Int32) (s1 : Int32) (M : Mem) : Prop := (∀ x4 : Int32, x4 = (s0 + s1) → (∀ x5 : Int32, x5 = (v2 + 1) → (k4 v0 x4 x5 M)))
set_option maxRecDepth 100000 in
set_option maxHeartbeats 4000000 in
theorem k_X9_howManyPlaced_30 {p : Program} {l : Launch} {e : Env} {s : State} {m : MethodId} {args : Array Value} {below : List Frame} {meth : Method} {c : Code} {g : Geo} (C : CX g p s m args meth c cX9_howManyPlaced 3 (some .int) RX9) {Q : Int32 → Mem → Prop} {k4 : Nat → Int32 → Int32 → Mem → Prop} (hk4 : ∀ (v0 : Nat) (v1 : Int32) (v2 : Int32) (hv0 : v0 < 2) (M : Mem), k4 v0 v1 v2 M → ∀ (H : Heap) (locs : List Loc) (ls : Array Slot), lv_has ls 3 [(0, .ref (g.2.1 (23 + v0))), (1, .int v1), (2, .int v2)] → va_P g.1 clz (xw g M) H → va_S (Af 0 g) s.heap H locs → W p l e ({ frames := 0, cells := 0, slots := 0, locals := 0 } : Room) s m args below meth c H locs 0 0 (MQ below (va_Qi Q (PB g (xw g)) (Af 0 g)) args s 0 0 (Af 0 g)) (F0 m 4 ls [])) (v0 : Nat) (v2 : Int32) (s0 : Int32) (s1 : Int32) (hv0 : v0 < 2) (M : Mem) (hw : b_X9_howManyPlaced_30 Q k4 v0 v2 s0 s1 M) {H : Heap} {locs : List Loc} {ls : Array Slot} (hl : lv_has ls 3 [(0, .ref (g.2.1 (23 + v0))), (2, .int v2)]) (hP : va_P g.1 clz (xw g M) H) (hS : va_S (Af 0 g) s.heap H locs) : W p l e ({ frames := 0, cells := 0, slots := 0, locals := 0 } : Room) s m args below meth c H locs 0 0 (MQ below (va_Qi Q (PB g (xw g)) (Af 0 g)) args s 0 0 (Af 0 g)) (F0 m 30 ls [.int s1, .int s0]) := by
  unfold b_X9_howManyPlaced_30 at hw
  refine lv_iadd C.1 C.2.1 dX9_howManyPlaced_30 ?_
  refine lv_topi (fun x4 e4 => ?_)
  have hw := hw x4 e4
  refine lv_istore_n (lv' := [(1, .int x4), (0, .ref (g.2.1 (23 + v0))), (2, .int v2)]) C.1 C.2.1 dX9_howManyPlaced_31 rfl hl (by decide) rfl (fun ls hl => ?_)
  obtain ⟨x5, e5⟩ : ∃ y : Int32, y = (v2 + 1) := ⟨_, rfl⟩
  have hw := hw x5 e5
  refine lv_iinc (v := x5) (lv' := [(2, .int x5), (1, .int x4), (0, .ref (g.2.1 (23 + v0)))]) C.1 C.2.1 dX9_howManyPlaced_32 hl (k := 2) rfl (by rw [e5]; rfl) (by decide) rfl (fun ls hl => ?_)
  refine lv_goto (tgt := 4) C.1 C.2.1 dX9_howManyPlaced_35 (by decide) ?_
  exact hk4 v0 x4 x5 hv0 _ hw _ _ _ (lv_sub hl [2, 1, 0] rfl) hP hS
def b_X9_howManyPlaced_4 (Q : Int32 → Mem → Prop) : Nat → Nat → Int32 → Int32 → Mem → Prop
  | 0, _, _, _, _ => False
  | n + 1, v0, v1, v2, M => (((M.1 23 v0 1) ≤ v2 → (Q v1 M)) ∧ (¬ (M.1 23 v0 1) ≤ v2 → (vp_in v2 5 ∧ (((M.1 25 (5 * v0 + (v2 : Int32).toNatClampNeg) 9) = 0 → (b_X9_howManyPlaced_30 Q (fun v0 v1 v2 M => b_X9_howManyPlaced_4 Q n v0 v1 v2 M) v0 v2 v1 0 M)) ∧ (¬ (M.1 25 (5 * v0 + (v2 : Int32).toNatClampNeg) 9) = 0 → (b_X9_howManyPlaced_30 Q (fun v0 v1 v2 M => b_X9_howManyPlaced_4 Q n v0 v1 v2 M) v0 v2 v1 1 M))))))
set_option maxRecDepth 100000 in
set_option maxHeartbeats 4000000 in
theorem k_X9_howManyPlaced_4 {p : Program} {l : Launch} {e : Env} {s : State} {m : MethodId} {args : Array Value} {below : List Frame} {meth : Method} {c : Code} {g : Geo} (C : CX g p s m args meth c cX9_howManyPlaced 3 (some .int) RX9) {Q : Int32 → Mem → Prop} : ∀ (n : Nat) (v0 : Nat) (v1 : Int32) (v2 : Int32) (hv0 : v0 < 2) (M : Mem) (hw : b_X9_howManyPlaced_4 Q n v0 v1 v2 M) {H : Heap} {locs : List Loc} {ls : Array Slot} (hl : lv_has ls 3 [(0, .ref (g.2.1 (23 + v0))), (1, .int v1), (2, .int v2)]) (hP : va_P g.1 clz (xw g M) H) (hS : va_S (Af 0 g) s.heap H locs), W p l e ({ frames := 0, cells := 0, slots := 0, locals := 0 } : Room) s m args below meth c H locs 0 0 (MQ below (va_Qi Q (PB g (xw g)) (Af 0 g)) args s 0 0 (Af 0 g)) (F0 m 4 ls []) := by
  intro n
  induction n with
  | zero => intro v0 v1 v2 hv0 M hw H locs ls hl hP hS; exact absurd hw (by rw [b_X9_howManyPlaced_4]; exact fun h => h)
  | succ n ih =>
    intro v0 v1 v2 hv0 M hw H locs ls hl hP hS
    rw [b_X9_howManyPlaced_4] at hw
    refine lv_iload_n C.1 C.2.1 dX9_howManyPlaced_4 rfl (lv_at hl 2 rfl) ?_
    refine lv_aload_n C.1 C.2.1 dX9_howManyPlaced_5 rfl (lv_at hl 0 rfl) ?_
    refine gX9_24 C hP hv0 dX9_howManyPlaced_6 ?_
    refine lv_icmp_ge (tgt := 38) C.1 C.2.1 dX9_howManyPlaced_9 (by decide) (fun h1 => ?_) (fun h1 => ?_)
    · have hw := hw.1 h1
      refine lv_iload_n C.1 C.2.1 dX9_howManyPlaced_38 rfl (lv_at hl 1 rfl) ?_
      exact retI (wf := (xw g)) C hP hS hw dX9_howManyPlaced_39
    · have hw := hw.2 h1
      refine lv_iload_n C.1 C.2.1 dX9_howManyPlaced_12 rfl (lv_at hl 1 rfl) ?_
      refine lv_aload_n C.1 C.2.1 dX9_howManyPlaced_13 rfl (lv_at hl 0 rfl) ?_
      refine gX9_11 C hP hv0 dX9_howManyPlaced_14 ?_
      refine lv_iload_n C.1 C.2.1 dX9_howManyPlaced_17 rfl (lv_at hl 2 rfl) ?_
      obtain ⟨h2, hw⟩ := hw
      have hb2 : (5 * v0 + (v2 : Int32).toNatClampNeg) < 10 := by have h9 := vp_lt h2; have h8 := hv0; omega
      refine al_24 C hP hv0 h2 dX9_howManyPlaced_18 ?_
      refine gX9_87 C hP hb2 dX9_howManyPlaced_19 ?_
      refine lv_if_eq (tgt := 29) C.1 C.2.1 dX9_howManyPlaced_22 (by decide) (fun h3 => ?_) (fun h3 => ?_)
      · have hw := hw.1 h3
        refine lv_iconst (v := 0) C.1 C.2.1 dX9_howManyPlaced_29 (by decide) ?_
        exact k_X9_howManyPlaced_30 (Q := Q) C (fun v0 v1 v2 hv0 M hw H locs ls hl hP hS => ih v0 v1 v2 hv0 M hw hl hP hS) v0 v2 v1 0 hv0 _ hw (lv_sub hl [0, 2] rfl) hP hS
      · have hw := hw.2 h3
        refine lv_iconst (v := 1) C.1 C.2.1 dX9_howManyPlaced_25 (by decide) ?_
        refine lv_goto (tgt := 30) C.1 C.2.1 dX9_howManyPlaced_26 (by decide) ?_
        exact k_X9_howManyPlaced_30 (Q := Q) C (fun v0 v1 v2 hv0 M hw H locs ls hl hP hS => ih v0 v1 v2 hv0 M hw hl hP hS) v0 v2 v1 1 hv0 _ hw (lv_sub hl [0, 2] rfl) hP hS
def p_X9_howManyPlaced (a0 : Nat) (M : Mem) (Q : Int32 → Mem → Prop) : Prop := (∃ n4 : Nat, b_X9_howManyPlaced_4 Q n4 a0 0 0 M)
set_option maxRecDepth 100000 in
set_option maxHeartbeats 4000000 in
theorem c_X9_howManyPlaced (l : Launch) (g : Geo) (gi : GI g) (a0 : Nat) (ha0 : a0 < 2) (M : Mem) (Q : Int32 → Mem → Prop) (hw : p_X9_howManyPlaced a0 M Q) : Met l yX9_howManyPlaced (Cond.code yX9_howManyPlaced cX9_howManyPlaced 3 (some .int) :: bg) ({ frames := 0, cells := 0, slots := 0, locals := 0 } : Room) (va_Pc [.ref (g.2.1 (23 + a0))] (PW g (xw g M))) (va_Qi Q (PB g (xw g)) (Af 0 g)) 0 0 (Af 0 g) := by
  refine Met.ofW (cc := cX9_howManyPlaced) (maxL := 3) (ret := (some .int)) (by decide +kernel) rfl ?_
  intro p e s m args below meth c s₁ B hml hv
  obtain ⟨rfl, hv⟩ := hv
  have C := CX.start (own := RX9) B hml rfl gi hv
  have hP := hv.1
  have hS : va_S (Af 0 g) s.heap s.heap [] := va_S.rf
  have hl := lv_entry ([.ref (g.2.1 (23 + a0))]) (n := 3) (Nat.le_of_ble_eq_true rfl)
  rw [lg_entry_eq]
  generalize (lg_sl ([.ref (g.2.1 (23 + a0))]) ++ List.replicate (3 - (lg_sl ([.ref (g.2.1 (23 + a0))])).length) Slot.unset).toArray = ls at hl ⊢
  have hl : lv_has ls 3 [(0, .ref (g.2.1 (23 + a0)))] := hl
  unfold p_X9_howManyPlaced at hw
  refine lv_iconst (v := 0) C.1 C.2.1 dX9_howManyPlaced_0 (by decide) ?_
  refine lv_istore_n (lv' := [(1, .int 0), (0, .ref (g.2.1 (23 + a0)))]) C.1 C.2.1 dX9_howManyPlaced_1 rfl hl (by decide) rfl (fun ls hl => ?_)
  refine lv_iconst (v := 0) C.1 C.2.1 dX9_howManyPlaced_2 (by decide) ?_
  refine lv_istore_n (lv' := [(2, .int 0), (1, .int 0), (0, .ref (g.2.1 (23 + a0)))]) C.1 C.2.1 dX9_howManyPlaced_3 rfl hl (by decide) rfl (fun ls hl => ?_)
  obtain ⟨n9, hw⟩ := hw
  exact k_X9_howManyPlaced_4 (Q := Q) C n9 a0 0 0 ha0 _ hw (lv_sub hl [2, 1, 0] rfl) hP hS
def b_X10_putFour_45 (Q : Mem → Prop) (k3 : Int32 → Int32 → Mem → Prop) (v1 : Int32) (v2 : Int32) (M : Mem) : Prop := (∀ x3 : Int32, x3 = (v2 + (-8)) → (k3 v1 x3 M))
set_option maxRecDepth 100000 in
set_option maxHeartbeats 4000000 in
theorem k_X10_putFour_45 {p : Program} {l : Launch} {e : Env} {s : State} {m : MethodId} {args : Array Value} {below : List Frame} {meth : Method} {c : Code} {g : Geo} (C : CX g p s m args meth c cX10_putFour 3 none RX10) {Q : Mem → Prop} {k3 : Int32 → Int32 → Mem → Prop} (hk3 : ∀ (v1 : Int32) (v2 : Int32) (M : Mem), k3 v1 v2 M → ∀ (H : Heap) (locs : List Loc) (ls : Array Slot), lv_has ls 3 [(0, .ref (g.2.1 (0 + 0))), (1, .int v1), (2, .int v2)] → va_P g.1 clz (xw g M) H → va_S (Af 0 g) s.heap H locs → W p l e ({ frames := 0, cells := 0, slots := 0, locals := 0 } : Room) s m args below meth c H locs 0 0 (MQ below (va_Qv Q (PB g (xw g)) (Af 0 g)) args s 0 0 (Af 0 g)) (F0 m 3 ls [])) (v1 : Int32) (v2 : Int32) (M : Mem) (hw : b_X10_putFour_45 Q k3 v1 v2 M) {H : Heap} {locs : List Loc} {ls : Array Slot} (hl : lv_has ls 3 [(0, .ref (g.2.1 (0 + 0))), (1, .int v1), (2, .int v2)]) (hP : va_P g.1 clz (xw g M) H) (hS : va_S (Af 0 g) s.heap H locs) : W p l e ({ frames := 0, cells := 0, slots := 0, locals := 0 } : Room) s m args below meth c H locs 0 0 (MQ below (va_Qv Q (PB g (xw g)) (Af 0 g)) args s 0 0 (Af 0 g)) (F0 m 45 ls []) := by
  unfold b_X10_putFour_45 at hw
  obtain ⟨x3, e3⟩ : ∃ y : Int32, y = (v2 + (-8)) := ⟨_, rfl⟩
  have hw := hw x3 e3
  refine lv_iinc (v := x3) (lv' := [(2, .int x3), (0, .ref (g.2.1 (0 + 0))), (1, .int v1)]) C.1 C.2.1 dX10_putFour_45 hl (k := 2) rfl (by rw [e3]; rfl) (by decide) rfl (fun ls hl => ?_)
  refine lv_goto (tgt := 3) C.1 C.2.1 dX10_putFour_48 (by decide) ?_
  exact hk3 v1 x3  _ hw _ _ _ (lv_sub hl [1, 2, 0] rfl) hP hS
def b_X10_putFour_3 (Q : Mem → Prop) : Nat → Int32 → Int32 → Mem → Prop
  | 0, _, _, _ => False
  | n + 1, v1, v2, M => ((v2 < 0 → (Q M)) ∧ (¬ v2 < 0 → ((700 ≤ (M.1 0 0 1) → (b_X10_putFour_45 Q (fun v1 v2 M => b_X10_putFour_3 Q n v1 v2 M) v1 v2 M)) ∧ (¬ 700 ≤ (M.1 0 0 1) → (vp_in (M.1 0 0 1) 700 ∧ (∀ M4 : Mem, M4 = sI M 1 0 ((M.1 0 0 1) : Int32).toNatClampNeg (((v1 : Int32).toUInt32 >>> ((v2 : Int32).toUInt32 &&& Int32.toUInt32 31)).toInt32 &&& 255) → (∀ M5 : Mem, M5 = sI M4 0 0 1 ((M4.1 0 0 1) + 1) → (b_X10_putFour_45 Q (fun v1 v2 M => b_X10_putFour_3 Q n v1 v2 M) v1 v2 M5))))))))
set_option maxRecDepth 100000 in
set_option maxHeartbeats 4000000 in
theorem k_X10_putFour_3 {p : Program} {l : Launch} {e : Env} {s : State} {m : MethodId} {args : Array Value} {below : List Frame} {meth : Method} {c : Code} {g : Geo} (C : CX g p s m args meth c cX10_putFour 3 none RX10) {Q : Mem → Prop} : ∀ (n : Nat) (v1 : Int32) (v2 : Int32) (M : Mem) (hw : b_X10_putFour_3 Q n v1 v2 M) {H : Heap} {locs : List Loc} {ls : Array Slot} (hl : lv_has ls 3 [(0, .ref (g.2.1 (0 + 0))), (1, .int v1), (2, .int v2)]) (hP : va_P g.1 clz (xw g M) H) (hS : va_S (Af 0 g) s.heap H locs), W p l e ({ frames := 0, cells := 0, slots := 0, locals := 0 } : Room) s m args below meth c H locs 0 0 (MQ below (va_Qv Q (PB g (xw g)) (Af 0 g)) args s 0 0 (Af 0 g)) (F0 m 3 ls []) := by
  intro n
  induction n with
  | zero => intro v1 v2 M hw H locs ls hl hP hS; exact absurd hw (by rw [b_X10_putFour_3]; exact fun h => h)
  | succ n ih =>
    intro v1 v2 M hw H locs ls hl hP hS
    rw [b_X10_putFour_3] at hw
    refine lv_iload_n C.1 C.2.1 dX10_putFour_3 rfl (lv_at hl 2 rfl) ?_
    refine lv_if_lt (tgt := 51) C.1 C.2.1 dX10_putFour_4 (by decide) (fun h1 => ?_) (fun h1 => ?_)
    · have hw := hw.1 h1
      exact retV (wf := (xw g)) C hP hS hw dX10_putFour_51
    · have hw := hw.2 h1
      refine lv_aload_n C.1 C.2.1 dX10_putFour_7 rfl (lv_at hl 0 rfl) ?_
      refine gX10_78 C hP Nat.zero_lt_one dX10_putFour_8 ?_
      refine lv_aload_n C.1 C.2.1 dX10_putFour_11 rfl (lv_at hl 0 rfl) ?_
      refine gX10_9 C hP Nat.zero_lt_one dX10_putFour_12 ?_
      refine an_1 C hP Nat.zero_lt_one dX10_putFour_15 ?_
      refine lv_icmp_ge (tgt := 45) C.1 C.2.1 dX10_putFour_16 (by decide) (fun h2 => ?_) (fun h2 => ?_)
      · have hw := hw.1 h2
        exact k_X10_putFour_45 (Q := Q) C (fun v1 v2  M hw H locs ls hl hP hS => ih v1 v2  M hw hl hP hS) v1 v2  _ hw (lv_sub hl [0, 1, 2] rfl) hP hS
      · have hw := hw.2 h2
        refine lv_aload_n C.1 C.2.1 dX10_putFour_19 rfl (lv_at hl 0 rfl) ?_
        refine gX10_9 C hP Nat.zero_lt_one dX10_putFour_20 ?_
        refine lv_aload_n C.1 C.2.1 dX10_putFour_23 rfl (lv_at hl 0 rfl) ?_
        refine gX10_78 C hP Nat.zero_lt_one dX10_putFour_24 ?_
        refine lv_iload_n C.1 C.2.1 dX10_putFour_27 rfl (lv_at hl 1 rfl) ?_
        refine lv_iload_n C.1 C.2.1 dX10_putFour_28 rfl (lv_at hl 2 rfl) ?_
        refine lv_iushr C.1 C.2.1 dX10_putFour_29 rfl ?_
        refine lv_sipush (v := 255) C.1 C.2.1 dX10_putFour_30 (by decide) ?_
        refine lv_iand C.1 C.2.1 dX10_putFour_33 ?_
        obtain ⟨h4, hw⟩ := hw
        refine as_1 C hP hS Nat.zero_lt_one h4 dX10_putFour_34 (fun M4 e4 H locs hP hS => ?_)
        have hw := hw M4 e4
        refine lv_aload_n C.1 C.2.1 dX10_putFour_35 rfl (lv_at hl 0 rfl) ?_
        refine lv_dup C.1 C.2.1 dX10_putFour_36 rfl ?_
        refine gX10_78 C hP Nat.zero_lt_one dX10_putFour_37 ?_
        refine lv_iconst (v := 1) C.1 C.2.1 dX10_putFour_40 (by decide) ?_
        refine lv_iadd C.1 C.2.1 dX10_putFour_41 ?_
        refine pX10_78 C hP hS Nat.zero_lt_one dX10_putFour_42 (fun M5 e5 H locs hP hS => ?_)
        have hw := hw M5 e5
        exact k_X10_putFour_45 (Q := Q) C (fun v1 v2  M hw H locs ls hl hP hS => ih v1 v2  M hw hl hP hS) v1 v2  _ hw (lv_sub hl [0, 1, 2] rfl) hP hS
def p_X10_putFour (a1 : Int32) (M : Mem) (Q : Mem → Prop) : Prop := (∃ n3 : Nat, b_X10_putFour_3 Q n3 a1 24 M)
set_option maxRecDepth 100000 in
set_option maxHeartbeats 4000000 in
theorem c_X10_putFour (l : Launch) (g : Geo) (gi : GI g) (a1 : Int32) (M : Mem) (Q : Mem → Prop) (hw : p_X10_putFour a1 M Q) : Met l yX10_putFour (Cond.code yX10_putFour cX10_putFour 3 none :: bg) ({ frames := 0, cells := 0, slots := 0, locals := 0 } : Room) (va_Pc [.ref (g.2.1 (0 + 0)), .int a1] (PW g (xw g M))) (va_Qv Q (PB g (xw g)) (Af 0 g)) 0 0 (Af 0 g) := by
  refine Met.ofW (cc := cX10_putFour) (maxL := 3) (ret := none) (by decide +kernel) rfl ?_
  intro p e s m args below meth c s₁ B hml hv
  obtain ⟨rfl, hv⟩ := hv
  have C := CX.start (own := RX10) B hml rfl gi hv
  have hP := hv.1
  have hS : va_S (Af 0 g) s.heap s.heap [] := va_S.rf
  have hl := lv_entry ([.ref (g.2.1 (0 + 0)), .int a1]) (n := 3) (Nat.le_of_ble_eq_true rfl)
  rw [lg_entry_eq]
  generalize (lg_sl ([.ref (g.2.1 (0 + 0)), .int a1]) ++ List.replicate (3 - (lg_sl ([.ref (g.2.1 (0 + 0)), .int a1])).length) Slot.unset).toArray = ls at hl ⊢
  have hl : lv_has ls 3 [(0, .ref (g.2.1 (0 + 0))), (1, .int a1)] := hl
  unfold p_X10_putFour at hw
  refine lv_bipush (v := 24) C.1 C.2.1 dX10_putFour_0 (by decide) ?_
  refine lv_istore_n (lv' := [(2, .int 24), (0, .ref (g.2.1 (0 + 0))), (1, .int a1)]) C.1 C.2.1 dX10_putFour_2 rfl hl (by decide) rfl (fun ls hl => ?_)
  obtain ⟨n9, hw⟩ := hw
  exact k_X10_putFour_3 (Q := Q) C n9 a1 24  _ hw (lv_sub hl [1, 2, 0] rfl) hP hS
def p_X10_feed (a1 : Int32) (a2 : Int32) (a3 : Int32) (a4 : Int32) (a5 : Int32) (M : Mem) (Q : Int32 → Mem → Prop) : Prop := ((((M.1 0 0 1) + 20) ≤ 700 → (p_X10_putFour a1 M (fun M2 => (p_X10_putFour a2 M2 (fun M3 => (p_X10_putFour a3 M3 (fun M4 => (p_X10_putFour a4 M4 (fun M5 => (p_X10_putFour a5 M5 (fun M6 => (Q (M6.1 0 0 1) M6)))))))))))) ∧ (¬ ((M.1 0 0 1) + 20) ≤ 700 → (Q (-1) M)))
set_option maxRecDepth 100000 in
set_option maxHeartbeats 4000000 in
theorem c_X10_feed (l : Launch) (g : Geo) (gi : GI g) (a1 : Int32) (a2 : Int32) (a3 : Int32) (a4 : Int32) (a5 : Int32) (M : Mem) (Q : Int32 → Mem → Prop) (hw : p_X10_feed a1 a2 a3 a4 a5 M Q) : Met l yX10_feed (Cond.code yX10_feed cX10_feed 6 (some .int) :: bg) ({ frames := 1, cells := 0, slots := 0, locals := 22 } : Room) (va_Pc [.ref (g.2.1 (0 + 0)), .int a1, .int a2, .int a3, .int a4, .int a5] (PW g (xw g M))) (va_Qi Q (PB g (xw g)) (Af 0 g)) 0 0 (Af 0 g) := by
  refine Met.ofW (cc := cX10_feed) (maxL := 6) (ret := (some .int)) (by decide +kernel) rfl ?_
  intro p e s m args below meth c s₁ B hml hv
  obtain ⟨rfl, hv⟩ := hv
  have C := CX.start (own := RX10) B hml rfl gi hv
  have hP := hv.1
  have hS : va_S (Af 0 g) s.heap s.heap [] := va_S.rf
  have hl := lv_entry ([.ref (g.2.1 (0 + 0)), .int a1, .int a2, .int a3, .int a4, .int a5]) (n := 6) (Nat.le_of_ble_eq_true rfl)
  rw [lg_entry_eq]
  generalize (lg_sl ([.ref (g.2.1 (0 + 0)), .int a1, .int a2, .int a3, .int a4, .int a5]) ++ List.replicate (6 - (lg_sl ([.ref (g.2.1 (0 + 0)), .int a1, .int a2, .int a3, .int a4, .int a5])).length) Slot.unset).toArray = ls at hl ⊢
  have hl : lv_has ls 6 [(0, .ref (g.2.1 (0 + 0))), (1, .int a1), (2, .int a2), (3, .int a3), (4, .int a4), (5, .int a5)] := hl
  unfold p_X10_feed at hw
  refine lv_aload_n C.1 C.2.1 dX10_feed_0 rfl (lv_at hl 0 rfl) ?_
  refine gX10_78 C hP Nat.zero_lt_one dX10_feed_1 ?_
  refine lv_bipush (v := 20) C.1 C.2.1 dX10_feed_4 (by decide) ?_
  refine lv_iadd C.1 C.2.1 dX10_feed_6 ?_
  refine lv_aload_n C.1 C.2.1 dX10_feed_7 rfl (lv_at hl 0 rfl) ?_
  refine gX10_9 C hP Nat.zero_lt_one dX10_feed_8 ?_
  refine an_1 C hP Nat.zero_lt_one dX10_feed_11 ?_
  refine lv_icmp_le (tgt := 17) C.1 C.2.1 dX10_feed_12 (by decide) (fun h1 => ?_) (fun h1 => ?_)
  · have hw := hw.1 h1
    refine lv_aload_n C.1 C.2.1 dX10_feed_17 rfl (lv_at hl 0 rfl) ?_
    refine lv_iload_n C.1 C.2.1 dX10_feed_18 rfl (lv_at hl 1 rfl) ?_
    refine goV (wf := (xw g)) (runV (w := xw g M) (As := [.int a1]) (rest := []) C lkX10_82 (c_X10_putFour l g C.2.2.2.2.2.2.2.2.2.2 a1  M _ hw) hP hS rfl rfl ⟨Nat.le_of_ble_eq_true rfl, Nat.le_of_ble_eq_true rfl⟩ (xx_0 Nat.zero_lt_one) rfl rfl hl.1 rfl (Nat.le_of_ble_eq_true rfl) dX10_feed_19) hS (fun M2 hw H locs hP hS => ?_)
    refine lv_aload_n C.1 C.2.1 dX10_feed_22 rfl (lv_at hl 0 rfl) ?_
    refine lv_iload_n C.1 C.2.1 dX10_feed_23 rfl (lv_at hl 2 rfl) ?_
    refine goV (wf := (xw g)) (runV (w := xw g M2) (As := [.int a2]) (rest := []) C lkX10_82 (c_X10_putFour l g C.2.2.2.2.2.2.2.2.2.2 a2  M2 _ hw) hP hS rfl rfl ⟨Nat.le_of_ble_eq_true rfl, Nat.le_of_ble_eq_true rfl⟩ (xx_0 Nat.zero_lt_one) rfl rfl hl.1 rfl (Nat.le_of_ble_eq_true rfl) dX10_feed_24) hS (fun M3 hw H locs hP hS => ?_)
    refine lv_aload_n C.1 C.2.1 dX10_feed_27 rfl (lv_at hl 0 rfl) ?_
    refine lv_iload_n C.1 C.2.1 dX10_feed_28 rfl (lv_at hl 3 rfl) ?_
    refine goV (wf := (xw g)) (runV (w := xw g M3) (As := [.int a3]) (rest := []) C lkX10_82 (c_X10_putFour l g C.2.2.2.2.2.2.2.2.2.2 a3  M3 _ hw) hP hS rfl rfl ⟨Nat.le_of_ble_eq_true rfl, Nat.le_of_ble_eq_true rfl⟩ (xx_0 Nat.zero_lt_one) rfl rfl hl.1 rfl (Nat.le_of_ble_eq_true rfl) dX10_feed_29) hS (fun M4 hw H locs hP hS => ?_)
    refine lv_aload_n C.1 C.2.1 dX10_feed_32 rfl (lv_at hl 0 rfl) ?_
    refine lv_iload C.1 C.2.1 dX10_feed_33 (lv_at hl 4 rfl) ?_
    refine goV (wf := (xw g)) (runV (w := xw g M4) (As := [.int a4]) (rest := []) C lkX10_82 (c_X10_putFour l g C.2.2.2.2.2.2.2.2.2.2 a4  M4 _ hw) hP hS rfl rfl ⟨Nat.le_of_ble_eq_true rfl, Nat.le_of_ble_eq_true rfl⟩ (xx_0 Nat.zero_lt_one) rfl rfl hl.1 rfl (Nat.le_of_ble_eq_true rfl) dX10_feed_35) hS (fun M5 hw H locs hP hS => ?_)
    refine lv_aload_n C.1 C.2.1 dX10_feed_38 rfl (lv_at hl 0 rfl) ?_
    refine lv_iload C.1 C.2.1 dX10_feed_39 (lv_at hl 5 rfl) ?_
    refine goV (wf := (xw g)) (runV (w := xw g M5) (As := [.int a5]) (rest := []) C lkX10_82 (c_X10_putFour l g C.2.2.2.2.2.2.2.2.2.2 a5  M5 _ hw) hP hS rfl rfl ⟨Nat.le_of_ble_eq_true rfl, Nat.le_of_ble_eq_true rfl⟩ (xx_0 Nat.zero_lt_one) rfl rfl hl.1 rfl (Nat.le_of_ble_eq_true rfl) dX10_feed_41) hS (fun M6 hw H locs hP hS => ?_)
    refine lv_aload_n C.1 C.2.1 dX10_feed_44 rfl (lv_at hl 0 rfl) ?_
    refine gX10_78 C hP Nat.zero_lt_one dX10_feed_45 ?_
    exact retI (wf := (xw g)) C hP hS hw dX10_feed_48
  · have hw := hw.2 h1
    refine lv_iconst (v := (-1)) C.1 C.2.1 dX10_feed_15 (by decide) ?_
    exact retI (wf := (xw g)) C hP hS hw dX10_feed_16
def p_X10_text (a1 : Int32) (M : Mem) (Q : Int32 → Mem → Prop) : Prop := ((a1 < 0 → (Q (-2) M)) ∧ (¬ a1 < 0 → ((a1 ≤ (M.1 0 0 1) → (∃ w3 : Nat, M.2.2 0 0 4 = some (23 + w3) ∧ w3 < 2 ∧ (p_X6_readAll_1 a1 w3 M (fun r4 M4 => (∀ M5 : Mem, M5 = sI M4 0 0 1 0 → ((0 ≤ r4 → (∃ w7 : Nat, M5.2.2 0 0 3 = some (23 + w7) ∧ w7 < 2 ∧ (∃ w8 : Nat, M5.2.2 0 0 4 = some (23 + w8) ∧ w8 < 2 ∧ (∀ M9 : Mem, M9 = sR M5 0 0 3 (some (23 + w8)) → (∀ M10 : Mem, M10 = sR M9 0 0 4 (some (23 + w7)) → (p_X8_empty 0 M10 (fun M11 => (∀ M12 : Mem, M12 = sI M11 0 0 9 0 → (p_X5_forget  M12 (fun M13 => (p_X2_forget  M13 (fun M14 => (Q r4 M14))))))))))))) ∧ (¬ 0 ≤ r4 → (Q (-1) M5)))))))) ∧ (¬ a1 ≤ (M.1 0 0 1) → (Q (-2) M)))))
set_option maxRecDepth 100000 in
set_option maxHeartbeats 4000000 in
theorem c_X10_text (l : Launch) (g : Geo) (gi : GI g) (a1 : Int32) (M : Mem) (Q : Int32 → Mem → Prop) (hw : p_X10_text a1 M Q) : Met l yX10_text (Cond.code yX10_text cX10_text 4 (some .int) :: bg) ({ frames := 6, cells := 0, slots := 0, locals := 134 } : Room) (va_Pc [.ref (g.2.1 (0 + 0)), .int a1] (PW g (xw g M))) (va_Qi Q (PB g (xw g)) (Af 0 g)) 0 0 (Af 0 g) := by
  refine Met.ofW (cc := cX10_text) (maxL := 4) (ret := (some .int)) (by decide +kernel) rfl ?_
  intro p e s m args below meth c s₁ B hml hv
  obtain ⟨rfl, hv⟩ := hv
  have C := CX.start (own := RX10) B hml rfl gi hv
  have hP := hv.1
  have hS : va_S (Af 0 g) s.heap s.heap [] := va_S.rf
  have hl := lv_entry ([.ref (g.2.1 (0 + 0)), .int a1]) (n := 4) (Nat.le_of_ble_eq_true rfl)
  rw [lg_entry_eq]
  generalize (lg_sl ([.ref (g.2.1 (0 + 0)), .int a1]) ++ List.replicate (4 - (lg_sl ([.ref (g.2.1 (0 + 0)), .int a1])).length) Slot.unset).toArray = ls at hl ⊢
  have hl : lv_has ls 4 [(0, .ref (g.2.1 (0 + 0))), (1, .int a1)] := hl
  unfold p_X10_text at hw
  refine lv_iload_n C.1 C.2.1 dX10_text_0 rfl (lv_at hl 1 rfl) ?_
  refine lv_if_lt (tgt := 12) C.1 C.2.1 dX10_text_1 (by decide) (fun h1 => ?_) (fun h1 => ?_)
  · have hw := hw.1 h1
    refine lv_bipush (v := (-2)) C.1 C.2.1 dX10_text_12 (by decide) ?_
    exact retI (wf := (xw g)) C hP hS hw dX10_text_14
  · have hw := hw.2 h1
    refine lv_iload_n C.1 C.2.1 dX10_text_4 rfl (lv_at hl 1 rfl) ?_
    refine lv_aload_n C.1 C.2.1 dX10_text_5 rfl (lv_at hl 0 rfl) ?_
    refine gX10_78 C hP Nat.zero_lt_one dX10_text_6 ?_
    refine lv_icmp_le (tgt := 15) C.1 C.2.1 dX10_text_9 (by decide) (fun h2 => ?_) (fun h2 => ?_)
    · have hw := hw.1 h2
      refine lv_aload_n C.1 C.2.1 dX10_text_15 rfl (lv_at hl 0 rfl) ?_
      refine gX10_16 C hP Nat.zero_lt_one dX10_text_16 ?_
      refine lv_aload_n C.1 C.2.1 dX10_text_19 rfl (lv_at hl 0 rfl) ?_
      refine gX10_9 C hP Nat.zero_lt_one dX10_text_20 ?_
      refine lv_iload_n C.1 C.2.1 dX10_text_23 rfl (lv_at hl 1 rfl) ?_
      refine lv_aload_n C.1 C.2.1 dX10_text_24 rfl (lv_at hl 0 rfl) ?_
      obtain ⟨w3, h3, hb3, hw⟩ := hw
      refine gX10_27f C hP Nat.zero_lt_one h3 dX10_text_25 ?_
      refine goI (wf := (xw g)) (runV (w := xw g M) (As := [.ref (g.2.1 (1 + 0)), .int a1, .ref (g.2.1 (23 + w3))]) (rest := []) C lkX10_86 (c_X6_readAll_1 l g C.2.2.2.2.2.2.2.2.2.2 a1 w3 hb3 M _ hw) hP hS rfl rfl ⟨Nat.le_of_ble_eq_true rfl, Nat.le_of_ble_eq_true rfl⟩ (xx_2 Nat.zero_lt_one) rfl rfl hl.1 rfl (Nat.le_of_ble_eq_true rfl) dX10_text_28) hS (fun r4 M4 hw H locs hP hS => ?_)
      refine lv_istore_n (lv' := [(2, .int r4), (0, .ref (g.2.1 (0 + 0))), (1, .int a1)]) C.1 C.2.1 dX10_text_31 rfl hl (by decide) rfl (fun ls hl => ?_)
      refine lv_aload_n C.1 C.2.1 dX10_text_32 rfl (lv_at hl 1 rfl) ?_
      refine lv_iconst (v := 0) C.1 C.2.1 dX10_text_33 (by decide) ?_
      refine pX10_78 C hP hS Nat.zero_lt_one dX10_text_34 (fun M5 e5 H locs hP hS => ?_)
      have hw := hw M5 e5
      refine lv_iload_n C.1 C.2.1 dX10_text_37 rfl (lv_at hl 0 rfl) ?_
      refine lv_if_ge (tgt := 43) C.1 C.2.1 dX10_text_38 (by decide) (fun h6 => ?_) (fun h6 => ?_)
      · have hw := hw.1 h6
        refine lv_aload_n C.1 C.2.1 dX10_text_43 rfl (lv_at hl 1 rfl) ?_
        obtain ⟨w7, h7, hb7, hw⟩ := hw
        refine gX10_23f C hP Nat.zero_lt_one h7 dX10_text_44 ?_
        refine lv_astore_n (lv' := [(3, .ref (g.2.1 (23 + w7))), (2, .int r4), (0, .ref (g.2.1 (0 + 0))), (1, .int a1)]) C.1 C.2.1 dX10_text_47 rfl hl (by decide) rfl (fun ls hl => ?_)
        refine lv_aload_n C.1 C.2.1 dX10_text_48 rfl (lv_at hl 2 rfl) ?_
        refine lv_aload_n C.1 C.2.1 dX10_text_49 rfl (lv_at hl 2 rfl) ?_
        obtain ⟨w8, h8, hb8, hw⟩ := hw
        refine gX10_27f C hP Nat.zero_lt_one h8 dX10_text_50 ?_
        refine pX10_23 C hP hS Nat.zero_lt_one dX10_text_53 (fun M9 e9 H locs hP hS => ?_)
        have hw := hw M9 e9
        refine lv_aload_n C.1 C.2.1 dX10_text_56 rfl (lv_at hl 2 rfl) ?_
        refine lv_aload_n C.1 C.2.1 dX10_text_57 rfl (lv_at hl 0 rfl) ?_
        refine pX10_27 C hP hS Nat.zero_lt_one dX10_text_58 (fun M10 e10 H locs hP hS => ?_)
        have hw := hw M10 e10
        refine lv_aload_n C.1 C.2.1 dX10_text_61 rfl (lv_at hl 2 rfl) ?_
        refine gX10_47 C hP Nat.zero_lt_one dX10_text_62 ?_
        refine goV (wf := (xw g)) (runV (w := xw g M10) (As := []) (rest := []) C lkX10_90 (c_X8_empty l g C.2.2.2.2.2.2.2.2.2.2 0 (Nat.le_of_ble_eq_true rfl) M10 _ hw) hP hS rfl rfl ⟨Nat.le_of_ble_eq_true rfl, Nat.le_of_ble_eq_true rfl⟩ (xx_27 (Nat.le_of_ble_eq_true rfl)) rfl rfl hl.1 rfl (Nat.le_of_ble_eq_true rfl) dX10_text_65) hS (fun M11 hw H locs hP hS => ?_)
        refine lv_aload_n C.1 C.2.1 dX10_text_68 rfl (lv_at hl 2 rfl) ?_
        refine lv_iconst (v := 0) C.1 C.2.1 dX10_text_69 (by decide) ?_
        refine pX10_93 C hP hS Nat.zero_lt_one rfl rfl dX10_text_70 (fun M12 e12 H locs hP hS => ?_)
        have hw := hw M12 e12
        refine lv_aload_n C.1 C.2.1 dX10_text_73 rfl (lv_at hl 2 rfl) ?_
        refine gX10_60 C hP Nat.zero_lt_one dX10_text_74 ?_
        refine goV (wf := (xw g)) (runV (w := xw g M12) (As := []) (rest := []) C lkX10_97 (c_X5_forget l g C.2.2.2.2.2.2.2.2.2.2   M12 _ hw) hP hS rfl rfl ⟨Nat.le_of_ble_eq_true rfl, Nat.le_of_ble_eq_true rfl⟩ (xx_21 Nat.zero_lt_one) rfl rfl hl.1 rfl (Nat.le_of_ble_eq_true rfl) dX10_text_77) hS (fun M13 hw H locs hP hS => ?_)
        refine lv_aload_n C.1 C.2.1 dX10_text_80 rfl (lv_at hl 2 rfl) ?_
        refine gX10_33 C hP Nat.zero_lt_one dX10_text_81 ?_
        refine goV (wf := (xw g)) (runV (w := xw g M13) (As := []) (rest := []) C lkX10_100 (c_X2_forget l g C.2.2.2.2.2.2.2.2.2.2   M13 _ hw) hP hS rfl rfl ⟨Nat.le_of_ble_eq_true rfl, Nat.le_of_ble_eq_true rfl⟩ (xx_5 Nat.zero_lt_one) rfl rfl hl.1 rfl (Nat.le_of_ble_eq_true rfl) dX10_text_84) hS (fun M14 hw H locs hP hS => ?_)
        refine lv_iload_n C.1 C.2.1 dX10_text_87 rfl (lv_at hl 1 rfl) ?_
        exact retI (wf := (xw g)) C hP hS hw dX10_text_88
      · have hw := hw.2 h6
        refine lv_iconst (v := (-1)) C.1 C.2.1 dX10_text_41 (by decide) ?_
        exact retI (wf := (xw g)) C hP hS hw dX10_text_42
    · have hw := hw.2 h2
      refine lv_bipush (v := (-2)) C.1 C.2.1 dX10_text_12 (by decide) ?_
      exact retI (wf := (xw g)) C hP hS hw dX10_text_14
def p_X10_fault (a1 : Int32) (M : Mem) (Q : Int32 → Mem → Prop) : Prop := ((a1 = 0 → (Q (M.1 2 0 0) M)) ∧ (a1 = 1 → (Q (M.1 2 0 1) M)) ∧ (¬ a1 = 0 → ¬ a1 = 1 → (Q (-1) M)))
set_option maxRecDepth 100000 in
set_option maxHeartbeats 4000000 in
theorem c_X10_fault (l : Launch) (g : Geo) (gi : GI g) (a1 : Int32) (M : Mem) (Q : Int32 → Mem → Prop) (hw : p_X10_fault a1 M Q) : Met l yX10_fault (Cond.code yX10_fault cX10_fault 2 (some .int) :: bg) ({ frames := 0, cells := 0, slots := 0, locals := 0 } : Room) (va_Pc [.ref (g.2.1 (0 + 0)), .int a1] (PW g (xw g M))) (va_Qi Q (PB g (xw g)) (Af 0 g)) 0 0 (Af 0 g) := by
  refine Met.ofW (cc := cX10_fault) (maxL := 2) (ret := (some .int)) (by decide +kernel) rfl ?_
  intro p e s m args below meth c s₁ B hml hv
  obtain ⟨rfl, hv⟩ := hv
  have C := CX.start (own := RX10) B hml rfl gi hv
  have hP := hv.1
  have hS : va_S (Af 0 g) s.heap s.heap [] := va_S.rf
  have hl := lv_entry ([.ref (g.2.1 (0 + 0)), .int a1]) (n := 2) (Nat.le_of_ble_eq_true rfl)
  rw [lg_entry_eq]
  generalize (lg_sl ([.ref (g.2.1 (0 + 0)), .int a1]) ++ List.replicate (2 - (lg_sl ([.ref (g.2.1 (0 + 0)), .int a1])).length) Slot.unset).toArray = ls at hl ⊢
  have hl : lv_has ls 2 [(0, .ref (g.2.1 (0 + 0))), (1, .int a1)] := hl
  unfold p_X10_fault at hw
  refine lv_iload_n C.1 C.2.1 dX10_fault_0 rfl (lv_at hl 1 rfl) ?_
  by_cases q1_0 : a1 = 0
  · have hw := hw.1 q1_0
    refine lv_lookup (tgt := 28) (off := 27) C.1 C.2.1 dX10_fault_1 (by decide) (by rw [q1_0]; decide +kernel) (by decide) ?_
    refine lv_aload_n C.1 C.2.1 dX10_fault_28 rfl (lv_at hl 0 rfl) ?_
    refine gX10_16 C hP Nat.zero_lt_one dX10_fault_29 ?_
    refine gX10_101 C hP Nat.zero_lt_one dX10_fault_32 ?_
    exact retI (wf := (xw g)) C hP hS hw dX10_fault_35
  by_cases q1_1 : a1 = 1
  · have hw := hw.2.1 q1_1
    refine lv_lookup (tgt := 36) (off := 35) C.1 C.2.1 dX10_fault_1 (by decide) (by rw [q1_1]; decide +kernel) (by decide) ?_
    refine lv_aload_n C.1 C.2.1 dX10_fault_36 rfl (lv_at hl 0 rfl) ?_
    refine gX10_16 C hP Nat.zero_lt_one dX10_fault_37 ?_
    refine gX10_104 C hP Nat.zero_lt_one dX10_fault_40 ?_
    exact retI (wf := (xw g)) C hP hS hw dX10_fault_43
  have hw := hw.2.2 q1_0 q1_1
  have n1_0 : a1.toInt ≠ 0 := tsw q1_0
  have n1_1 : a1.toInt ≠ 1 := tsw q1_1
  refine lv_lookup (tgt := 44) (off := 43) C.1 C.2.1 dX10_fault_1 (by decide) (by simp [Op.lookupswitch.offset, Ne.symm n1_0, Ne.symm n1_1]) (by decide) ?_
  refine lv_iconst (v := (-1)) C.1 C.2.1 dX10_fault_44 (by decide) ?_
  exact retI (wf := (xw g)) C hP hS hw dX10_fault_45
def p_X10_named (a1 : Int32) (M : Mem) (Q : Int32 → Mem → Prop) : Prop := (∃ w1 : Nat, M.2.2 0 0 3 = some (23 + w1) ∧ w1 < 2 ∧ (p_X9_numberOf w1 a1 M (fun r2 M2 => (Q r2 M2))))
set_option maxRecDepth 100000 in
set_option maxHeartbeats 4000000 in
theorem c_X10_named (l : Launch) (g : Geo) (gi : GI g) (a1 : Int32) (M : Mem) (Q : Int32 → Mem → Prop) (hw : p_X10_named a1 M Q) : Met l yX10_named (Cond.code yX10_named cX10_named 2 (some .int) :: bg) ({ frames := 1, cells := 0, slots := 0, locals := 22 } : Room) (va_Pc [.ref (g.2.1 (0 + 0)), .int a1] (PW g (xw g M))) (va_Qi Q (PB g (xw g)) (Af 0 g)) 0 0 (Af 0 g) := by
  refine Met.ofW (cc := cX10_named) (maxL := 2) (ret := (some .int)) (by decide +kernel) rfl ?_
  intro p e s m args below meth c s₁ B hml hv
  obtain ⟨rfl, hv⟩ := hv
  have C := CX.start (own := RX10) B hml rfl gi hv
  have hP := hv.1
  have hS : va_S (Af 0 g) s.heap s.heap [] := va_S.rf
  have hl := lv_entry ([.ref (g.2.1 (0 + 0)), .int a1]) (n := 2) (Nat.le_of_ble_eq_true rfl)
  rw [lg_entry_eq]
  generalize (lg_sl ([.ref (g.2.1 (0 + 0)), .int a1]) ++ List.replicate (2 - (lg_sl ([.ref (g.2.1 (0 + 0)), .int a1])).length) Slot.unset).toArray = ls at hl ⊢
  have hl : lv_has ls 2 [(0, .ref (g.2.1 (0 + 0))), (1, .int a1)] := hl
  unfold p_X10_named at hw
  refine lv_aload_n C.1 C.2.1 dX10_named_0 rfl (lv_at hl 0 rfl) ?_
  obtain ⟨w1, h1, hb1, hw⟩ := hw
  refine gX10_23f C hP Nat.zero_lt_one h1 dX10_named_1 ?_
  refine lv_iload_n C.1 C.2.1 dX10_named_4 rfl (lv_at hl 1 rfl) ?_
  refine goI (wf := (xw g)) (runV (w := xw g M) (As := [.int a1]) (rest := []) C lkX10_107 (c_X9_numberOf l g C.2.2.2.2.2.2.2.2.2.2 w1 a1 hb1 M _ hw) hP hS rfl rfl ⟨Nat.le_of_ble_eq_true rfl, Nat.le_of_ble_eq_true rfl⟩ (xx_23 hb1) rfl rfl hl.1 rfl (Nat.le_of_ble_eq_true rfl) dX10_named_5) hS (fun r2 M2 hw H locs hP hS => ?_)
  exact retI (wf := (xw g)) C hP hS hw dX10_named_8
def p_X10_isBird (a1 : Int32) (M : Mem) (Q : Int32 → Mem → Prop) : Prop := ((a1 < 0 → (Q 0 M)) ∧ (¬ a1 < 0 → (∃ w2 : Nat, M.2.2 0 0 3 = some (23 + w2) ∧ w2 < 2 ∧ (((M.1 23 w2 1) ≤ a1 → (Q 0 M)) ∧ (¬ (M.1 23 w2 1) ≤ a1 → (Q 1 M))))))
set_option maxRecDepth 100000 in
set_option maxHeartbeats 4000000 in
theorem c_X10_isBird (l : Launch) (g : Geo) (gi : GI g) (a1 : Int32) (M : Mem) (Q : Int32 → Mem → Prop) (hw : p_X10_isBird a1 M Q) : Met l yX10_isBird (Cond.code yX10_isBird cX10_isBird 2 (some .boolean) :: bg) ({ frames := 0, cells := 0, slots := 0, locals := 0 } : Room) (va_Pc [.ref (g.2.1 (0 + 0)), .int a1] (PW g (xw g M))) (va_Qi (fun r M => Q r M ∧ narrow .boolean (.int r) = .int r) (PB g (xw g)) (Af 0 g)) 0 0 (Af 0 g) := by
  refine Met.ofW (cc := cX10_isBird) (maxL := 2) (ret := (some .boolean)) (by decide +kernel) rfl ?_
  intro p e s m args below meth c s₁ B hml hv
  obtain ⟨rfl, hv⟩ := hv
  have C := CX.start (own := RX10) B hml rfl gi hv
  have hP := hv.1
  have hS : va_S (Af 0 g) s.heap s.heap [] := va_S.rf
  have hl := lv_entry ([.ref (g.2.1 (0 + 0)), .int a1]) (n := 2) (Nat.le_of_ble_eq_true rfl)
  rw [lg_entry_eq]
  generalize (lg_sl ([.ref (g.2.1 (0 + 0)), .int a1]) ++ List.replicate (2 - (lg_sl ([.ref (g.2.1 (0 + 0)), .int a1])).length) Slot.unset).toArray = ls at hl ⊢
  have hl : lv_has ls 2 [(0, .ref (g.2.1 (0 + 0))), (1, .int a1)] := hl
  unfold p_X10_isBird at hw
  refine lv_iload_n C.1 C.2.1 dX10_isBird_0 rfl (lv_at hl 1 rfl) ?_
  refine lv_if_lt (tgt := 19) C.1 C.2.1 dX10_isBird_1 (by decide) (fun h1 => ?_) (fun h1 => ?_)
  · have hw := hw.1 h1
    refine lv_iconst (v := 0) C.1 C.2.1 dX10_isBird_19 (by decide) ?_
    exact retZ (wf := (xw g)) C hP hS rfl hw dX10_isBird_20
  · have hw := hw.2 h1
    refine lv_iload_n C.1 C.2.1 dX10_isBird_4 rfl (lv_at hl 1 rfl) ?_
    refine lv_aload_n C.1 C.2.1 dX10_isBird_5 rfl (lv_at hl 0 rfl) ?_
    obtain ⟨w2, h2, hb2, hw⟩ := hw
    refine gX10_23f C hP Nat.zero_lt_one h2 dX10_isBird_6 ?_
    refine gX10_135 C hP hb2 dX10_isBird_9 ?_
    refine lv_icmp_ge (tgt := 19) C.1 C.2.1 dX10_isBird_12 (by decide) (fun h3 => ?_) (fun h3 => ?_)
    · have hw := hw.1 h3
      refine lv_iconst (v := 0) C.1 C.2.1 dX10_isBird_19 (by decide) ?_
      exact retZ (wf := (xw g)) C hP hS rfl hw dX10_isBird_20
    · have hw := hw.2 h3
      refine lv_iconst (v := 1) C.1 C.2.1 dX10_isBird_15 (by decide) ?_
      refine lv_goto (tgt := 20) C.1 C.2.1 dX10_isBird_16 (by decide) ?_
      exact retZ (wf := (xw g)) C hP hS rfl hw dX10_isBird_20
def p_X10_isPeriod (a0 : Int32) (M : Mem) (Q : Int32 → Mem → Prop) : Prop := ((a0 < 0 → (Q 0 M)) ∧ (¬ a0 < 0 → ((200 ≤ a0 → (Q 0 M)) ∧ (¬ 200 ≤ a0 → (Q 1 M)))))
set_option maxRecDepth 100000 in
set_option maxHeartbeats 4000000 in
theorem c_X10_isPeriod (l : Launch) (g : Geo) (gi : GI g) (a0 : Int32) (M : Mem) (Q : Int32 → Mem → Prop) (hw : p_X10_isPeriod a0 M Q) : Met l yX10_isPeriod (Cond.code yX10_isPeriod cX10_isPeriod 1 (some .boolean) :: bg) ({ frames := 0, cells := 0, slots := 0, locals := 0 } : Room) (va_Pc [.int a0] (PW g (xw g M))) (va_Qi (fun r M => Q r M ∧ narrow .boolean (.int r) = .int r) (PB g (xw g)) (Af 0 g)) 0 0 (Af 0 g) := by
  refine Met.ofW (cc := cX10_isPeriod) (maxL := 1) (ret := (some .boolean)) (by decide +kernel) rfl ?_
  intro p e s m args below meth c s₁ B hml hv
  obtain ⟨rfl, hv⟩ := hv
  have C := CX.start (own := RX10) B hml rfl gi hv
  have hP := hv.1
  have hS : va_S (Af 0 g) s.heap s.heap [] := va_S.rf
  have hl := lv_entry ([.int a0]) (n := 1) (Nat.le_of_ble_eq_true rfl)
  rw [lg_entry_eq]
  generalize (lg_sl ([.int a0]) ++ List.replicate (1 - (lg_sl ([.int a0])).length) Slot.unset).toArray = ls at hl ⊢
  have hl : lv_has ls 1 [(0, .int a0)] := hl
  unfold p_X10_isPeriod at hw
  refine lv_iload_n C.1 C.2.1 dX10_isPeriod_0 rfl (lv_at hl 0 rfl) ?_
  refine lv_if_lt (tgt := 15) C.1 C.2.1 dX10_isPeriod_1 (by decide) (fun h1 => ?_) (fun h1 => ?_)
  · have hw := hw.1 h1
    refine lv_iconst (v := 0) C.1 C.2.1 dX10_isPeriod_15 (by decide) ?_
    exact retZ (wf := (xw g)) C hP hS rfl hw dX10_isPeriod_16
  · have hw := hw.2 h1
    refine lv_iload_n C.1 C.2.1 dX10_isPeriod_4 rfl (lv_at hl 0 rfl) ?_
    refine lv_sipush (v := 200) C.1 C.2.1 dX10_isPeriod_5 (by decide) ?_
    refine lv_icmp_ge (tgt := 15) C.1 C.2.1 dX10_isPeriod_8 (by decide) (fun h2 => ?_) (fun h2 => ?_)
    · have hw := hw.1 h2
      refine lv_iconst (v := 0) C.1 C.2.1 dX10_isPeriod_15 (by decide) ?_
      exact retZ (wf := (xw g)) C hP hS rfl hw dX10_isPeriod_16
    · have hw := hw.2 h2
      refine lv_iconst (v := 1) C.1 C.2.1 dX10_isPeriod_11 (by decide) ?_
      refine lv_goto (tgt := 16) C.1 C.2.1 dX10_isPeriod_12 (by decide) ?_
      exact retZ (wf := (xw g)) C hP hS rfl hw dX10_isPeriod_16
def p_X10_arePeriods (a0 : Int32) (a1 : Int32) (a2 : Int32) (M : Mem) (Q : Int32 → Mem → Prop) : Prop := (p_X10_isPeriod a0 M (fun r1 M1 => ((r1 = 0 → (Q 0 M1)) ∧ (¬ r1 = 0 → ((a1 < 1 → (Q 0 M1)) ∧ (¬ a1 < 1 → ((a2 < a1 → (Q 0 M1)) ∧ (¬ a2 < a1 → ((200 < (a0 + a1) → (Q 0 M1)) ∧ (¬ 200 < (a0 + a1) → (Q 1 M1)))))))))))
set_option maxRecDepth 100000 in
set_option maxHeartbeats 4000000 in
theorem c_X10_arePeriods (l : Launch) (g : Geo) (gi : GI g) (a0 : Int32) (a1 : Int32) (a2 : Int32) (M : Mem) (Q : Int32 → Mem → Prop) (hw : p_X10_arePeriods a0 a1 a2 M Q) : Met l yX10_arePeriods (Cond.code yX10_arePeriods cX10_arePeriods 3 (some .boolean) :: bg) ({ frames := 1, cells := 0, slots := 0, locals := 20 } : Room) (va_Pc [.int a0, .int a1, .int a2] (PW g (xw g M))) (va_Qi (fun r M => Q r M ∧ narrow .boolean (.int r) = .int r) (PB g (xw g)) (Af 0 g)) 0 0 (Af 0 g) := by
  refine Met.ofW (cc := cX10_arePeriods) (maxL := 3) (ret := (some .boolean)) (by decide +kernel) rfl ?_
  intro p e s m args below meth c s₁ B hml hv
  obtain ⟨rfl, hv⟩ := hv
  have C := CX.start (own := RX10) B hml rfl gi hv
  have hP := hv.1
  have hS : va_S (Af 0 g) s.heap s.heap [] := va_S.rf
  have hl := lv_entry ([.int a0, .int a1, .int a2]) (n := 3) (Nat.le_of_ble_eq_true rfl)
  rw [lg_entry_eq]
  generalize (lg_sl ([.int a0, .int a1, .int a2]) ++ List.replicate (3 - (lg_sl ([.int a0, .int a1, .int a2])).length) Slot.unset).toArray = ls at hl ⊢
  have hl : lv_has ls 3 [(0, .int a0), (1, .int a1), (2, .int a2)] := hl
  unfold p_X10_arePeriods at hw
  refine lv_iload_n C.1 C.2.1 dX10_arePeriods_0 rfl (lv_at hl 0 rfl) ?_
  refine goI (wf := (xw g)) (runS (w := xw g M) (As := [.int a0]) (rest := []) C lkX10_138 (c_X10_isPeriod l g C.2.2.2.2.2.2.2.2.2.2 a0  M _ hw) hP hS rfl rfl ⟨Nat.le_of_ble_eq_true rfl, Nat.le_of_ble_eq_true rfl⟩ hl.1 rfl (Nat.le_of_ble_eq_true rfl) dX10_arePeriods_1) hS (fun r1 M1 hw H locs hP hS => ?_)
  obtain ⟨hw, hz1⟩ := hw
  refine lv_if_eq (tgt := 30) C.1 C.2.1 dX10_arePeriods_4 (by decide) (fun h2 => ?_) (fun h2 => ?_)
  · have hw := hw.1 h2
    refine lv_iconst (v := 0) C.1 C.2.1 dX10_arePeriods_30 (by decide) ?_
    exact retZ (wf := (xw g)) C hP hS rfl hw dX10_arePeriods_31
  · have hw := hw.2 h2
    refine lv_iload_n C.1 C.2.1 dX10_arePeriods_7 rfl (lv_at hl 1 rfl) ?_
    refine lv_iconst (v := 1) C.1 C.2.1 dX10_arePeriods_8 (by decide) ?_
    refine lv_icmp_lt (tgt := 30) C.1 C.2.1 dX10_arePeriods_9 (by decide) (fun h3 => ?_) (fun h3 => ?_)
    · have hw := hw.1 h3
      refine lv_iconst (v := 0) C.1 C.2.1 dX10_arePeriods_30 (by decide) ?_
      exact retZ (wf := (xw g)) C hP hS rfl hw dX10_arePeriods_31
    · have hw := hw.2 h3
      refine lv_iload_n C.1 C.2.1 dX10_arePeriods_12 rfl (lv_at hl 1 rfl) ?_
      refine lv_iload_n C.1 C.2.1 dX10_arePeriods_13 rfl (lv_at hl 2 rfl) ?_
      refine lv_icmp_gt (tgt := 30) C.1 C.2.1 dX10_arePeriods_14 (by decide) (fun h4 => ?_) (fun h4 => ?_)
      · have hw := hw.1 h4
        refine lv_iconst (v := 0) C.1 C.2.1 dX10_arePeriods_30 (by decide) ?_
        exact retZ (wf := (xw g)) C hP hS rfl hw dX10_arePeriods_31
      · have hw := hw.2 h4
        refine lv_iload_n C.1 C.2.1 dX10_arePeriods_17 rfl (lv_at hl 0 rfl) ?_
        refine lv_iload_n C.1 C.2.1 dX10_arePeriods_18 rfl (lv_at hl 1 rfl) ?_
        refine lv_iadd C.1 C.2.1 dX10_arePeriods_19 ?_
        refine lv_sipush (v := 200) C.1 C.2.1 dX10_arePeriods_20 (by decide) ?_
        refine lv_icmp_gt (tgt := 30) C.1 C.2.1 dX10_arePeriods_23 (by decide) (fun h5 => ?_) (fun h5 => ?_)
        · have hw := hw.1 h5
          refine lv_iconst (v := 0) C.1 C.2.1 dX10_arePeriods_30 (by decide) ?_
          exact retZ (wf := (xw g)) C hP hS rfl hw dX10_arePeriods_31
        · have hw := hw.2 h5
          refine lv_iconst (v := 1) C.1 C.2.1 dX10_arePeriods_26 (by decide) ?_
          refine lv_goto (tgt := 31) C.1 C.2.1 dX10_arePeriods_27 (by decide) ?_
          exact retZ (wf := (xw g)) C hP hS rfl hw dX10_arePeriods_31
def p_X10_chip (a1 : Int32) (a2 : Int32) (M : Mem) (Q : Int32 → Mem → Prop) : Prop := (p_X10_isBird a1 M (fun r1 M1 => ((r1 = 0 → (Q 0 M1)) ∧ (¬ r1 = 0 → ((a2 < 0 → (Q 0 M1)) ∧ (¬ a2 < 0 → ((a2 < 31 → (∃ w5 : Nat, M1.2.2 0 0 3 = some (23 + w5) ∧ w5 < 2 ∧ (vp_in a1 5 ∧ ((¬ ((((M1.1 25 (5 * w5 + (a1 : Int32).toNatClampNeg) 2) : Int32).toUInt32 >>> ((a2 : Int32).toUInt32 &&& Int32.toUInt32 31)).toInt32 &&& 1) = 1 → (Q (-1) M1)) ∧ (((((M1.1 25 (5 * w5 + (a1 : Int32).toNatClampNeg) 2) : Int32).toUInt32 >>> ((a2 : Int32).toUInt32 &&& Int32.toUInt32 31)).toInt32 &&& 1) = 1 → (Q 1 M1)))))) ∧ (¬ a2 < 31 → (Q 0 M1)))))))))
set_option maxRecDepth 100000 in
set_option maxHeartbeats 4000000 in
theorem c_X10_chip (l : Launch) (g : Geo) (gi : GI g) (a1 : Int32) (a2 : Int32) (M : Mem) (Q : Int32 → Mem → Prop) (hw : p_X10_chip a1 a2 M Q) : Met l yX10_chip (Cond.code yX10_chip cX10_chip 3 (some .int) :: bg) ({ frames := 1, cells := 0, slots := 0, locals := 21 } : Room) (va_Pc [.ref (g.2.1 (0 + 0)), .int a1, .int a2] (PW g (xw g M))) (va_Qi Q (PB g (xw g)) (Af 0 g)) 0 0 (Af 0 g) := by
  refine Met.ofW (cc := cX10_chip) (maxL := 3) (ret := (some .int)) (by decide +kernel) rfl ?_
  intro p e s m args below meth c s₁ B hml hv
  obtain ⟨rfl, hv⟩ := hv
  have C := CX.start (own := RX10) B hml rfl gi hv
  have hP := hv.1
  have hS : va_S (Af 0 g) s.heap s.heap [] := va_S.rf
  have hl := lv_entry ([.ref (g.2.1 (0 + 0)), .int a1, .int a2]) (n := 3) (Nat.le_of_ble_eq_true rfl)
  rw [lg_entry_eq]
  generalize (lg_sl ([.ref (g.2.1 (0 + 0)), .int a1, .int a2]) ++ List.replicate (3 - (lg_sl ([.ref (g.2.1 (0 + 0)), .int a1, .int a2])).length) Slot.unset).toArray = ls at hl ⊢
  have hl : lv_has ls 3 [(0, .ref (g.2.1 (0 + 0))), (1, .int a1), (2, .int a2)] := hl
  unfold p_X10_chip at hw
  refine lv_aload_n C.1 C.2.1 dX10_chip_0 rfl (lv_at hl 0 rfl) ?_
  refine lv_iload_n C.1 C.2.1 dX10_chip_1 rfl (lv_at hl 1 rfl) ?_
  refine goI (wf := (xw g)) (runV (w := xw g M) (As := [.int a1]) (rest := []) C lkX10_111 (c_X10_isBird l g C.2.2.2.2.2.2.2.2.2.2 a1  M _ hw) hP hS rfl rfl ⟨Nat.le_of_ble_eq_true rfl, Nat.le_of_ble_eq_true rfl⟩ (xx_0 Nat.zero_lt_one) rfl rfl hl.1 rfl (Nat.le_of_ble_eq_true rfl) dX10_chip_2) hS (fun r1 M1 hw H locs hP hS => ?_)
  obtain ⟨hw, hz1⟩ := hw
  refine lv_if_eq (tgt := 18) C.1 C.2.1 dX10_chip_5 (by decide) (fun h2 => ?_) (fun h2 => ?_)
  · have hw := hw.1 h2
    refine lv_iconst (v := 0) C.1 C.2.1 dX10_chip_18 (by decide) ?_
    exact retI (wf := (xw g)) C hP hS hw dX10_chip_19
  · have hw := hw.2 h2
    refine lv_iload_n C.1 C.2.1 dX10_chip_8 rfl (lv_at hl 2 rfl) ?_
    refine lv_if_lt (tgt := 18) C.1 C.2.1 dX10_chip_9 (by decide) (fun h3 => ?_) (fun h3 => ?_)
    · have hw := hw.1 h3
      refine lv_iconst (v := 0) C.1 C.2.1 dX10_chip_18 (by decide) ?_
      exact retI (wf := (xw g)) C hP hS hw dX10_chip_19
    · have hw := hw.2 h3
      refine lv_iload_n C.1 C.2.1 dX10_chip_12 rfl (lv_at hl 2 rfl) ?_
      refine lv_bipush (v := 31) C.1 C.2.1 dX10_chip_13 (by decide) ?_
      refine lv_icmp_lt (tgt := 20) C.1 C.2.1 dX10_chip_15 (by decide) (fun h4 => ?_) (fun h4 => ?_)
      · have hw := hw.1 h4
        refine lv_aload_n C.1 C.2.1 dX10_chip_20 rfl (lv_at hl 0 rfl) ?_
        obtain ⟨w5, h5, hb5, hw⟩ := hw
        refine gX10_23f C hP Nat.zero_lt_one h5 dX10_chip_21 ?_
        refine gX10_127 C hP hb5 dX10_chip_24 ?_
        refine lv_iload_n C.1 C.2.1 dX10_chip_27 rfl (lv_at hl 1 rfl) ?_
        obtain ⟨h6, hw⟩ := hw
        have hb6 : (5 * w5 + (a1 : Int32).toNatClampNeg) < 10 := by have h9 := vp_lt h6; have h8 := hb5; omega
        refine al_24 C hP hb5 h6 dX10_chip_28 ?_
        refine gX10_141 C hP hb6 dX10_chip_29 ?_
        refine lv_iload_n C.1 C.2.1 dX10_chip_32 rfl (lv_at hl 2 rfl) ?_
        refine lv_iushr C.1 C.2.1 dX10_chip_33 rfl ?_
        refine lv_iconst (v := 1) C.1 C.2.1 dX10_chip_34 (by decide) ?_
        refine lv_iand C.1 C.2.1 dX10_chip_35 ?_
        refine lv_iconst (v := 1) C.1 C.2.1 dX10_chip_36 (by decide) ?_
        refine lv_icmp_ne (tgt := 44) C.1 C.2.1 dX10_chip_37 (by decide) (fun h7 => ?_) (fun h7 => ?_)
        · have hw := hw.1 h7
          refine lv_iconst (v := (-1)) C.1 C.2.1 dX10_chip_44 (by decide) ?_
          exact retI (wf := (xw g)) C hP hS hw dX10_chip_45
        · have hw := hw.2 h7
          refine lv_iconst (v := 1) C.1 C.2.1 dX10_chip_40 (by decide) ?_
          refine lv_goto (tgt := 45) C.1 C.2.1 dX10_chip_41 (by decide) ?_
          exact retI (wf := (xw g)) C hP hS hw dX10_chip_45
      · have hw := hw.2 h4
        refine lv_iconst (v := 0) C.1 C.2.1 dX10_chip_18 (by decide) ?_
        exact retI (wf := (xw g)) C hP hS hw dX10_chip_19
def b_X10_period_18 (Q : Int32 → Mem → Prop) : Nat → Int32 → Int32 → Int32 → Mem → Prop
  | 0, _, _, _, _ => False
  | n + 1, v1, v2, v3, M => ((32 < v3 → (Q (-2) M)) ∧ (¬ 32 < v3 → (p_X10_stepped v2 v1 M (fun r4 M4 => ((¬ r4 = 31 → (∀ x6 : Int32, x6 = (v3 + 1) → (b_X10_period_18 Q n v1 r4 x6 M4))) ∧ (r4 = 31 → (Q v3 M4)))))))
set_option maxRecDepth 100000 in
set_option maxHeartbeats 4000000 in
theorem k_X10_period_18 {p : Program} {l : Launch} {e : Env} {s : State} {m : MethodId} {args : Array Value} {below : List Frame} {meth : Method} {c : Code} {g : Geo} (C : CX g p s m args meth c cX10_period 4 (some .int) RX10) {Q : Int32 → Mem → Prop} : ∀ (n : Nat) (v1 : Int32) (v2 : Int32) (v3 : Int32) (M : Mem) (hw : b_X10_period_18 Q n v1 v2 v3 M) {H : Heap} {locs : List Loc} {ls : Array Slot} (hl : lv_has ls 4 [(1, .int v1), (2, .int v2), (3, .int v3)]) (hP : va_P g.1 clz (xw g M) H) (hS : va_S (Af 0 g) s.heap H locs), W p l e ({ frames := 2, cells := 0, slots := 0, locals := 42 } : Room) s m args below meth c H locs 0 0 (MQ below (va_Qi Q (PB g (xw g)) (Af 0 g)) args s 0 0 (Af 0 g)) (F0 m 18 ls []) := by
  intro n
  induction n with
  | zero => intro v1 v2 v3 M hw H locs ls hl hP hS; exact absurd hw (by rw [b_X10_period_18]; exact fun h => h)
  | succ n ih =>
    intro v1 v2 v3 M hw H locs ls hl hP hS
    rw [b_X10_period_18] at hw
    refine lv_iload_n C.1 C.2.1 dX10_period_18 rfl (lv_at hl 2 rfl) ?_
    refine lv_bipush (v := 32) C.1 C.2.1 dX10_period_19 (by decide) ?_
    refine lv_icmp_gt (tgt := 44) C.1 C.2.1 dX10_period_21 (by decide) (fun h3 => ?_) (fun h3 => ?_)
    · have hw := hw.1 h3
      refine lv_bipush (v := (-2)) C.1 C.2.1 dX10_period_44 (by decide) ?_
      exact retI (wf := (xw g)) C hP hS hw dX10_period_46
    · have hw := hw.2 h3
      refine lv_iload_n C.1 C.2.1 dX10_period_24 rfl (lv_at hl 1 rfl) ?_
      refine lv_iload_n C.1 C.2.1 dX10_period_25 rfl (lv_at hl 0 rfl) ?_
      refine goI (wf := (xw g)) (runS (w := xw g M) (As := [.int v2, .int v1]) (rest := []) C lkX10_144 (c_X10_stepped l g C.2.2.2.2.2.2.2.2.2.2 v2 v1  M _ hw) hP hS rfl rfl ⟨Nat.le_of_ble_eq_true rfl, Nat.le_of_ble_eq_true rfl⟩ hl.1 rfl (Nat.le_of_ble_eq_true rfl) dX10_period_26) hS (fun r4 M4 hw H locs hP hS => ?_)
      refine lv_istore_n (lv' := [(2, .int r4), (1, .int v1), (3, .int v3)]) C.1 C.2.1 dX10_period_29 rfl hl (by decide) rfl (fun ls hl => ?_)
      refine lv_iload_n C.1 C.2.1 dX10_period_30 rfl (lv_at hl 0 rfl) ?_
      refine lv_bipush (v := 31) C.1 C.2.1 dX10_period_31 (by decide) ?_
      refine lv_icmp_ne (tgt := 38) C.1 C.2.1 dX10_period_33 (by decide) (fun h5 => ?_) (fun h5 => ?_)
      · have hw := hw.1 h5
        obtain ⟨x6, e6⟩ : ∃ y : Int32, y = (v3 + 1) := ⟨_, rfl⟩
        have hw := hw x6 e6
        refine lv_iinc (v := x6) (lv' := [(3, .int x6), (2, .int r4), (1, .int v1)]) C.1 C.2.1 dX10_period_38 hl (k := 2) rfl (by rw [e6]; rfl) (by decide) rfl (fun ls hl => ?_)
        refine lv_goto (tgt := 18) C.1 C.2.1 dX10_period_41 (by decide) ?_
        exact ih v1 r4 x6  _ hw (lv_sub hl [2, 1, 0] rfl) hP hS
      · have hw := hw.2 h5
        refine lv_iload_n C.1 C.2.1 dX10_period_36 rfl (lv_at hl 2 rfl) ?_
        exact retI (wf := (xw g)) C hP hS hw dX10_period_37
def p_X10_period (a1 : Int32) (M : Mem) (Q : Int32 → Mem → Prop) : Prop := ((a1 < 1 → (Q (-1) M)) ∧ (¬ a1 < 1 → ((a1 ≤ 31 → (∃ n18 : Nat, b_X10_period_18 Q n18 a1 31 1 M)) ∧ (¬ a1 ≤ 31 → (Q (-1) M)))))
set_option maxRecDepth 100000 in
set_option maxHeartbeats 4000000 in
theorem c_X10_period (l : Launch) (g : Geo) (gi : GI g) (a1 : Int32) (M : Mem) (Q : Int32 → Mem → Prop) (hw : p_X10_period a1 M Q) : Met l yX10_period (Cond.code yX10_period cX10_period 4 (some .int) :: bg) ({ frames := 2, cells := 0, slots := 0, locals := 42 } : Room) (va_Pc [.ref (g.2.1 (0 + 0)), .int a1] (PW g (xw g M))) (va_Qi Q (PB g (xw g)) (Af 0 g)) 0 0 (Af 0 g) := by
  refine Met.ofW (cc := cX10_period) (maxL := 4) (ret := (some .int)) (by decide +kernel) rfl ?_
  intro p e s m args below meth c s₁ B hml hv
  obtain ⟨rfl, hv⟩ := hv
  have C := CX.start (own := RX10) B hml rfl gi hv
  have hP := hv.1
  have hS : va_S (Af 0 g) s.heap s.heap [] := va_S.rf
  have hl := lv_entry ([.ref (g.2.1 (0 + 0)), .int a1]) (n := 4) (Nat.le_of_ble_eq_true rfl)
  rw [lg_entry_eq]
  generalize (lg_sl ([.ref (g.2.1 (0 + 0)), .int a1]) ++ List.replicate (4 - (lg_sl ([.ref (g.2.1 (0 + 0)), .int a1])).length) Slot.unset).toArray = ls at hl ⊢
  have hl : lv_has ls 4 [(0, .ref (g.2.1 (0 + 0))), (1, .int a1)] := hl
  unfold p_X10_period at hw
  refine lv_iload_n C.1 C.2.1 dX10_period_0 rfl (lv_at hl 1 rfl) ?_
  refine lv_iconst (v := 1) C.1 C.2.1 dX10_period_1 (by decide) ?_
  refine lv_icmp_lt (tgt := 11) C.1 C.2.1 dX10_period_2 (by decide) (fun h1 => ?_) (fun h1 => ?_)
  · have hw := hw.1 h1
    refine lv_iconst (v := (-1)) C.1 C.2.1 dX10_period_11 (by decide) ?_
    exact retI (wf := (xw g)) C hP hS hw dX10_period_12
  · have hw := hw.2 h1
    refine lv_iload_n C.1 C.2.1 dX10_period_5 rfl (lv_at hl 1 rfl) ?_
    refine lv_bipush (v := 31) C.1 C.2.1 dX10_period_6 (by decide) ?_
    refine lv_icmp_le (tgt := 13) C.1 C.2.1 dX10_period_8 (by decide) (fun h2 => ?_) (fun h2 => ?_)
    · have hw := hw.1 h2
      refine lv_bipush (v := 31) C.1 C.2.1 dX10_period_13 (by decide) ?_
      refine lv_istore_n (lv' := [(2, .int 31), (0, .ref (g.2.1 (0 + 0))), (1, .int a1)]) C.1 C.2.1 dX10_period_15 rfl hl (by decide) rfl (fun ls hl => ?_)
      refine lv_iconst (v := 1) C.1 C.2.1 dX10_period_16 (by decide) ?_
      refine lv_istore_n (lv' := [(3, .int 1), (2, .int 31), (0, .ref (g.2.1 (0 + 0))), (1, .int a1)]) C.1 C.2.1 dX10_period_17 rfl hl (by decide) rfl (fun ls hl => ?_)
      obtain ⟨n9, hw⟩ := hw
      exact k_X10_period_18 (Q := Q) C n9 a1 31 1  _ hw (lv_sub hl [3, 1, 0] rfl) hP hS
    · have hw := hw.2 h2
      refine lv_iconst (v := (-1)) C.1 C.2.1 dX10_period_11 (by decide) ?_
      exact retI (wf := (xw g)) C hP hS hw dX10_period_12
def p_X10_crossOf (a0 : Int32) (a1 : Int32) (a2 : Int32) (M : Mem) (Q : Int32 → Mem → Prop) : Prop := (p_X10_around a1 a2 M (fun r1 M1 => (p_J6_bitCount_0f7a4 ((a0 ^^^ r1)) M1 (fun r2 M2 => (Q ((31 : Int32) - ((2 : Int32) * r2)) M2)))))
set_option maxRecDepth 100000 in
set_option maxHeartbeats 4000000 in
theorem c_X10_crossOf (l : Launch) (g : Geo) (gi : GI g) (a0 : Int32) (a1 : Int32) (a2 : Int32) (M : Mem) (Q : Int32 → Mem → Prop) (hw : p_X10_crossOf a0 a1 a2 M Q) : Met l yX10_crossOf (Cond.code yX10_crossOf cX10_crossOf 3 (some .int) :: bg) ({ frames := 1, cells := 0, slots := 0, locals := 21 } : Room) (va_Pc [.int a0, .int a1, .int a2] (PW g (xw g M))) (va_Qi Q (PB g (xw g)) (Af 0 g)) 0 0 (Af 0 g) := by
  refine Met.ofW (cc := cX10_crossOf) (maxL := 3) (ret := (some .int)) (by decide +kernel) rfl ?_
  intro p e s m args below meth c s₁ B hml hv
  obtain ⟨rfl, hv⟩ := hv
  have C := CX.start (own := RX10) B hml rfl gi hv
  have hP := hv.1
  have hS : va_S (Af 0 g) s.heap s.heap [] := va_S.rf
  have hl := lv_entry ([.int a0, .int a1, .int a2]) (n := 3) (Nat.le_of_ble_eq_true rfl)
  rw [lg_entry_eq]
  generalize (lg_sl ([.int a0, .int a1, .int a2]) ++ List.replicate (3 - (lg_sl ([.int a0, .int a1, .int a2])).length) Slot.unset).toArray = ls at hl ⊢
  have hl : lv_has ls 3 [(0, .int a0), (1, .int a1), (2, .int a2)] := hl
  unfold p_X10_crossOf at hw
  refine lv_bipush (v := 31) C.1 C.2.1 dX10_crossOf_0 (by decide) ?_
  refine lv_iconst (v := 2) C.1 C.2.1 dX10_crossOf_2 (by decide) ?_
  refine lv_iload_n C.1 C.2.1 dX10_crossOf_3 rfl (lv_at hl 0 rfl) ?_
  refine lv_iload_n C.1 C.2.1 dX10_crossOf_4 rfl (lv_at hl 1 rfl) ?_
  refine lv_iload_n C.1 C.2.1 dX10_crossOf_5 rfl (lv_at hl 2 rfl) ?_
  refine goI (wf := (xw g)) (runS (w := xw g M) (As := [.int a1, .int a2]) (rest := [.int a0, .int 2, .int 31]) C lkX10_154 (c_X10_around l g C.2.2.2.2.2.2.2.2.2.2 a1 a2  M _ hw) hP hS rfl rfl ⟨Nat.le_of_ble_eq_true rfl, Nat.le_of_ble_eq_true rfl⟩ hl.1 rfl (Nat.le_of_ble_eq_true rfl) dX10_crossOf_6) hS (fun r1 M1 hw H locs hP hS => ?_)
  refine lv_ixor C.1 C.2.1 dX10_crossOf_9 ?_
  refine goI (wf := (xw g)) (runS (w := xw g M1) (As := [.int (a0 ^^^ r1)]) (rest := [.int 2, .int 31]) C lkX10_148 (c_J6_bitCount_0f7a4 l g C.2.2.2.2.2.2.2.2.2.2 ((a0 ^^^ r1))  M1 _ hw) hP hS rfl rfl ⟨Nat.le_of_ble_eq_true rfl, Nat.le_of_ble_eq_true rfl⟩ hl.1 rfl (Nat.le_of_ble_eq_true rfl) dX10_crossOf_10) hS (fun r2 M2 hw H locs hP hS => ?_)
  refine lv_imul C.1 C.2.1 dX10_crossOf_13 ?_
  refine lv_isub C.1 C.2.1 dX10_crossOf_14 ?_
  exact retI (wf := (xw g)) C hP hS hw dX10_crossOf_15
def b_X10_worstOf_5 (Q : Int32 → Mem → Prop) : Nat → Int32 → Int32 → Int32 → Int32 → Mem → Prop
  | 0, _, _, _, _, _ => False
  | n + 1, v0, v1, v3, v4, M => ((31 ≤ v4 → (Q v3 M)) ∧ (¬ 31 ≤ v4 → (p_X10_crossOf v0 v1 v4 M (fun r2 M2 => (∀ x3 : Int32, x3 = (if v3 < (if 0 ≤ r2 then r2 else 0 - r2) then (if 0 ≤ r2 then r2 else 0 - r2) else v3) → (∀ x4 : Int32, x4 = (v4 + 1) → (b_X10_worstOf_5 Q n v0 v1 x3 x4 M2)))))))
set_option maxRecDepth 100000 in
set_option maxHeartbeats 4000000 in
theorem k_X10_worstOf_5 {p : Program} {l : Launch} {e : Env} {s : State} {m : MethodId} {args : Array Value} {below : List Frame} {meth : Method} {c : Code} {g : Geo} (C : CX g p s m args meth c cX10_worstOf 5 (some .int) RX10) {Q : Int32 → Mem → Prop} : ∀ (n : Nat) (v0 : Int32) (v1 : Int32) (v3 : Int32) (v4 : Int32) (M : Mem) (hw : b_X10_worstOf_5 Q n v0 v1 v3 v4 M) {H : Heap} {locs : List Loc} {ls : Array Slot} (hl : lv_has ls 5 [(0, .int v0), (1, .int v1), (3, .int v3), (4, .int v4)]) (hP : va_P g.1 clz (xw g M) H) (hS : va_S (Af 0 g) s.heap H locs), W p l e ({ frames := 2, cells := 0, slots := 0, locals := 43 } : Room) s m args below meth c H locs 0 0 (MQ below (va_Qi Q (PB g (xw g)) (Af 0 g)) args s 0 0 (Af 0 g)) (F0 m 5 ls []) := by
  intro n
  induction n with
  | zero => intro v0 v1 v3 v4 M hw H locs ls hl hP hS; exact absurd hw (by rw [b_X10_worstOf_5]; exact fun h => h)
  | succ n ih =>
    intro v0 v1 v3 v4 M hw H locs ls hl hP hS
    rw [b_X10_worstOf_5] at hw
    refine lv_iload C.1 C.2.1 dX10_worstOf_5 (lv_at hl 3 rfl) ?_
    refine lv_bipush (v := 31) C.1 C.2.1 dX10_worstOf_7 (by decide) ?_
    refine lv_icmp_ge (tgt := 33) C.1 C.2.1 dX10_worstOf_9 (by decide) (fun h1 => ?_) (fun h1 => ?_)
    · have hw := hw.1 h1
      refine lv_iload_n C.1 C.2.1 dX10_worstOf_33 rfl (lv_at hl 2 rfl) ?_
      exact retI (wf := (xw g)) C hP hS hw dX10_worstOf_34
    · have hw := hw.2 h1
      refine lv_iload_n C.1 C.2.1 dX10_worstOf_12 rfl (lv_at hl 2 rfl) ?_
      refine lv_iload_n C.1 C.2.1 dX10_worstOf_13 rfl (lv_at hl 0 rfl) ?_
      refine lv_iload_n C.1 C.2.1 dX10_worstOf_14 rfl (lv_at hl 1 rfl) ?_
      refine lv_iload C.1 C.2.1 dX10_worstOf_15 (lv_at hl 3 rfl) ?_
      refine goI (wf := (xw g)) (runS (w := xw g M) (As := [.int v0, .int v1, .int v4]) (rest := [.int v3]) C lkX10_157 (c_X10_crossOf l g C.2.2.2.2.2.2.2.2.2.2 v0 v1 v4  M _ hw) hP hS rfl rfl ⟨Nat.le_of_ble_eq_true rfl, Nat.le_of_ble_eq_true rfl⟩ hl.1 rfl (Nat.le_of_ble_eq_true rfl) dX10_worstOf_17) hS (fun r2 M2 hw H locs hP hS => ?_)
      refine va_mabs C.1 C.2.1 (C.2.2.1.trans hl.1.symm) C.2.2.2.2.1 (C.2.2.2.2.2.1 _ (bg_of 787 (by decide +kernel) rfl)) (C.2.2.2.2.2.1 _ (bg_of 788 (by decide +kernel) rfl)) (C.2.2.2.2.2.1 _ (bg_of 108 (by decide +kernel) rfl)) (C.2.2.2.2.2.1 _ (bg_of 789 (by decide +kernel) rfl)) (Nat.le_of_ble_eq_true rfl) (Nat.le_of_ble_eq_true rfl) (Nat.zero_le _) (Nat.zero_le _) dX10_worstOf_20 ?_
      refine va_mmax C.1 C.2.1 (C.2.2.1.trans hl.1.symm) C.2.2.2.2.1 (C.2.2.2.2.2.1 _ (bg_of 790 (by decide +kernel) rfl)) (C.2.2.2.2.2.1 _ (bg_of 791 (by decide +kernel) rfl)) (C.2.2.2.2.2.1 _ (bg_of 108 (by decide +kernel) rfl)) (C.2.2.2.2.2.1 _ (bg_of 792 (by decide +kernel) rfl)) (Nat.le_of_ble_eq_true rfl) (Nat.le_of_ble_eq_true rfl) (Nat.zero_le _) (Nat.zero_le _) dX10_worstOf_23 ?_
      refine lv_topi (fun x3 e3 => ?_)
      have hw := hw x3 e3
      refine lv_istore_n (lv' := [(3, .int x3), (0, .int v0), (1, .int v1), (4, .int v4)]) C.1 C.2.1 dX10_worstOf_26 rfl hl (by decide) rfl (fun ls hl => ?_)
      obtain ⟨x4, e4⟩ : ∃ y : Int32, y = (v4 + 1) := ⟨_, rfl⟩
      have hw := hw x4 e4
      refine lv_iinc (v := x4) (lv' := [(4, .int x4), (3, .int x3), (0, .int v0), (1, .int v1)]) C.1 C.2.1 dX10_worstOf_27 hl (k := 3) rfl (by rw [e4]; rfl) (by decide) rfl (fun ls hl => ?_)
      refine lv_goto (tgt := 5) C.1 C.2.1 dX10_worstOf_30 (by decide) ?_
      exact ih v0 v1 x3 x4  _ hw (lv_sub hl [2, 3, 1, 0] rfl) hP hS
def p_X10_worstOf (a0 : Int32) (a1 : Int32) (a2 : Int32) (M : Mem) (Q : Int32 → Mem → Prop) : Prop := (∃ n5 : Nat, b_X10_worstOf_5 Q n5 a0 a1 0 a2 M)
set_option maxRecDepth 100000 in
set_option maxHeartbeats 4000000 in
theorem c_X10_worstOf (l : Launch) (g : Geo) (gi : GI g) (a0 : Int32) (a1 : Int32) (a2 : Int32) (M : Mem) (Q : Int32 → Mem → Prop) (hw : p_X10_worstOf a0 a1 a2 M Q) : Met l yX10_worstOf (Cond.code yX10_worstOf cX10_worstOf 5 (some .int) :: bg) ({ frames := 2, cells := 0, slots := 0, locals := 43 } : Room) (va_Pc [.int a0, .int a1, .int a2] (PW g (xw g M))) (va_Qi Q (PB g (xw g)) (Af 0 g)) 0 0 (Af 0 g) := by
  refine Met.ofW (cc := cX10_worstOf) (maxL := 5) (ret := (some .int)) (by decide +kernel) rfl ?_
  intro p e s m args below meth c s₁ B hml hv
  obtain ⟨rfl, hv⟩ := hv
  have C := CX.start (own := RX10) B hml rfl gi hv
  have hP := hv.1
  have hS : va_S (Af 0 g) s.heap s.heap [] := va_S.rf
  have hl := lv_entry ([.int a0, .int a1, .int a2]) (n := 5) (Nat.le_of_ble_eq_true rfl)
  rw [lg_entry_eq]
  generalize (lg_sl ([.int a0, .int a1, .int a2]) ++ List.replicate (5 - (lg_sl ([.int a0, .int a1, .int a2])).length) Slot.unset).toArray = ls at hl ⊢
  have hl : lv_has ls 5 [(0, .int a0), (1, .int a1), (2, .int a2)] := hl
  unfold p_X10_worstOf at hw
  refine lv_iconst (v := 0) C.1 C.2.1 dX10_worstOf_0 (by decide) ?_
  refine lv_istore_n (lv' := [(3, .int 0), (0, .int a0), (1, .int a1), (2, .int a2)]) C.1 C.2.1 dX10_worstOf_1 rfl hl (by decide) rfl (fun ls hl => ?_)
  refine lv_iload_n C.1 C.2.1 dX10_worstOf_2 rfl (lv_at hl 3 rfl) ?_
  refine lv_istore (lv' := [(4, .int a2), (3, .int 0), (0, .int a0), (1, .int a1), (2, .int a2)]) C.1 C.2.1 dX10_worstOf_3 hl (by decide) rfl (fun ls hl => ?_)
  obtain ⟨n9, hw⟩ := hw
  exact k_X10_worstOf_5 (Q := Q) C n9 a0 a1 0 a2  _ hw (lv_sub hl [2, 3, 1, 0] rfl) hP hS
def p_X10_cross (a1 : Int32) (a2 : Int32) (a3 : Int32) (M : Mem) (Q : Int32 → Mem → Prop) : Prop := (p_X10_isBird a1 M (fun r1 M1 => ((r1 = 0 → (Q (-99) M1)) ∧ (¬ r1 = 0 → (p_X10_isBird a2 M1 (fun r3 M3 => ((r3 = 0 → (Q (-99) M3)) ∧ (¬ r3 = 0 → ((a3 < 0 → (Q (-99) M3)) ∧ (¬ a3 < 0 → ((a3 < 31 → (∃ w7 : Nat, M3.2.2 0 0 3 = some (23 + w7) ∧ w7 < 2 ∧ (vp_in a1 5 ∧ (∃ w9 : Nat, M3.2.2 0 0 3 = some (23 + w9) ∧ w9 < 2 ∧ (vp_in a2 5 ∧ (p_X10_crossOf ((M3.1 25 (5 * w7 + (a1 : Int32).toNatClampNeg) 2)) ((M3.1 25 (5 * w9 + (a2 : Int32).toNatClampNeg) 2)) a3 M3 (fun r11 M11 => (Q r11 M11)))))))) ∧ (¬ a3 < 31 → (Q (-99) M3)))))))))))))
set_option maxRecDepth 100000 in
set_option maxHeartbeats 4000000 in
theorem c_X10_cross (l : Launch) (g : Geo) (gi : GI g) (a1 : Int32) (a2 : Int32) (a3 : Int32) (M : Mem) (Q : Int32 → Mem → Prop) (hw : p_X10_cross a1 a2 a3 M Q) : Met l yX10_cross (Cond.code yX10_cross cX10_cross 4 (some .int) :: bg) ({ frames := 2, cells := 0, slots := 0, locals := 43 } : Room) (va_Pc [.ref (g.2.1 (0 + 0)), .int a1, .int a2, .int a3] (PW g (xw g M))) (va_Qi Q (PB g (xw g)) (Af 0 g)) 0 0 (Af 0 g) := by
  refine Met.ofW (cc := cX10_cross) (maxL := 4) (ret := (some .int)) (by decide +kernel) rfl ?_
  intro p e s m args below meth c s₁ B hml hv
  obtain ⟨rfl, hv⟩ := hv
  have C := CX.start (own := RX10) B hml rfl gi hv
  have hP := hv.1
  have hS : va_S (Af 0 g) s.heap s.heap [] := va_S.rf
  have hl := lv_entry ([.ref (g.2.1 (0 + 0)), .int a1, .int a2, .int a3]) (n := 4) (Nat.le_of_ble_eq_true rfl)
  rw [lg_entry_eq]
  generalize (lg_sl ([.ref (g.2.1 (0 + 0)), .int a1, .int a2, .int a3]) ++ List.replicate (4 - (lg_sl ([.ref (g.2.1 (0 + 0)), .int a1, .int a2, .int a3])).length) Slot.unset).toArray = ls at hl ⊢
  have hl : lv_has ls 4 [(0, .ref (g.2.1 (0 + 0))), (1, .int a1), (2, .int a2), (3, .int a3)] := hl
  unfold p_X10_cross at hw
  refine lv_aload_n C.1 C.2.1 dX10_cross_0 rfl (lv_at hl 0 rfl) ?_
  refine lv_iload_n C.1 C.2.1 dX10_cross_1 rfl (lv_at hl 1 rfl) ?_
  refine goI (wf := (xw g)) (runV (w := xw g M) (As := [.int a1]) (rest := []) C lkX10_111 (c_X10_isBird l g C.2.2.2.2.2.2.2.2.2.2 a1  M _ hw) hP hS rfl rfl ⟨Nat.le_of_ble_eq_true rfl, Nat.le_of_ble_eq_true rfl⟩ (xx_0 Nat.zero_lt_one) rfl rfl hl.1 rfl (Nat.le_of_ble_eq_true rfl) dX10_cross_2) hS (fun r1 M1 hw H locs hP hS => ?_)
  obtain ⟨hw, hz1⟩ := hw
  refine lv_if_eq (tgt := 26) C.1 C.2.1 dX10_cross_5 (by decide) (fun h2 => ?_) (fun h2 => ?_)
  · have hw := hw.1 h2
    refine lv_bipush (v := (-99)) C.1 C.2.1 dX10_cross_26 (by decide) ?_
    exact retI (wf := (xw g)) C hP hS hw dX10_cross_28
  · have hw := hw.2 h2
    refine lv_aload_n C.1 C.2.1 dX10_cross_8 rfl (lv_at hl 0 rfl) ?_
    refine lv_iload_n C.1 C.2.1 dX10_cross_9 rfl (lv_at hl 2 rfl) ?_
    refine goI (wf := (xw g)) (runV (w := xw g M1) (As := [.int a2]) (rest := []) C lkX10_111 (c_X10_isBird l g C.2.2.2.2.2.2.2.2.2.2 a2  M1 _ hw) hP hS rfl rfl ⟨Nat.le_of_ble_eq_true rfl, Nat.le_of_ble_eq_true rfl⟩ (xx_0 Nat.zero_lt_one) rfl rfl hl.1 rfl (Nat.le_of_ble_eq_true rfl) dX10_cross_10) hS (fun r3 M3 hw H locs hP hS => ?_)
    obtain ⟨hw, hz3⟩ := hw
    refine lv_if_eq (tgt := 26) C.1 C.2.1 dX10_cross_13 (by decide) (fun h4 => ?_) (fun h4 => ?_)
    · have hw := hw.1 h4
      refine lv_bipush (v := (-99)) C.1 C.2.1 dX10_cross_26 (by decide) ?_
      exact retI (wf := (xw g)) C hP hS hw dX10_cross_28
    · have hw := hw.2 h4
      refine lv_iload_n C.1 C.2.1 dX10_cross_16 rfl (lv_at hl 3 rfl) ?_
      refine lv_if_lt (tgt := 26) C.1 C.2.1 dX10_cross_17 (by decide) (fun h5 => ?_) (fun h5 => ?_)
      · have hw := hw.1 h5
        refine lv_bipush (v := (-99)) C.1 C.2.1 dX10_cross_26 (by decide) ?_
        exact retI (wf := (xw g)) C hP hS hw dX10_cross_28
      · have hw := hw.2 h5
        refine lv_iload_n C.1 C.2.1 dX10_cross_20 rfl (lv_at hl 3 rfl) ?_
        refine lv_bipush (v := 31) C.1 C.2.1 dX10_cross_21 (by decide) ?_
        refine lv_icmp_lt (tgt := 29) C.1 C.2.1 dX10_cross_23 (by decide) (fun h6 => ?_) (fun h6 => ?_)
        · have hw := hw.1 h6
          refine lv_aload_n C.1 C.2.1 dX10_cross_29 rfl (lv_at hl 0 rfl) ?_
          obtain ⟨w7, h7, hb7, hw⟩ := hw
          refine gX10_23f C hP Nat.zero_lt_one h7 dX10_cross_30 ?_
          refine gX10_127 C hP hb7 dX10_cross_33 ?_
          refine lv_iload_n C.1 C.2.1 dX10_cross_36 rfl (lv_at hl 1 rfl) ?_
          obtain ⟨h8, hw⟩ := hw
          have hb8 : (5 * w7 + (a1 : Int32).toNatClampNeg) < 10 := by have h9 := vp_lt h8; have h8 := hb7; omega
          refine al_24 C hP hb7 h8 dX10_cross_37 ?_
          refine gX10_141 C hP hb8 dX10_cross_38 ?_
          refine lv_aload_n C.1 C.2.1 dX10_cross_41 rfl (lv_at hl 0 rfl) ?_
          obtain ⟨w9, h9, hb9, hw⟩ := hw
          refine gX10_23f C hP Nat.zero_lt_one h9 dX10_cross_42 ?_
          refine gX10_127 C hP hb9 dX10_cross_45 ?_
          refine lv_iload_n C.1 C.2.1 dX10_cross_48 rfl (lv_at hl 2 rfl) ?_
          obtain ⟨h10, hw⟩ := hw
          have hb10 : (5 * w9 + (a2 : Int32).toNatClampNeg) < 10 := by have h9 := vp_lt h10; have h8 := hb9; omega
          refine al_24 C hP hb9 h10 dX10_cross_49 ?_
          refine gX10_141 C hP hb10 dX10_cross_50 ?_
          refine lv_iload_n C.1 C.2.1 dX10_cross_53 rfl (lv_at hl 3 rfl) ?_
          refine goI (wf := (xw g)) (runS (w := xw g M3) (As := [.int (M3.1 25 (5 * w7 + (a1 : Int32).toNatClampNeg) 2), .int (M3.1 25 (5 * w9 + (a2 : Int32).toNatClampNeg) 2), .int a3]) (rest := []) C lkX10_157 (c_X10_crossOf l g C.2.2.2.2.2.2.2.2.2.2 ((M3.1 25 (5 * w7 + (a1 : Int32).toNatClampNeg) 2)) ((M3.1 25 (5 * w9 + (a2 : Int32).toNatClampNeg) 2)) a3  M3 _ hw) hP hS rfl rfl ⟨Nat.le_of_ble_eq_true rfl, Nat.le_of_ble_eq_true rfl⟩ hl.1 rfl (Nat.le_of_ble_eq_true rfl) dX10_cross_54) hS (fun r11 M11 hw H locs hP hS => ?_)
          exact retI (wf := (xw g)) C hP hS hw dX10_cross_57
        · have hw := hw.2 h6
          refine lv_bipush (v := (-99)) C.1 C.2.1 dX10_cross_26 (by decide) ?_
          exact retI (wf := (xw g)) C hP hS hw dX10_cross_28
def b_X10_worst_53 (Q : Int32 → Mem → Prop) (s0 : Int32) (s1 : Int32) (s2 : Int32) (M : Mem) : Prop := (p_X10_worstOf s0 s1 s2 M (fun r10 M10 => (Q r10 M10)))
set_option maxRecDepth 100000 in
set_option maxHeartbeats 4000000 in
theorem k_X10_worst_53 {p : Program} {l : Launch} {e : Env} {s : State} {m : MethodId} {args : Array Value} {below : List Frame} {meth : Method} {c : Code} {g : Geo} (C : CX g p s m args meth c cX10_worst 3 (some .int) RX10) {Q : Int32 → Mem → Prop} (s0 : Int32) (s1 : Int32) (s2 : Int32) (M : Mem) (hw : b_X10_worst_53 Q s0 s1 s2 M) {H : Heap} {locs : List Loc} {ls : Array Slot} (hl : lv_has ls 3 []) (hP : va_P g.1 clz (xw g M) H) (hS : va_S (Af 0 g) s.heap H locs) : W p l e ({ frames := 3, cells := 0, slots := 0, locals := 67 } : Room) s m args below meth c H locs 0 0 (MQ below (va_Qi Q (PB g (xw g)) (Af 0 g)) args s 0 0 (Af 0 g)) (F0 m 53 ls [.int s2, .int s1, .int s0]) := by
  unfold b_X10_worst_53 at hw
  refine goI (wf := (xw g)) (runS (w := xw g M) (As := [.int s0, .int s1, .int s2]) (rest := []) C lkX10_169 (c_X10_worstOf l g C.2.2.2.2.2.2.2.2.2.2 s0 s1 s2  M _ hw) hP hS rfl rfl ⟨Nat.le_of_ble_eq_true rfl, Nat.le_of_ble_eq_true rfl⟩ hl.1 rfl (Nat.le_of_ble_eq_true rfl) dX10_worst_53) hS (fun r10 M10 hw H locs hP hS => ?_)
  exact retI (wf := (xw g)) C hP hS hw dX10_worst_56
def p_X10_worst (a1 : Int32) (a2 : Int32) (M : Mem) (Q : Int32 → Mem → Prop) : Prop := (p_X10_isBird a1 M (fun r1 M1 => ((r1 = 0 → (Q (-2) M1)) ∧ (¬ r1 = 0 → (p_X10_isBird a2 M1 (fun r3 M3 => ((¬ r3 = 0 → (∃ w5 : Nat, M3.2.2 0 0 3 = some (23 + w5) ∧ w5 < 2 ∧ (vp_in a1 5 ∧ (∃ w7 : Nat, M3.2.2 0 0 3 = some (23 + w7) ∧ w7 < 2 ∧ (vp_in a2 5 ∧ ((¬ a1 = a2 → (b_X10_worst_53 Q ((M3.1 25 (5 * w5 + (a1 : Int32).toNatClampNeg) 2)) ((M3.1 25 (5 * w7 + (a2 : Int32).toNatClampNeg) 2)) 0 M3)) ∧ (a1 = a2 → (b_X10_worst_53 Q ((M3.1 25 (5 * w5 + (a1 : Int32).toNatClampNeg) 2)) ((M3.1 25 (5 * w7 + (a2 : Int32).toNatClampNeg) 2)) 1 M3)))))))) ∧ (r3 = 0 → (Q (-2) M3)))))))))
set_option maxRecDepth 100000 in
set_option maxHeartbeats 4000000 in
theorem c_X10_worst (l : Launch) (g : Geo) (gi : GI g) (a1 : Int32) (a2 : Int32) (M : Mem) (Q : Int32 → Mem → Prop) (hw : p_X10_worst a1 a2 M Q) : Met l yX10_worst (Cond.code yX10_worst cX10_worst 3 (some .int) :: bg) ({ frames := 3, cells := 0, slots := 0, locals := 67 } : Room) (va_Pc [.ref (g.2.1 (0 + 0)), .int a1, .int a2] (PW g (xw g M))) (va_Qi Q (PB g (xw g)) (Af 0 g)) 0 0 (Af 0 g) := by
  refine Met.ofW (cc := cX10_worst) (maxL := 3) (ret := (some .int)) (by decide +kernel) rfl ?_
  intro p e s m args below meth c s₁ B hml hv
  obtain ⟨rfl, hv⟩ := hv
  have C := CX.start (own := RX10) B hml rfl gi hv
  have hP := hv.1
  have hS : va_S (Af 0 g) s.heap s.heap [] := va_S.rf
  have hl := lv_entry ([.ref (g.2.1 (0 + 0)), .int a1, .int a2]) (n := 3) (Nat.le_of_ble_eq_true rfl)
  rw [lg_entry_eq]
  generalize (lg_sl ([.ref (g.2.1 (0 + 0)), .int a1, .int a2]) ++ List.replicate (3 - (lg_sl ([.ref (g.2.1 (0 + 0)), .int a1, .int a2])).length) Slot.unset).toArray = ls at hl ⊢
  have hl : lv_has ls 3 [(0, .ref (g.2.1 (0 + 0))), (1, .int a1), (2, .int a2)] := hl
  unfold p_X10_worst at hw
  refine lv_aload_n C.1 C.2.1 dX10_worst_0 rfl (lv_at hl 0 rfl) ?_
  refine lv_iload_n C.1 C.2.1 dX10_worst_1 rfl (lv_at hl 1 rfl) ?_
  refine goI (wf := (xw g)) (runV (w := xw g M) (As := [.int a1]) (rest := []) C lkX10_111 (c_X10_isBird l g C.2.2.2.2.2.2.2.2.2.2 a1  M _ hw) hP hS rfl rfl ⟨Nat.le_of_ble_eq_true rfl, Nat.le_of_ble_eq_true rfl⟩ (xx_0 Nat.zero_lt_one) rfl rfl hl.1 rfl (Nat.le_of_ble_eq_true rfl) dX10_worst_2) hS (fun r1 M1 hw H locs hP hS => ?_)
  obtain ⟨hw, hz1⟩ := hw
  refine lv_if_eq (tgt := 16) C.1 C.2.1 dX10_worst_5 (by decide) (fun h2 => ?_) (fun h2 => ?_)
  · have hw := hw.1 h2
    refine lv_bipush (v := (-2)) C.1 C.2.1 dX10_worst_16 (by decide) ?_
    exact retI (wf := (xw g)) C hP hS hw dX10_worst_18
  · have hw := hw.2 h2
    refine lv_aload_n C.1 C.2.1 dX10_worst_8 rfl (lv_at hl 0 rfl) ?_
    refine lv_iload_n C.1 C.2.1 dX10_worst_9 rfl (lv_at hl 2 rfl) ?_
    refine goI (wf := (xw g)) (runV (w := xw g M1) (As := [.int a2]) (rest := []) C lkX10_111 (c_X10_isBird l g C.2.2.2.2.2.2.2.2.2.2 a2  M1 _ hw) hP hS rfl rfl ⟨Nat.le_of_ble_eq_true rfl, Nat.le_of_ble_eq_true rfl⟩ (xx_0 Nat.zero_lt_one) rfl rfl hl.1 rfl (Nat.le_of_ble_eq_true rfl) dX10_worst_10) hS (fun r3 M3 hw H locs hP hS => ?_)
    obtain ⟨hw, hz3⟩ := hw
    refine lv_if_ne (tgt := 19) C.1 C.2.1 dX10_worst_13 (by decide) (fun h4 => ?_) (fun h4 => ?_)
    · have hw := hw.1 h4
      refine lv_aload_n C.1 C.2.1 dX10_worst_19 rfl (lv_at hl 0 rfl) ?_
      obtain ⟨w5, h5, hb5, hw⟩ := hw
      refine gX10_23f C hP Nat.zero_lt_one h5 dX10_worst_20 ?_
      refine gX10_127 C hP hb5 dX10_worst_23 ?_
      refine lv_iload_n C.1 C.2.1 dX10_worst_26 rfl (lv_at hl 1 rfl) ?_
      obtain ⟨h6, hw⟩ := hw
      have hb6 : (5 * w5 + (a1 : Int32).toNatClampNeg) < 10 := by have h9 := vp_lt h6; have h8 := hb5; omega
      refine al_24 C hP hb5 h6 dX10_worst_27 ?_
      refine gX10_141 C hP hb6 dX10_worst_28 ?_
      refine lv_aload_n C.1 C.2.1 dX10_worst_31 rfl (lv_at hl 0 rfl) ?_
      obtain ⟨w7, h7, hb7, hw⟩ := hw
      refine gX10_23f C hP Nat.zero_lt_one h7 dX10_worst_32 ?_
      refine gX10_127 C hP hb7 dX10_worst_35 ?_
      refine lv_iload_n C.1 C.2.1 dX10_worst_38 rfl (lv_at hl 2 rfl) ?_
      obtain ⟨h8, hw⟩ := hw
      have hb8 : (5 * w7 + (a2 : Int32).toNatClampNeg) < 10 := by have h9 := vp_lt h8; have h8 := hb7; omega
      refine al_24 C hP hb7 h8 dX10_worst_39 ?_
      refine gX10_141 C hP hb8 dX10_worst_40 ?_
      refine lv_iload_n C.1 C.2.1 dX10_worst_43 rfl (lv_at hl 1 rfl) ?_
      refine lv_iload_n C.1 C.2.1 dX10_worst_44 rfl (lv_at hl 2 rfl) ?_
      refine lv_icmp_ne (tgt := 52) C.1 C.2.1 dX10_worst_45 (by decide) (fun h9 => ?_) (fun h9 => ?_)
      · have hw := hw.1 h9
        refine lv_iconst (v := 0) C.1 C.2.1 dX10_worst_52 (by decide) ?_
        exact k_X10_worst_53 (Q := Q) C ((M3.1 25 (5 * w5 + (a1 : Int32).toNatClampNeg) 2)) ((M3.1 25 (5 * w7 + (a2 : Int32).toNatClampNeg) 2)) 0  _ hw (lv_sub hl [] rfl) hP hS
      · have hw := hw.2 h9
        refine lv_iconst (v := 1) C.1 C.2.1 dX10_worst_48 (by decide) ?_
        refine lv_goto (tgt := 53) C.1 C.2.1 dX10_worst_49 (by decide) ?_
        exact k_X10_worst_53 (Q := Q) C ((M3.1 25 (5 * w5 + (a1 : Int32).toNatClampNeg) 2)) ((M3.1 25 (5 * w7 + (a2 : Int32).toNatClampNeg) 2)) 1  _ hw (lv_sub hl [] rfl) hP hS
    · have hw := hw.2 h4
      refine lv_bipush (v := (-2)) C.1 C.2.1 dX10_worst_16 (by decide) ?_
      exact retI (wf := (xw g)) C hP hS hw dX10_worst_18
def b_X10_quiet_84 (Q : Int32 → Mem → Prop) (k7 : Int32 → Int32 → Int32 → Mem → Prop) (v1 : Int32) (v2 : Int32) (v3 : Int32) (M : Mem) : Prop := (∀ x7 : Int32, x7 = (v3 + 1) → (k7 v1 v2 x7 M))
set_option maxRecDepth 100000 in
set_option maxHeartbeats 4000000 in
theorem k_X10_quiet_84 {p : Program} {l : Launch} {e : Env} {s : State} {m : MethodId} {args : Array Value} {below : List Frame} {meth : Method} {c : Code} {g : Geo} (C : CX g p s m args meth c cX10_quiet 7 (some .int) RX10) {Q : Int32 → Mem → Prop} {k7 : Int32 → Int32 → Int32 → Mem → Prop} (hk7 : ∀ (v1 : Int32) (v2 : Int32) (v3 : Int32) (M : Mem), k7 v1 v2 v3 M → ∀ (H : Heap) (locs : List Loc) (ls : Array Slot), lv_has ls 7 [(0, .ref (g.2.1 (0 + 0))), (1, .int v1), (2, .int v2), (3, .int v3)] → va_P g.1 clz (xw g M) H → va_S (Af 0 g) s.heap H locs → W p l e ({ frames := 3, cells := 0, slots := 0, locals := 67 } : Room) s m args below meth c H locs 0 0 (MQ below (va_Qi Q (PB g (xw g)) (Af 0 g)) args s 0 0 (Af 0 g)) (F0 m 7 ls [])) (v1 : Int32) (v2 : Int32) (v3 : Int32) (M : Mem) (hw : b_X10_quiet_84 Q k7 v1 v2 v3 M) {H : Heap} {locs : List Loc} {ls : Array Slot} (hl : lv_has ls 7 [(0, .ref (g.2.1 (0 + 0))), (1, .int v1), (2, .int v2), (3, .int v3)]) (hP : va_P g.1 clz (xw g M) H) (hS : va_S (Af 0 g) s.heap H locs) : W p l e ({ frames := 3, cells := 0, slots := 0, locals := 67 } : Room) s m args below meth c H locs 0 0 (MQ below (va_Qi Q (PB g (xw g)) (Af 0 g)) args s 0 0 (Af 0 g)) (F0 m 84 ls []) := by
  unfold b_X10_quiet_84 at hw
  obtain ⟨x7, e7⟩ : ∃ y : Int32, y = (v3 + 1) := ⟨_, rfl⟩
  have hw := hw x7 e7
  refine lv_iinc (v := x7) (lv' := [(3, .int x7), (0, .ref (g.2.1 (0 + 0))), (1, .int v1), (2, .int v2)]) C.1 C.2.1 dX10_quiet_84 hl (k := 3) rfl (by rw [e7]; rfl) (by decide) rfl (fun ls hl => ?_)
  refine lv_goto (tgt := 7) C.1 C.2.1 dX10_quiet_87 (by decide) ?_
  exact hk7 v1 v2 x7  _ hw _ _ _ (lv_sub hl [1, 2, 3, 0] rfl) hP hS
def b_X10_quiet_73 (Q : Int32 → Mem → Prop) (k7 : Int32 → Int32 → Int32 → Mem → Prop) (v1 : Int32) (v2 : Int32) (v3 : Int32) (v5 : Int32) (M : Mem) : Prop := ((v2 ≤ v5 → (b_X10_quiet_84 Q k7 v1 v2 v3 M)) ∧ (¬ v2 ≤ v5 → (b_X10_quiet_84 Q k7 v3 v5 v3 M)))
set_option maxRecDepth 100000 in
set_option maxHeartbeats 4000000 in
theorem k_X10_quiet_73 {p : Program} {l : Launch} {e : Env} {s : State} {m : MethodId} {args : Array Value} {below : List Frame} {meth : Method} {c : Code} {g : Geo} (C : CX g p s m args meth c cX10_quiet 7 (some .int) RX10) {Q : Int32 → Mem → Prop} {k7 : Int32 → Int32 → Int32 → Mem → Prop} (hk7 : ∀ (v1 : Int32) (v2 : Int32) (v3 : Int32) (M : Mem), k7 v1 v2 v3 M → ∀ (H : Heap) (locs : List Loc) (ls : Array Slot), lv_has ls 7 [(0, .ref (g.2.1 (0 + 0))), (1, .int v1), (2, .int v2), (3, .int v3)] → va_P g.1 clz (xw g M) H → va_S (Af 0 g) s.heap H locs → W p l e ({ frames := 3, cells := 0, slots := 0, locals := 67 } : Room) s m args below meth c H locs 0 0 (MQ below (va_Qi Q (PB g (xw g)) (Af 0 g)) args s 0 0 (Af 0 g)) (F0 m 7 ls [])) (v1 : Int32) (v2 : Int32) (v3 : Int32) (v5 : Int32) (M : Mem) (hw : b_X10_quiet_73 Q k7 v1 v2 v3 v5 M) {H : Heap} {locs : List Loc} {ls : Array Slot} (hl : lv_has ls 7 [(0, .ref (g.2.1 (0 + 0))), (1, .int v1), (2, .int v2), (3, .int v3), (5, .int v5)]) (hP : va_P g.1 clz (xw g M) H) (hS : va_S (Af 0 g) s.heap H locs) : W p l e ({ frames := 3, cells := 0, slots := 0, locals := 67 } : Room) s m args below meth c H locs 0 0 (MQ below (va_Qi Q (PB g (xw g)) (Af 0 g)) args s 0 0 (Af 0 g)) (F0 m 73 ls []) := by
  unfold b_X10_quiet_73 at hw
  refine lv_iload C.1 C.2.1 dX10_quiet_73 (lv_at hl 4 rfl) ?_
  refine lv_iload_n C.1 C.2.1 dX10_quiet_75 rfl (lv_at hl 2 rfl) ?_
  refine lv_icmp_ge (tgt := 84) C.1 C.2.1 dX10_quiet_76 (by decide) (fun h6 => ?_) (fun h6 => ?_)
  · have hw := hw.1 h6
    exact k_X10_quiet_84 (Q := Q) C hk7 v1 v2 v3  _ hw (lv_sub hl [0, 1, 2, 3] rfl) hP hS
  · have hw := hw.2 h6
    refine lv_iload C.1 C.2.1 dX10_quiet_79 (lv_at hl 4 rfl) ?_
    refine lv_istore_n (lv' := [(2, .int v5), (0, .ref (g.2.1 (0 + 0))), (1, .int v1), (3, .int v3), (5, .int v5)]) C.1 C.2.1 dX10_quiet_81 rfl hl (by decide) rfl (fun ls hl => ?_)
    refine lv_iload_n C.1 C.2.1 dX10_quiet_82 rfl (lv_at hl 3 rfl) ?_
    refine lv_istore_n (lv' := [(1, .int v3), (2, .int v5), (0, .ref (g.2.1 (0 + 0))), (3, .int v3), (5, .int v5)]) C.1 C.2.1 dX10_quiet_83 rfl hl (by decide) rfl (fun ls hl => ?_)
    exact k_X10_quiet_84 (Q := Q) C hk7 v3 v5 v3  _ hw (lv_sub hl [2, 0, 1, 3] rfl) hP hS
def b_X10_quiet_29 (Q : Int32 → Mem → Prop) (k7 : Int32 → Int32 → Int32 → Mem → Prop) : Nat → Int32 → Int32 → Int32 → Int32 → Int32 → Int32 → Mem → Prop
  | 0, _, _, _, _, _, _, _ => False
  | n + 1, v1, v2, v3, v4, v5, v6, M => (∃ w4 : Nat, M.2.2 0 0 3 = some (23 + w4) ∧ w4 < 2 ∧ (((M.1 23 w4 1) ≤ v6 → (b_X10_quiet_73 Q k7 v1 v2 v3 v5 M)) ∧ (¬ (M.1 23 w4 1) ≤ v6 → (∃ w8 : Nat, M.2.2 0 0 3 = some (23 + w8) ∧ w8 < 2 ∧ (vp_in v6 5 ∧ (p_X10_worstOf v4 ((M.1 25 (5 * w8 + (v6 : Int32).toNatClampNeg) 2)) 0 M (fun r10 M10 => (∀ x11 : Int32, x11 = (if v5 < r10 then r10 else v5) → (∀ x12 : Int32, x12 = (v6 + 1) → (b_X10_quiet_29 Q k7 n v1 v2 v3 v4 x11 x12 M10))))))))))
set_option maxRecDepth 100000 in
set_option maxHeartbeats 4000000 in
theorem k_X10_quiet_29 {p : Program} {l : Launch} {e : Env} {s : State} {m : MethodId} {args : Array Value} {below : List Frame} {meth : Method} {c : Code} {g : Geo} (C : CX g p s m args meth c cX10_quiet 7 (some .int) RX10) {Q : Int32 → Mem → Prop} {k7 : Int32 → Int32 → Int32 → Mem → Prop} (hk7 : ∀ (v1 : Int32) (v2 : Int32) (v3 : Int32) (M : Mem), k7 v1 v2 v3 M → ∀ (H : Heap) (locs : List Loc) (ls : Array Slot), lv_has ls 7 [(0, .ref (g.2.1 (0 + 0))), (1, .int v1), (2, .int v2), (3, .int v3)] → va_P g.1 clz (xw g M) H → va_S (Af 0 g) s.heap H locs → W p l e ({ frames := 3, cells := 0, slots := 0, locals := 67 } : Room) s m args below meth c H locs 0 0 (MQ below (va_Qi Q (PB g (xw g)) (Af 0 g)) args s 0 0 (Af 0 g)) (F0 m 7 ls [])) : ∀ (n : Nat) (v1 : Int32) (v2 : Int32) (v3 : Int32) (v4 : Int32) (v5 : Int32) (v6 : Int32) (M : Mem) (hw : b_X10_quiet_29 Q k7 n v1 v2 v3 v4 v5 v6 M) {H : Heap} {locs : List Loc} {ls : Array Slot} (hl : lv_has ls 7 [(0, .ref (g.2.1 (0 + 0))), (1, .int v1), (2, .int v2), (3, .int v3), (4, .int v4), (5, .int v5), (6, .int v6)]) (hP : va_P g.1 clz (xw g M) H) (hS : va_S (Af 0 g) s.heap H locs), W p l e ({ frames := 3, cells := 0, slots := 0, locals := 67 } : Room) s m args below meth c H locs 0 0 (MQ below (va_Qi Q (PB g (xw g)) (Af 0 g)) args s 0 0 (Af 0 g)) (F0 m 29 ls []) := by
  intro n
  induction n with
  | zero => intro v1 v2 v3 v4 v5 v6 M hw H locs ls hl hP hS; exact absurd hw (by rw [b_X10_quiet_29]; exact fun h => h)
  | succ n ih =>
    intro v1 v2 v3 v4 v5 v6 M hw H locs ls hl hP hS
    rw [b_X10_quiet_29] at hw
    refine lv_iload C.1 C.2.1 dX10_quiet_29 (lv_at hl 6 rfl) ?_
    refine lv_aload_n C.1 C.2.1 dX10_quiet_31 rfl (lv_at hl 0 rfl) ?_
    obtain ⟨w4, h4, hb4, hw⟩ := hw
    refine gX10_23f C hP Nat.zero_lt_one h4 dX10_quiet_32 ?_
    refine gX10_135 C hP hb4 dX10_quiet_35 ?_
    refine lv_icmp_ge (tgt := 73) C.1 C.2.1 dX10_quiet_38 (by decide) (fun h5 => ?_) (fun h5 => ?_)
    · have hw := hw.1 h5
      exact k_X10_quiet_73 (Q := Q) C hk7 v1 v2 v3 v5  _ hw (lv_sub hl [0, 1, 2, 3, 5] rfl) hP hS
    · have hw := hw.2 h5
      refine lv_iload C.1 C.2.1 dX10_quiet_41 (lv_at hl 5 rfl) ?_
      refine lv_iload C.1 C.2.1 dX10_quiet_43 (lv_at hl 4 rfl) ?_
      refine lv_aload_n C.1 C.2.1 dX10_quiet_45 rfl (lv_at hl 0 rfl) ?_
      obtain ⟨w8, h8, hb8, hw⟩ := hw
      refine gX10_23f C hP Nat.zero_lt_one h8 dX10_quiet_46 ?_
      refine gX10_127 C hP hb8 dX10_quiet_49 ?_
      refine lv_iload C.1 C.2.1 dX10_quiet_52 (lv_at hl 6 rfl) ?_
      obtain ⟨h9, hw⟩ := hw
      have hb9 : (5 * w8 + (v6 : Int32).toNatClampNeg) < 10 := by have h9 := vp_lt h9; have h8 := hb8; omega
      refine al_24 C hP hb8 h9 dX10_quiet_54 ?_
      refine gX10_141 C hP hb9 dX10_quiet_55 ?_
      refine lv_iconst (v := 0) C.1 C.2.1 dX10_quiet_58 (by decide) ?_
      refine goI (wf := (xw g)) (runS (w := xw g M) (As := [.int v4, .int (M.1 25 (5 * w8 + (v6 : Int32).toNatClampNeg) 2), .int 0]) (rest := [.int v5]) C lkX10_169 (c_X10_worstOf l g C.2.2.2.2.2.2.2.2.2.2 v4 ((M.1 25 (5 * w8 + (v6 : Int32).toNatClampNeg) 2)) 0  M _ hw) hP hS rfl rfl ⟨Nat.le_of_ble_eq_true rfl, Nat.le_of_ble_eq_true rfl⟩ hl.1 rfl (Nat.le_of_ble_eq_true rfl) dX10_quiet_59) hS (fun r10 M10 hw H locs hP hS => ?_)
      refine va_mmax C.1 C.2.1 (C.2.2.1.trans hl.1.symm) C.2.2.2.2.1 (C.2.2.2.2.2.1 _ (bg_of 790 (by decide +kernel) rfl)) (C.2.2.2.2.2.1 _ (bg_of 791 (by decide +kernel) rfl)) (C.2.2.2.2.2.1 _ (bg_of 108 (by decide +kernel) rfl)) (C.2.2.2.2.2.1 _ (bg_of 792 (by decide +kernel) rfl)) (Nat.le_of_ble_eq_true rfl) (Nat.le_of_ble_eq_true rfl) (Nat.zero_le _) (Nat.zero_le _) dX10_quiet_62 ?_
      refine lv_topi (fun x11 e11 => ?_)
      have hw := hw x11 e11
      refine lv_istore (lv' := [(5, .int x11), (0, .ref (g.2.1 (0 + 0))), (1, .int v1), (2, .int v2), (3, .int v3), (4, .int v4), (6, .int v6)]) C.1 C.2.1 dX10_quiet_65 hl (by decide) rfl (fun ls hl => ?_)
      obtain ⟨x12, e12⟩ : ∃ y : Int32, y = (v6 + 1) := ⟨_, rfl⟩
      have hw := hw x12 e12
      refine lv_iinc (v := x12) (lv' := [(6, .int x12), (5, .int x11), (0, .ref (g.2.1 (0 + 0))), (1, .int v1), (2, .int v2), (3, .int v3), (4, .int v4)]) C.1 C.2.1 dX10_quiet_67 hl (k := 6) rfl (by rw [e12]; rfl) (by decide) rfl (fun ls hl => ?_)
      refine lv_goto (tgt := 29) C.1 C.2.1 dX10_quiet_70 (by decide) ?_
      exact ih v1 v2 v3 v4 x11 x12  _ hw (lv_sub hl [2, 3, 4, 5, 6, 1, 0] rfl) hP hS
def b_X10_quiet_7 (Q : Int32 → Mem → Prop) : Nat → Int32 → Int32 → Int32 → Mem → Prop
  | 0, _, _, _, _ => False
  | n + 1, v1, v2, v3, M => ((31 ≤ v3 → (Q v1 M)) ∧ (¬ 31 ≤ v3 → (∃ w2 : Nat, M.2.2 0 0 3 = some (23 + w2) ∧ w2 < 2 ∧ (p_X9_codeOf w2 v3 M (fun r3 M3 => (∃ n29 : Nat, b_X10_quiet_29 Q (fun v1 v2 v3 M => b_X10_quiet_7 Q n v1 v2 v3 M) n29 v1 v2 v3 r3 0 0 M3))))))
set_option maxRecDepth 100000 in
set_option maxHeartbeats 4000000 in
theorem k_X10_quiet_7 {p : Program} {l : Launch} {e : Env} {s : State} {m : MethodId} {args : Array Value} {below : List Frame} {meth : Method} {c : Code} {g : Geo} (C : CX g p s m args meth c cX10_quiet 7 (some .int) RX10) {Q : Int32 → Mem → Prop} : ∀ (n : Nat) (v1 : Int32) (v2 : Int32) (v3 : Int32) (M : Mem) (hw : b_X10_quiet_7 Q n v1 v2 v3 M) {H : Heap} {locs : List Loc} {ls : Array Slot} (hl : lv_has ls 7 [(0, .ref (g.2.1 (0 + 0))), (1, .int v1), (2, .int v2), (3, .int v3)]) (hP : va_P g.1 clz (xw g M) H) (hS : va_S (Af 0 g) s.heap H locs), W p l e ({ frames := 3, cells := 0, slots := 0, locals := 67 } : Room) s m args below meth c H locs 0 0 (MQ below (va_Qi Q (PB g (xw g)) (Af 0 g)) args s 0 0 (Af 0 g)) (F0 m 7 ls []) := by
  intro n
  induction n with
  | zero => intro v1 v2 v3 M hw H locs ls hl hP hS; exact absurd hw (by rw [b_X10_quiet_7]; exact fun h => h)
  | succ n ih =>
    intro v1 v2 v3 M hw H locs ls hl hP hS
    rw [b_X10_quiet_7] at hw
    refine lv_iload_n C.1 C.2.1 dX10_quiet_7 rfl (lv_at hl 3 rfl) ?_
    refine lv_bipush (v := 31) C.1 C.2.1 dX10_quiet_8 (by decide) ?_
    refine lv_icmp_ge (tgt := 90) C.1 C.2.1 dX10_quiet_10 (by decide) (fun h1 => ?_) (fun h1 => ?_)
    · have hw := hw.1 h1
      refine lv_iload_n C.1 C.2.1 dX10_quiet_90 rfl (lv_at hl 1 rfl) ?_
      exact retI (wf := (xw g)) C hP hS hw dX10_quiet_91
    · have hw := hw.2 h1
      refine lv_aload_n C.1 C.2.1 dX10_quiet_13 rfl (lv_at hl 0 rfl) ?_
      obtain ⟨w2, h2, hb2, hw⟩ := hw
      refine gX10_23f C hP Nat.zero_lt_one h2 dX10_quiet_14 ?_
      refine lv_iload_n C.1 C.2.1 dX10_quiet_17 rfl (lv_at hl 3 rfl) ?_
      refine goI (wf := (xw g)) (runV (w := xw g M) (As := [.int v3]) (rest := []) C lkX10_172 (c_X9_codeOf l g C.2.2.2.2.2.2.2.2.2.2 w2 v3 hb2 M _ hw) hP hS rfl rfl ⟨Nat.le_of_ble_eq_true rfl, Nat.le_of_ble_eq_true rfl⟩ (xx_23 hb2) rfl rfl hl.1 rfl (Nat.le_of_ble_eq_true rfl) dX10_quiet_18) hS (fun r3 M3 hw H locs hP hS => ?_)
      refine lv_istore (lv' := [(4, .int r3), (0, .ref (g.2.1 (0 + 0))), (1, .int v1), (2, .int v2), (3, .int v3)]) C.1 C.2.1 dX10_quiet_21 hl (by decide) rfl (fun ls hl => ?_)
      refine lv_iconst (v := 0) C.1 C.2.1 dX10_quiet_23 (by decide) ?_
      refine lv_istore (lv' := [(5, .int 0), (4, .int r3), (0, .ref (g.2.1 (0 + 0))), (1, .int v1), (2, .int v2), (3, .int v3)]) C.1 C.2.1 dX10_quiet_24 hl (by decide) rfl (fun ls hl => ?_)
      refine lv_iconst (v := 0) C.1 C.2.1 dX10_quiet_26 (by decide) ?_
      refine lv_istore (lv' := [(6, .int 0), (5, .int 0), (4, .int r3), (0, .ref (g.2.1 (0 + 0))), (1, .int v1), (2, .int v2), (3, .int v3)]) C.1 C.2.1 dX10_quiet_27 hl (by decide) rfl (fun ls hl => ?_)
      obtain ⟨n9, hw⟩ := hw
      exact k_X10_quiet_29 (Q := Q) C (fun v1 v2 v3  M hw H locs ls hl hP hS => ih v1 v2 v3  M hw hl hP hS) n9 v1 v2 v3 r3 0 0  _ hw (lv_sub hl [3, 4, 5, 6, 2, 1, 0] rfl) hP hS
def p_X10_quiet (M : Mem) (Q : Int32 → Mem → Prop) : Prop := (∃ n7 : Nat, b_X10_quiet_7 Q n7 0 32 0 M)
set_option maxRecDepth 100000 in
set_option maxHeartbeats 4000000 in
theorem c_X10_quiet (l : Launch) (g : Geo) (gi : GI g) (M : Mem) (Q : Int32 → Mem → Prop) (hw : p_X10_quiet  M Q) : Met l yX10_quiet (Cond.code yX10_quiet cX10_quiet 7 (some .int) :: bg) ({ frames := 3, cells := 0, slots := 0, locals := 67 } : Room) (va_Pc [.ref (g.2.1 (0 + 0))] (PW g (xw g M))) (va_Qi Q (PB g (xw g)) (Af 0 g)) 0 0 (Af 0 g) := by
  refine Met.ofW (cc := cX10_quiet) (maxL := 7) (ret := (some .int)) (by decide +kernel) rfl ?_
  intro p e s m args below meth c s₁ B hml hv
  obtain ⟨rfl, hv⟩ := hv
  have C := CX.start (own := RX10) B hml rfl gi hv
  have hP := hv.1
  have hS : va_S (Af 0 g) s.heap s.heap [] := va_S.rf
  have hl := lv_entry ([.ref (g.2.1 (0 + 0))]) (n := 7) (Nat.le_of_ble_eq_true rfl)
  rw [lg_entry_eq]
  generalize (lg_sl ([.ref (g.2.1 (0 + 0))]) ++ List.replicate (7 - (lg_sl ([.ref (g.2.1 (0 + 0))])).length) Slot.unset).toArray = ls at hl ⊢
  have hl : lv_has ls 7 [(0, .ref (g.2.1 (0 + 0)))] := hl
  unfold p_X10_quiet at hw
  refine lv_iconst (v := 0) C.1 C.2.1 dX10_quiet_0 (by decide) ?_
  refine lv_istore_n (lv' := [(1, .int 0), (0, .ref (g.2.1 (0 + 0)))]) C.1 C.2.1 dX10_quiet_1 rfl hl (by decide) rfl (fun ls hl => ?_)
  refine lv_bipush (v := 32) C.1 C.2.1 dX10_quiet_2 (by decide) ?_
  refine lv_istore_n (lv' := [(2, .int 32), (1, .int 0), (0, .ref (g.2.1 (0 + 0)))]) C.1 C.2.1 dX10_quiet_4 rfl hl (by decide) rfl (fun ls hl => ?_)
  refine lv_iconst (v := 0) C.1 C.2.1 dX10_quiet_5 (by decide) ?_
  refine lv_istore_n (lv' := [(3, .int 0), (2, .int 32), (1, .int 0), (0, .ref (g.2.1 (0 + 0)))]) C.1 C.2.1 dX10_quiet_6 rfl hl (by decide) rfl (fun ls hl => ?_)
  obtain ⟨n9, hw⟩ := hw
  exact k_X10_quiet_7 (Q := Q) C n9 0 32 0  _ hw (lv_sub hl [3, 2, 1, 0] rfl) hP hS
def p_X10_sample (a1 : Int32) (a2 : Int32) (M : Mem) (Q : Int32 → Mem → Prop) : Prop := ((a1 < 0 → (Q 0 M)) ∧ (¬ a1 < 0 → ((12400 ≤ a1 → (Q 0 M)) ∧ (¬ 12400 ≤ a1 → ((a2 < 0 → (Q 0 M)) ∧ (¬ a2 < 0 → ((a2 ≤ 1 → (∃ w5 : Nat, M.2.2 0 0 3 = some (23 + w5) ∧ w5 < 2 ∧ (p_X2_hear w5 ((a1 / 62)) M (fun M6 => ((¬ a2 = 0 → (vp_in (a1 - a1 / 62 * 62) 62 ∧ (Q (M6.1 7 0 ((a1 - a1 / 62 * 62) : Int32).toNatClampNeg) M6))) ∧ (a2 = 0 → (vp_in (a1 - a1 / 62 * 62) 62 ∧ (Q (M6.1 6 0 ((a1 - a1 / 62 * 62) : Int32).toNatClampNeg) M6)))))))) ∧ (¬ a2 ≤ 1 → (Q 0 M)))))))))
set_option maxRecDepth 100000 in
set_option maxHeartbeats 4000000 in
theorem c_X10_sample (l : Launch) (g : Geo) (gi : GI g) (a1 : Int32) (a2 : Int32) (M : Mem) (Q : Int32 → Mem → Prop) (hw : p_X10_sample a1 a2 M Q) : Met l yX10_sample (Cond.code yX10_sample cX10_sample 3 (some .int) :: bg) ({ frames := 4, cells := 0, slots := 0, locals := 99 } : Room) (va_Pc [.ref (g.2.1 (0 + 0)), .int a1, .int a2] (PW g (xw g M))) (va_Qi Q (PB g (xw g)) (Af 0 g)) 0 0 (Af 0 g) := by
  refine Met.ofW (cc := cX10_sample) (maxL := 3) (ret := (some .int)) (by decide +kernel) rfl ?_
  intro p e s m args below meth c s₁ B hml hv
  obtain ⟨rfl, hv⟩ := hv
  have C := CX.start (own := RX10) B hml rfl gi hv
  have hP := hv.1
  have hS : va_S (Af 0 g) s.heap s.heap [] := va_S.rf
  have hl := lv_entry ([.ref (g.2.1 (0 + 0)), .int a1, .int a2]) (n := 3) (Nat.le_of_ble_eq_true rfl)
  rw [lg_entry_eq]
  generalize (lg_sl ([.ref (g.2.1 (0 + 0)), .int a1, .int a2]) ++ List.replicate (3 - (lg_sl ([.ref (g.2.1 (0 + 0)), .int a1, .int a2])).length) Slot.unset).toArray = ls at hl ⊢
  have hl : lv_has ls 3 [(0, .ref (g.2.1 (0 + 0))), (1, .int a1), (2, .int a2)] := hl
  unfold p_X10_sample at hw
  refine lv_iload_n C.1 C.2.1 dX10_sample_0 rfl (lv_at hl 1 rfl) ?_
  refine lv_if_lt (tgt := 20) C.1 C.2.1 dX10_sample_1 (by decide) (fun h1 => ?_) (fun h1 => ?_)
  · have hw := hw.1 h1
    refine lv_iconst (v := 0) C.1 C.2.1 dX10_sample_20 (by decide) ?_
    exact retI (wf := (xw g)) C hP hS hw dX10_sample_21
  · have hw := hw.2 h1
    refine lv_iload_n C.1 C.2.1 dX10_sample_4 rfl (lv_at hl 1 rfl) ?_
    refine lv_sipush (v := 12400) C.1 C.2.1 dX10_sample_5 (by decide) ?_
    refine lv_icmp_ge (tgt := 20) C.1 C.2.1 dX10_sample_8 (by decide) (fun h2 => ?_) (fun h2 => ?_)
    · have hw := hw.1 h2
      refine lv_iconst (v := 0) C.1 C.2.1 dX10_sample_20 (by decide) ?_
      exact retI (wf := (xw g)) C hP hS hw dX10_sample_21
    · have hw := hw.2 h2
      refine lv_iload_n C.1 C.2.1 dX10_sample_11 rfl (lv_at hl 2 rfl) ?_
      refine lv_if_lt (tgt := 20) C.1 C.2.1 dX10_sample_12 (by decide) (fun h3 => ?_) (fun h3 => ?_)
      · have hw := hw.1 h3
        refine lv_iconst (v := 0) C.1 C.2.1 dX10_sample_20 (by decide) ?_
        exact retI (wf := (xw g)) C hP hS hw dX10_sample_21
      · have hw := hw.2 h3
        refine lv_iload_n C.1 C.2.1 dX10_sample_15 rfl (lv_at hl 2 rfl) ?_
        refine lv_iconst (v := 1) C.1 C.2.1 dX10_sample_16 (by decide) ?_
        refine lv_icmp_le (tgt := 22) C.1 C.2.1 dX10_sample_17 (by decide) (fun h4 => ?_) (fun h4 => ?_)
        · have hw := hw.1 h4
          refine lv_aload_n C.1 C.2.1 dX10_sample_22 rfl (lv_at hl 0 rfl) ?_
          refine gX10_33 C hP Nat.zero_lt_one dX10_sample_23 ?_
          refine lv_aload_n C.1 C.2.1 dX10_sample_26 rfl (lv_at hl 0 rfl) ?_
          obtain ⟨w5, h5, hb5, hw⟩ := hw
          refine gX10_23f C hP Nat.zero_lt_one h5 dX10_sample_27 ?_
          refine lv_iload_n C.1 C.2.1 dX10_sample_30 rfl (lv_at hl 1 rfl) ?_
          refine lv_bipush (v := 62) C.1 C.2.1 dX10_sample_31 (by decide) ?_
          refine lv_idiv C.1 C.2.1 dX10_sample_33 (by decide) ?_
          refine goV (wf := (xw g)) (runV (w := xw g M) (As := [.ref (g.2.1 (23 + w5)), .int (a1 / 62)]) (rest := []) C lkX10_175 (c_X2_hear l g C.2.2.2.2.2.2.2.2.2.2 w5 ((a1 / 62)) hb5 M _ hw) hP hS rfl rfl ⟨Nat.le_of_ble_eq_true rfl, Nat.le_of_ble_eq_true rfl⟩ (xx_5 Nat.zero_lt_one) rfl rfl hl.1 rfl (Nat.le_of_ble_eq_true rfl) dX10_sample_34) hS (fun M6 hw H locs hP hS => ?_)
          refine lv_iload_n C.1 C.2.1 dX10_sample_37 rfl (lv_at hl 2 rfl) ?_
          refine lv_if_ne (tgt := 56) C.1 C.2.1 dX10_sample_38 (by decide) (fun h7 => ?_) (fun h7 => ?_)
          · have hw := hw.1 h7
            refine lv_aload_n C.1 C.2.1 dX10_sample_56 rfl (lv_at hl 0 rfl) ?_
            refine gX10_33 C hP Nat.zero_lt_one dX10_sample_57 ?_
            refine gX10_182 C hP Nat.zero_lt_one dX10_sample_60 ?_
            refine lv_iload_n C.1 C.2.1 dX10_sample_63 rfl (lv_at hl 1 rfl) ?_
            refine lv_bipush (v := 62) C.1 C.2.1 dX10_sample_64 (by decide) ?_
            refine lv_irem C.1 C.2.1 dX10_sample_66 (by decide) ?_
            obtain ⟨h8, hw⟩ := hw
            refine al_7 C hP Nat.zero_lt_one h8 dX10_sample_67 ?_
            exact retI (wf := (xw g)) C hP hS hw dX10_sample_68
          · have hw := hw.2 h7
            refine lv_aload_n C.1 C.2.1 dX10_sample_41 rfl (lv_at hl 0 rfl) ?_
            refine gX10_33 C hP Nat.zero_lt_one dX10_sample_42 ?_
            refine gX10_179 C hP Nat.zero_lt_one dX10_sample_45 ?_
            refine lv_iload_n C.1 C.2.1 dX10_sample_48 rfl (lv_at hl 1 rfl) ?_
            refine lv_bipush (v := 62) C.1 C.2.1 dX10_sample_49 (by decide) ?_
            refine lv_irem C.1 C.2.1 dX10_sample_51 (by decide) ?_
            obtain ⟨h9, hw⟩ := hw
            refine al_6 C hP Nat.zero_lt_one h9 dX10_sample_52 ?_
            refine lv_goto (tgt := 68) C.1 C.2.1 dX10_sample_53 (by decide) ?_
            exact retI (wf := (xw g)) C hP hS hw dX10_sample_68
        · have hw := hw.2 h4
          refine lv_iconst (v := 0) C.1 C.2.1 dX10_sample_20 (by decide) ?_
          exact retI (wf := (xw g)) C hP hS hw dX10_sample_21
