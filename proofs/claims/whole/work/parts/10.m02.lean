def p_X5_forget (M : Mem) (Q : Mem → Prop) : Prop := (∀ M1 : Mem, M1 = sI M 21 0 2 0 → (Q M1))
set_option maxRecDepth 100000 in
set_option maxHeartbeats 4000000 in
theorem c_X5_forget (l : Launch) (g : Geo) (gi : GI g) (M : Mem) (Q : Mem → Prop) (hw : p_X5_forget  M Q) : Met l yX5_forget (Cond.code yX5_forget cX5_forget 1 none :: bg) ({ frames := 0, cells := 0, slots := 0, locals := 0 } : Room) (va_Pc [.ref (g.2.1 (21 + 0))] (PW g (xw g M))) (va_Qv Q (PB g (xw g)) (Af 0 g)) 0 0 (Af 0 g) := by
  refine Met.ofW (cc := cX5_forget) (maxL := 1) (ret := none) (by decide +kernel) rfl ?_
  intro p e s m args below meth c s₁ B hml hv
  obtain ⟨rfl, hv⟩ := hv
  have C := CX.start (own := RX5) B hml rfl gi hv
  have hP := hv.1
  have hS : va_S (Af 0 g) s.heap s.heap [] := va_S.rf
  have hl := lv_entry ([.ref (g.2.1 (21 + 0))]) (n := 1) (Nat.le_of_ble_eq_true rfl)
  rw [lg_entry_eq]
  generalize (lg_sl ([.ref (g.2.1 (21 + 0))]) ++ List.replicate (1 - (lg_sl ([.ref (g.2.1 (21 + 0))])).length) Slot.unset).toArray = ls at hl ⊢
  have hl : lv_has ls 1 [(0, .ref (g.2.1 (21 + 0)))] := hl
  unfold p_X5_forget at hw
  refine lv_aload_n C.1 C.2.1 dX5_forget_0 rfl (lv_at hl 0 rfl) ?_
  refine lv_iconst (v := 0) C.1 C.2.1 dX5_forget_1 (by decide) ?_
  refine pX5_18 C hP hS Nat.zero_lt_one dX5_forget_2 (fun M1 e1 H locs hP hS => ?_)
  have hw := hw M1 e1
  exact retV (wf := (xw g)) C hP hS hw dX5_forget_5
def b_X8_copyFrom_41 (Q : Mem → Prop) : Nat → Nat → Nat → Int32 → Mem → Prop
  | 0, _, _, _, _ => False
  | n + 1, v0, v1, v2, M => ((5 ≤ v2 → (Q M)) ∧ (¬ 5 ≤ v2 → (vp_in v2 5 ∧ (vp_in v2 5 ∧ (∀ M5 : Mem, M5 = sI M 29 v0 (v2 : Int32).toNatClampNeg (M.1 29 v1 (v2 : Int32).toNatClampNeg) → (∀ x6 : Int32, x6 = (v2 + 1) → (b_X8_copyFrom_41 Q n v0 v1 x6 M5)))))))
set_option maxRecDepth 100000 in
set_option maxHeartbeats 4000000 in
theorem k_X8_copyFrom_41 {p : Program} {l : Launch} {e : Env} {s : State} {m : MethodId} {args : Array Value} {below : List Frame} {meth : Method} {c : Code} {g : Geo} (C : CX g p s m args meth c cX8_copyFrom 3 none RX8) {Q : Mem → Prop} : ∀ (n : Nat) (v0 : Nat) (v1 : Nat) (v2 : Int32) (hv0 : v0 < 13) (hv1 : v1 < 13) (M : Mem) (hw : b_X8_copyFrom_41 Q n v0 v1 v2 M) {H : Heap} {locs : List Loc} {ls : Array Slot} (hl : lv_has ls 3 [(0, .ref (g.2.1 (47 + v0))), (1, .ref (g.2.1 (47 + v1))), (2, .int v2)]) (hP : va_P g.1 clz (xw g M) H) (hS : va_S (Af 0 g) s.heap H locs), W p l e ({ frames := 1, cells := 0, slots := 0, locals := 21 } : Room) s m args below meth c H locs 0 0 (MQ below (va_Qv Q (PB g (xw g)) (Af 0 g)) args s 0 0 (Af 0 g)) (F0 m 41 ls []) := by
  intro n
  induction n with
  | zero => intro v0 v1 v2 hv0 hv1 M hw H locs ls hl hP hS; exact absurd hw (by rw [b_X8_copyFrom_41]; exact fun h => h)
  | succ n ih =>
    intro v0 v1 v2 hv0 hv1 M hw H locs ls hl hP hS
    rw [b_X8_copyFrom_41] at hw
    refine lv_iload_n C.1 C.2.1 dX8_copyFrom_41 rfl (lv_at hl 2 rfl) ?_
    refine lv_aload_n C.1 C.2.1 dX8_copyFrom_42 rfl (lv_at hl 0 rfl) ?_
    refine gX8_17 C hP hv0 dX8_copyFrom_43 ?_
    refine an_29 C hP hv0 dX8_copyFrom_46 ?_
    refine lv_icmp_ge (tgt := 68) C.1 C.2.1 dX8_copyFrom_47 (by decide) (fun h3 => ?_) (fun h3 => ?_)
    · have hw := hw.1 h3
      exact retV (wf := (xw g)) C hP hS hw dX8_copyFrom_68
    · have hw := hw.2 h3
      refine lv_aload_n C.1 C.2.1 dX8_copyFrom_50 rfl (lv_at hl 0 rfl) ?_
      refine gX8_17 C hP hv0 dX8_copyFrom_51 ?_
      refine lv_iload_n C.1 C.2.1 dX8_copyFrom_54 rfl (lv_at hl 2 rfl) ?_
      refine lv_aload_n C.1 C.2.1 dX8_copyFrom_55 rfl (lv_at hl 1 rfl) ?_
      refine gX8_17 C hP hv1 dX8_copyFrom_56 ?_
      refine lv_iload_n C.1 C.2.1 dX8_copyFrom_59 rfl (lv_at hl 2 rfl) ?_
      obtain ⟨h4, hw⟩ := hw
      refine al_29 C hP hv1 h4 dX8_copyFrom_60 ?_
      obtain ⟨h5, hw⟩ := hw
      refine as_29 C hP hS hv0 h5 dX8_copyFrom_61 (fun M5 e5 H locs hP hS => ?_)
      have hw := hw M5 e5
      obtain ⟨x6, e6⟩ : ∃ y : Int32, y = (v2 + 1) := ⟨_, rfl⟩
      have hw := hw x6 e6
      refine lv_iinc (v := x6) (lv' := [(2, .int x6), (0, .ref (g.2.1 (47 + v0))), (1, .ref (g.2.1 (47 + v1)))]) C.1 C.2.1 dX8_copyFrom_62 hl (k := 2) rfl (by rw [e6]; rfl) (by decide) rfl (fun ls hl => ?_)
      refine lv_goto (tgt := 41) C.1 C.2.1 dX8_copyFrom_65 (by decide) ?_
      exact ih v0 v1 x6 hv0 hv1 _ hw (lv_sub hl [1, 2, 0] rfl) hP hS
def b_X8_copyFrom_39 (Q : Mem → Prop) (v0 : Nat) (v1 : Nat) (M : Mem) : Prop := (∃ n41 : Nat, b_X8_copyFrom_41 Q n41 v0 v1 0 M)
set_option maxRecDepth 100000 in
set_option maxHeartbeats 4000000 in
theorem k_X8_copyFrom_39 {p : Program} {l : Launch} {e : Env} {s : State} {m : MethodId} {args : Array Value} {below : List Frame} {meth : Method} {c : Code} {g : Geo} (C : CX g p s m args meth c cX8_copyFrom 3 none RX8) {Q : Mem → Prop} (v0 : Nat) (v1 : Nat) (hv0 : v0 < 13) (hv1 : v1 < 13) (M : Mem) (hw : b_X8_copyFrom_39 Q v0 v1 M) {H : Heap} {locs : List Loc} {ls : Array Slot} (hl : lv_has ls 3 [(0, .ref (g.2.1 (47 + v0))), (1, .ref (g.2.1 (47 + v1)))]) (hP : va_P g.1 clz (xw g M) H) (hS : va_S (Af 0 g) s.heap H locs) : W p l e ({ frames := 1, cells := 0, slots := 0, locals := 21 } : Room) s m args below meth c H locs 0 0 (MQ below (va_Qv Q (PB g (xw g)) (Af 0 g)) args s 0 0 (Af 0 g)) (F0 m 39 ls []) := by
  unfold b_X8_copyFrom_39 at hw
  refine lv_iconst (v := 0) C.1 C.2.1 dX8_copyFrom_39 (by decide) ?_
  refine lv_istore_n (lv' := [(2, .int 0), (0, .ref (g.2.1 (47 + v0))), (1, .ref (g.2.1 (47 + v1)))]) C.1 C.2.1 dX8_copyFrom_40 rfl hl (by decide) rfl (fun ls hl => ?_)
  obtain ⟨n9, hw⟩ := hw
  exact k_X8_copyFrom_41 (Q := Q) C n9 v0 v1 0 hv0 hv1 _ hw (lv_sub hl [1, 2, 0] rfl) hP hS
def b_X8_copyFrom_10 (Q : Mem → Prop) : Nat → Nat → Nat → Int32 → Mem → Prop
  | 0, _, _, _, _ => False
  | n + 1, v0, v1, v2, M => (((M.1 27 v0 1) ≤ v2 → (b_X8_copyFrom_39 Q v0 v1 M)) ∧ (¬ (M.1 27 v0 1) ≤ v2 → (vp_in v2 4 ∧ (vp_in v2 4 ∧ (p_X1_copyFrom ((4 * v0 + (v2 : Int32).toNatClampNeg)) ((4 * v1 + (v2 : Int32).toNatClampNeg)) M (fun M9 => (∀ x10 : Int32, x10 = (v2 + 1) → (b_X8_copyFrom_10 Q n v0 v1 x10 M9))))))))
set_option maxRecDepth 100000 in
set_option maxHeartbeats 4000000 in
theorem k_X8_copyFrom_10 {p : Program} {l : Launch} {e : Env} {s : State} {m : MethodId} {args : Array Value} {below : List Frame} {meth : Method} {c : Code} {g : Geo} (C : CX g p s m args meth c cX8_copyFrom 3 none RX8) {Q : Mem → Prop} : ∀ (n : Nat) (v0 : Nat) (v1 : Nat) (v2 : Int32) (hv0 : v0 < 13) (hv1 : v1 < 13) (M : Mem) (hw : b_X8_copyFrom_10 Q n v0 v1 v2 M) {H : Heap} {locs : List Loc} {ls : Array Slot} (hl : lv_has ls 3 [(0, .ref (g.2.1 (47 + v0))), (1, .ref (g.2.1 (47 + v1))), (2, .int v2)]) (hP : va_P g.1 clz (xw g M) H) (hS : va_S (Af 0 g) s.heap H locs), W p l e ({ frames := 1, cells := 0, slots := 0, locals := 21 } : Room) s m args below meth c H locs 0 0 (MQ below (va_Qv Q (PB g (xw g)) (Af 0 g)) args s 0 0 (Af 0 g)) (F0 m 10 ls []) := by
  intro n
  induction n with
  | zero => intro v0 v1 v2 hv0 hv1 M hw H locs ls hl hP hS; exact absurd hw (by rw [b_X8_copyFrom_10]; exact fun h => h)
  | succ n ih =>
    intro v0 v1 v2 hv0 hv1 M hw H locs ls hl hP hS
    rw [b_X8_copyFrom_10] at hw
    refine lv_iload_n C.1 C.2.1 dX8_copyFrom_10 rfl (lv_at hl 2 rfl) ?_
    refine lv_aload_n C.1 C.2.1 dX8_copyFrom_11 rfl (lv_at hl 0 rfl) ?_
    refine gX8_25 C hP hv0 dX8_copyFrom_12 ?_
    refine lv_icmp_ge (tgt := 39) C.1 C.2.1 dX8_copyFrom_15 (by decide) (fun h2 => ?_) (fun h2 => ?_)
    · have hw := hw.1 h2
      exact k_X8_copyFrom_39 (Q := Q) C v0 v1 hv0 hv1 _ hw (lv_sub hl [0, 1] rfl) hP hS
    · have hw := hw.2 h2
      refine lv_aload_n C.1 C.2.1 dX8_copyFrom_18 rfl (lv_at hl 0 rfl) ?_
      refine gX8_11 C hP hv0 dX8_copyFrom_19 ?_
      refine lv_iload_n C.1 C.2.1 dX8_copyFrom_22 rfl (lv_at hl 2 rfl) ?_
      obtain ⟨h7, hw⟩ := hw
      have hb7 : (4 * v0 + (v2 : Int32).toNatClampNeg) < 52 := by have h9 := vp_lt h7; have h8 := hv0; omega
      refine al_28 C hP hv0 h7 dX8_copyFrom_23 ?_
      refine lv_aload_n C.1 C.2.1 dX8_copyFrom_24 rfl (lv_at hl 1 rfl) ?_
      refine gX8_11 C hP hv1 dX8_copyFrom_25 ?_
      refine lv_iload_n C.1 C.2.1 dX8_copyFrom_28 rfl (lv_at hl 2 rfl) ?_
      obtain ⟨h8, hw⟩ := hw
      have hb8 : (4 * v1 + (v2 : Int32).toNatClampNeg) < 52 := by have h9 := vp_lt h8; have h8 := hv1; omega
      refine al_28 C hP hv1 h8 dX8_copyFrom_29 ?_
      refine goV (wf := (xw g)) (runV (w := xw g M) (As := [.ref (g.2.1 (86 + (4 * v1 + (v2 : Int32).toNatClampNeg)))]) (rest := []) C lkX8_29 (c_X1_copyFrom l g C.2.2.2.2.2.2.2.2.2.2 ((4 * v0 + (v2 : Int32).toNatClampNeg)) ((4 * v1 + (v2 : Int32).toNatClampNeg)) hb7 hb8 M _ hw) hP hS rfl rfl ⟨Nat.le_of_ble_eq_true rfl, Nat.le_of_ble_eq_true rfl⟩ (xx_30 hb7) rfl rfl hl.1 rfl (Nat.le_of_ble_eq_true rfl) dX8_copyFrom_30) hS (fun M9 hw H locs hP hS => ?_)
      obtain ⟨x10, e10⟩ : ∃ y : Int32, y = (v2 + 1) := ⟨_, rfl⟩
      have hw := hw x10 e10
      refine lv_iinc (v := x10) (lv' := [(2, .int x10), (0, .ref (g.2.1 (47 + v0))), (1, .ref (g.2.1 (47 + v1)))]) C.1 C.2.1 dX8_copyFrom_33 hl (k := 2) rfl (by rw [e10]; rfl) (by decide) rfl (fun ls hl => ?_)
      refine lv_goto (tgt := 10) C.1 C.2.1 dX8_copyFrom_36 (by decide) ?_
      exact ih v0 v1 x10 hv0 hv1 _ hw (lv_sub hl [1, 2, 0] rfl) hP hS
def p_X8_copyFrom (a0 : Nat) (a1 : Nat) (M : Mem) (Q : Mem → Prop) : Prop := (∀ M1 : Mem, M1 = sI M 27 a0 1 (M.1 27 a1 1) → (∃ n10 : Nat, b_X8_copyFrom_10 Q n10 a0 a1 0 M1))
set_option maxRecDepth 100000 in
set_option maxHeartbeats 4000000 in
theorem c_X8_copyFrom (l : Launch) (g : Geo) (gi : GI g) (a0 : Nat) (a1 : Nat) (ha0 : a0 < 13) (ha1 : a1 < 13) (M : Mem) (Q : Mem → Prop) (hw : p_X8_copyFrom a0 a1 M Q) : Met l yX8_copyFrom (Cond.code yX8_copyFrom cX8_copyFrom 3 none :: bg) ({ frames := 1, cells := 0, slots := 0, locals := 21 } : Room) (va_Pc [.ref (g.2.1 (47 + a0)), .ref (g.2.1 (47 + a1))] (PW g (xw g M))) (va_Qv Q (PB g (xw g)) (Af 0 g)) 0 0 (Af 0 g) := by
  refine Met.ofW (cc := cX8_copyFrom) (maxL := 3) (ret := none) (by decide +kernel) rfl ?_
  intro p e s m args below meth c s₁ B hml hv
  obtain ⟨rfl, hv⟩ := hv
  have C := CX.start (own := RX8) B hml rfl gi hv
  have hP := hv.1
  have hS : va_S (Af 0 g) s.heap s.heap [] := va_S.rf
  have hl := lv_entry ([.ref (g.2.1 (47 + a0)), .ref (g.2.1 (47 + a1))]) (n := 3) (Nat.le_of_ble_eq_true rfl)
  rw [lg_entry_eq]
  generalize (lg_sl ([.ref (g.2.1 (47 + a0)), .ref (g.2.1 (47 + a1))]) ++ List.replicate (3 - (lg_sl ([.ref (g.2.1 (47 + a0)), .ref (g.2.1 (47 + a1))])).length) Slot.unset).toArray = ls at hl ⊢
  have hl : lv_has ls 3 [(0, .ref (g.2.1 (47 + a0))), (1, .ref (g.2.1 (47 + a1)))] := hl
  unfold p_X8_copyFrom at hw
  refine lv_aload_n C.1 C.2.1 dX8_copyFrom_0 rfl (lv_at hl 0 rfl) ?_
  refine lv_aload_n C.1 C.2.1 dX8_copyFrom_1 rfl (lv_at hl 1 rfl) ?_
  refine gX8_25 C hP ha1 dX8_copyFrom_2 ?_
  refine pX8_25 C hP hS ha0 dX8_copyFrom_5 (fun M1 e1 H locs hP hS => ?_)
  have hw := hw M1 e1
  refine lv_iconst (v := 0) C.1 C.2.1 dX8_copyFrom_8 (by decide) ?_
  refine lv_istore_n (lv' := [(2, .int 0), (0, .ref (g.2.1 (47 + a0))), (1, .ref (g.2.1 (47 + a1)))]) C.1 C.2.1 dX8_copyFrom_9 rfl hl (by decide) rfl (fun ls hl => ?_)
  obtain ⟨n9, hw⟩ := hw
  exact k_X8_copyFrom_10 (Q := Q) C n9 a0 a1 0 ha0 ha1 _ hw (lv_sub hl [1, 2, 0] rfl) hP hS
def p_X5_push (a1 : Nat) (M : Mem) (Q : Mem → Prop) : Prop := (∀ M1 : Mem, M1 = sI M 21 0 1 (((M.1 21 0 1) + 1) - ((M.1 21 0 1) + 1) / 10 * 10) → (vp_in (M1.1 21 0 1) 10 ∧ (p_X8_copyFrom ((3 + ((M1.1 21 0 1) : Int32).toNatClampNeg)) a1 M1 (fun M3 => (∀ M4 : Mem, M4 = sI M3 21 0 2 (if ((M3.1 21 0 2) + 1) < 10 then ((M3.1 21 0 2) + 1) else 10) → (Q M4))))))
set_option maxRecDepth 100000 in
set_option maxHeartbeats 4000000 in
theorem c_X5_push (l : Launch) (g : Geo) (gi : GI g) (a1 : Nat) (ha1 : a1 < 13) (M : Mem) (Q : Mem → Prop) (hw : p_X5_push a1 M Q) : Met l yX5_push (Cond.code yX5_push cX5_push 2 none :: bg) ({ frames := 2, cells := 0, slots := 0, locals := 43 } : Room) (va_Pc [.ref (g.2.1 (21 + 0)), .ref (g.2.1 (47 + a1))] (PW g (xw g M))) (va_Qv Q (PB g (xw g)) (Af 0 g)) 0 0 (Af 0 g) := by
  refine Met.ofW (cc := cX5_push) (maxL := 2) (ret := none) (by decide +kernel) rfl ?_
  intro p e s m args below meth c s₁ B hml hv
  obtain ⟨rfl, hv⟩ := hv
  have C := CX.start (own := RX5) B hml rfl gi hv
  have hP := hv.1
  have hS : va_S (Af 0 g) s.heap s.heap [] := va_S.rf
  have hl := lv_entry ([.ref (g.2.1 (21 + 0)), .ref (g.2.1 (47 + a1))]) (n := 2) (Nat.le_of_ble_eq_true rfl)
  rw [lg_entry_eq]
  generalize (lg_sl ([.ref (g.2.1 (21 + 0)), .ref (g.2.1 (47 + a1))]) ++ List.replicate (2 - (lg_sl ([.ref (g.2.1 (21 + 0)), .ref (g.2.1 (47 + a1))])).length) Slot.unset).toArray = ls at hl ⊢
  have hl : lv_has ls 2 [(0, .ref (g.2.1 (21 + 0))), (1, .ref (g.2.1 (47 + a1)))] := hl
  unfold p_X5_push at hw
  refine lv_aload_n C.1 C.2.1 dX5_push_0 rfl (lv_at hl 0 rfl) ?_
  refine lv_aload_n C.1 C.2.1 dX5_push_1 rfl (lv_at hl 0 rfl) ?_
  refine gX5_22 C hP Nat.zero_lt_one dX5_push_2 ?_
  refine lv_iconst (v := 1) C.1 C.2.1 dX5_push_5 (by decide) ?_
  refine lv_iadd C.1 C.2.1 dX5_push_6 ?_
  refine lv_bipush (v := 10) C.1 C.2.1 dX5_push_7 (by decide) ?_
  refine lv_irem C.1 C.2.1 dX5_push_9 (by decide) ?_
  refine pX5_22 C hP hS Nat.zero_lt_one dX5_push_10 (fun M1 e1 H locs hP hS => ?_)
  have hw := hw M1 e1
  refine lv_aload_n C.1 C.2.1 dX5_push_13 rfl (lv_at hl 0 rfl) ?_
  refine gX5_11 C hP Nat.zero_lt_one dX5_push_14 ?_
  refine lv_aload_n C.1 C.2.1 dX5_push_17 rfl (lv_at hl 0 rfl) ?_
  refine gX5_22 C hP Nat.zero_lt_one dX5_push_18 ?_
  obtain ⟨h2, hw⟩ := hw
  have hb2 : (3 + ((M1.1 21 0 1) : Int32).toNatClampNeg) < 13 := by have h9 := vp_lt h2; have h8 := (rfl : 0 = 0); omega
  refine al_22 C hP Nat.zero_lt_one h2 dX5_push_21 ?_
  refine lv_aload_n C.1 C.2.1 dX5_push_22 rfl (lv_at hl 1 rfl) ?_
  refine goV (wf := (xw g)) (runV (w := xw g M1) (As := [.ref (g.2.1 (47 + a1))]) (rest := []) C lkX5_25 (c_X8_copyFrom l g C.2.2.2.2.2.2.2.2.2.2 ((3 + ((M1.1 21 0 1) : Int32).toNatClampNeg)) a1 hb2 ha1 M1 _ hw) hP hS rfl rfl ⟨Nat.le_of_ble_eq_true rfl, Nat.le_of_ble_eq_true rfl⟩ (xx_27 hb2) rfl rfl hl.1 rfl (Nat.le_of_ble_eq_true rfl) dX5_push_23) hS (fun M3 hw H locs hP hS => ?_)
  refine lv_aload_n C.1 C.2.1 dX5_push_26 rfl (lv_at hl 0 rfl) ?_
  refine lv_bipush (v := 10) C.1 C.2.1 dX5_push_27 (by decide) ?_
  refine lv_aload_n C.1 C.2.1 dX5_push_29 rfl (lv_at hl 0 rfl) ?_
  refine gX5_18 C hP Nat.zero_lt_one dX5_push_30 ?_
  refine lv_iconst (v := 1) C.1 C.2.1 dX5_push_33 (by decide) ?_
  refine lv_iadd C.1 C.2.1 dX5_push_34 ?_
  refine va_mmin C.1 C.2.1 (C.2.2.1.trans hl.1.symm) C.2.2.2.2.1 (C.2.2.2.2.2.1 _ (bg_of 970 (by decide +kernel) rfl)) (C.2.2.2.2.2.1 _ (bg_of 638 (by decide +kernel) rfl)) (C.2.2.2.2.2.1 _ (bg_of 108 (by decide +kernel) rfl)) (C.2.2.2.2.2.1 _ (bg_of 639 (by decide +kernel) rfl)) (Nat.le_of_ble_eq_true rfl) (Nat.le_of_ble_eq_true rfl) (Nat.zero_le _) (Nat.zero_le _) dX5_push_35 ?_
  refine pX5_18 C hP hS Nat.zero_lt_one dX5_push_38 (fun M4 e4 H locs hP hS => ?_)
  have hw := hw M4 e4
  exact retV (wf := (xw g)) C hP hS hw dX5_push_41
def p_X5_pop (a1 : Nat) (M : Mem) (Q : Mem → Prop) : Prop := (((M.1 21 0 2) ≤ 0 → (Q M)) ∧ (¬ (M.1 21 0 2) ≤ 0 → (vp_in (M.1 21 0 1) 10 ∧ (p_X8_copyFrom a1 ((3 + ((M.1 21 0 1) : Int32).toNatClampNeg)) M (fun M3 => (∀ M4 : Mem, M4 = sI M3 21 0 1 ((((M3.1 21 0 1) + 10) - 1) - (((M3.1 21 0 1) + 10) - 1) / 10 * 10) → (∀ M5 : Mem, M5 = sI M4 21 0 2 ((M4.1 21 0 2) - 1) → (Q M5))))))))
set_option maxRecDepth 100000 in
set_option maxHeartbeats 4000000 in
theorem c_X5_pop (l : Launch) (g : Geo) (gi : GI g) (a1 : Nat) (ha1 : a1 < 13) (M : Mem) (Q : Mem → Prop) (hw : p_X5_pop a1 M Q) : Met l yX5_pop (Cond.code yX5_pop cX5_pop 2 none :: bg) ({ frames := 2, cells := 0, slots := 0, locals := 43 } : Room) (va_Pc [.ref (g.2.1 (21 + 0)), .ref (g.2.1 (47 + a1))] (PW g (xw g M))) (va_Qv Q (PB g (xw g)) (Af 0 g)) 0 0 (Af 0 g) := by
  refine Met.ofW (cc := cX5_pop) (maxL := 2) (ret := none) (by decide +kernel) rfl ?_
  intro p e s m args below meth c s₁ B hml hv
  obtain ⟨rfl, hv⟩ := hv
  have C := CX.start (own := RX5) B hml rfl gi hv
  have hP := hv.1
  have hS : va_S (Af 0 g) s.heap s.heap [] := va_S.rf
  have hl := lv_entry ([.ref (g.2.1 (21 + 0)), .ref (g.2.1 (47 + a1))]) (n := 2) (Nat.le_of_ble_eq_true rfl)
  rw [lg_entry_eq]
  generalize (lg_sl ([.ref (g.2.1 (21 + 0)), .ref (g.2.1 (47 + a1))]) ++ List.replicate (2 - (lg_sl ([.ref (g.2.1 (21 + 0)), .ref (g.2.1 (47 + a1))])).length) Slot.unset).toArray = ls at hl ⊢
  have hl : lv_has ls 2 [(0, .ref (g.2.1 (21 + 0))), (1, .ref (g.2.1 (47 + a1)))] := hl
  unfold p_X5_pop at hw
  refine lv_aload_n C.1 C.2.1 dX5_pop_0 rfl (lv_at hl 0 rfl) ?_
  refine gX5_18 C hP Nat.zero_lt_one dX5_pop_1 ?_
  refine lv_if_le (tgt := 46) C.1 C.2.1 dX5_pop_4 (by decide) (fun h1 => ?_) (fun h1 => ?_)
  · have hw := hw.1 h1
    exact retV (wf := (xw g)) C hP hS hw dX5_pop_46
  · have hw := hw.2 h1
    refine lv_aload_n C.1 C.2.1 dX5_pop_7 rfl (lv_at hl 1 rfl) ?_
    refine lv_aload_n C.1 C.2.1 dX5_pop_8 rfl (lv_at hl 0 rfl) ?_
    refine gX5_11 C hP Nat.zero_lt_one dX5_pop_9 ?_
    refine lv_aload_n C.1 C.2.1 dX5_pop_12 rfl (lv_at hl 0 rfl) ?_
    refine gX5_22 C hP Nat.zero_lt_one dX5_pop_13 ?_
    obtain ⟨h2, hw⟩ := hw
    have hb2 : (3 + ((M.1 21 0 1) : Int32).toNatClampNeg) < 13 := by have h9 := vp_lt h2; have h8 := (rfl : 0 = 0); omega
    refine al_22 C hP Nat.zero_lt_one h2 dX5_pop_16 ?_
    refine goV (wf := (xw g)) (runV (w := xw g M) (As := [.ref (g.2.1 (47 + (3 + ((M.1 21 0 1) : Int32).toNatClampNeg)))]) (rest := []) C lkX5_25 (c_X8_copyFrom l g C.2.2.2.2.2.2.2.2.2.2 a1 ((3 + ((M.1 21 0 1) : Int32).toNatClampNeg)) ha1 hb2 M _ hw) hP hS rfl rfl ⟨Nat.le_of_ble_eq_true rfl, Nat.le_of_ble_eq_true rfl⟩ (xx_27 ha1) rfl rfl hl.1 rfl (Nat.le_of_ble_eq_true rfl) dX5_pop_17) hS (fun M3 hw H locs hP hS => ?_)
    refine lv_aload_n C.1 C.2.1 dX5_pop_20 rfl (lv_at hl 0 rfl) ?_
    refine lv_aload_n C.1 C.2.1 dX5_pop_21 rfl (lv_at hl 0 rfl) ?_
    refine gX5_22 C hP Nat.zero_lt_one dX5_pop_22 ?_
    refine lv_bipush (v := 10) C.1 C.2.1 dX5_pop_25 (by decide) ?_
    refine lv_iadd C.1 C.2.1 dX5_pop_27 ?_
    refine lv_iconst (v := 1) C.1 C.2.1 dX5_pop_28 (by decide) ?_
    refine lv_isub C.1 C.2.1 dX5_pop_29 ?_
    refine lv_bipush (v := 10) C.1 C.2.1 dX5_pop_30 (by decide) ?_
    refine lv_irem C.1 C.2.1 dX5_pop_32 (by decide) ?_
    refine pX5_22 C hP hS Nat.zero_lt_one dX5_pop_33 (fun M4 e4 H locs hP hS => ?_)
    have hw := hw M4 e4
    refine lv_aload_n C.1 C.2.1 dX5_pop_36 rfl (lv_at hl 0 rfl) ?_
    refine lv_dup C.1 C.2.1 dX5_pop_37 rfl ?_
    refine gX5_18 C hP Nat.zero_lt_one dX5_pop_38 ?_
    refine lv_iconst (v := 1) C.1 C.2.1 dX5_pop_41 (by decide) ?_
    refine lv_isub C.1 C.2.1 dX5_pop_42 ?_
    refine pX5_18 C hP hS Nat.zero_lt_one dX5_pop_43 (fun M5 e5 H locs hP hS => ?_)
    have hw := hw M5 e5
    exact retV (wf := (xw g)) C hP hS hw dX5_pop_46
def p_X9_begin (a0 : Nat) (M : Mem) (Q : Mem → Prop) : Prop := (∀ M1 : Mem, M1 = sI M 23 a0 1 0 → (∀ M2 : Mem, M2 = sI M1 23 a0 2 0 → (∀ M3 : Mem, M3 = sI M2 23 a0 3 5 → (∀ M4 : Mem, M4 = sI M3 23 a0 4 29 → (∀ M5 : Mem, M5 = sI M4 23 a0 7 0 → (∀ M6 : Mem, M6 = sI M5 23 a0 8 0 → (∀ M7 : Mem, M7 = sI M6 23 a0 9 15 → (∀ M8 : Mem, M8 = sI M7 23 a0 10 0 → (∀ M9 : Mem, M9 = sI M8 23 a0 15 0 → (Q M9))))))))))
set_option maxRecDepth 100000 in
set_option maxHeartbeats 4000000 in
theorem c_X9_begin (l : Launch) (g : Geo) (gi : GI g) (a0 : Nat) (ha0 : a0 < 2) (M : Mem) (Q : Mem → Prop) (hw : p_X9_begin a0 M Q) : Met l yX9_begin (Cond.code yX9_begin cX9_begin 1 none :: bg) ({ frames := 0, cells := 0, slots := 0, locals := 0 } : Room) (va_Pc [.ref (g.2.1 (23 + a0))] (PW g (xw g M))) (va_Qv Q (PB g (xw g)) (Af 0 g)) 0 0 (Af 0 g) := by
  refine Met.ofW (cc := cX9_begin) (maxL := 1) (ret := none) (by decide +kernel) rfl ?_
  intro p e s m args below meth c s₁ B hml hv
  obtain ⟨rfl, hv⟩ := hv
  have C := CX.start (own := RX9) B hml rfl gi hv
  have hP := hv.1
  have hS : va_S (Af 0 g) s.heap s.heap [] := va_S.rf
  have hl := lv_entry ([.ref (g.2.1 (23 + a0))]) (n := 1) (Nat.le_of_ble_eq_true rfl)
  rw [lg_entry_eq]
  generalize (lg_sl ([.ref (g.2.1 (23 + a0))]) ++ List.replicate (1 - (lg_sl ([.ref (g.2.1 (23 + a0))])).length) Slot.unset).toArray = ls at hl ⊢
  have hl : lv_has ls 1 [(0, .ref (g.2.1 (23 + a0)))] := hl
  unfold p_X9_begin at hw
  refine lv_aload_n C.1 C.2.1 dX9_begin_0 rfl (lv_at hl 0 rfl) ?_
  refine lv_iconst (v := 0) C.1 C.2.1 dX9_begin_1 (by decide) ?_
  refine pX9_24 C hP hS ha0 dX9_begin_2 (fun M1 e1 H locs hP hS => ?_)
  have hw := hw M1 e1
  refine lv_aload_n C.1 C.2.1 dX9_begin_5 rfl (lv_at hl 0 rfl) ?_
  refine lv_iconst (v := 0) C.1 C.2.1 dX9_begin_6 (by decide) ?_
  refine pX9_28 C hP hS ha0 dX9_begin_7 (fun M2 e2 H locs hP hS => ?_)
  have hw := hw M2 e2
  refine lv_aload_n C.1 C.2.1 dX9_begin_10 rfl (lv_at hl 0 rfl) ?_
  refine lv_iconst (v := 5) C.1 C.2.1 dX9_begin_11 (by decide) ?_
  refine pX9_31 C hP hS ha0 dX9_begin_12 (fun M3 e3 H locs hP hS => ?_)
  have hw := hw M3 e3
  refine lv_aload_n C.1 C.2.1 dX9_begin_15 rfl (lv_at hl 0 rfl) ?_
  refine lv_bipush (v := 29) C.1 C.2.1 dX9_begin_16 (by decide) ?_
  refine pX9_34 C hP hS ha0 dX9_begin_18 (fun M4 e4 H locs hP hS => ?_)
  have hw := hw M4 e4
  refine lv_aload_n C.1 C.2.1 dX9_begin_21 rfl (lv_at hl 0 rfl) ?_
  refine lv_iconst (v := 0) C.1 C.2.1 dX9_begin_22 (by decide) ?_
  refine pX9_37 C hP hS ha0 dX9_begin_23 (fun M5 e5 H locs hP hS => ?_)
  have hw := hw M5 e5
  refine lv_aload_n C.1 C.2.1 dX9_begin_26 rfl (lv_at hl 0 rfl) ?_
  refine lv_iconst (v := 0) C.1 C.2.1 dX9_begin_27 (by decide) ?_
  refine pX9_40 C hP hS ha0 dX9_begin_28 (fun M6 e6 H locs hP hS => ?_)
  have hw := hw M6 e6
  refine lv_aload_n C.1 C.2.1 dX9_begin_31 rfl (lv_at hl 0 rfl) ?_
  refine lv_bipush (v := 15) C.1 C.2.1 dX9_begin_32 (by decide) ?_
  refine pX9_43 C hP hS ha0 dX9_begin_34 (fun M7 e7 H locs hP hS => ?_)
  have hw := hw M7 e7
  refine lv_aload_n C.1 C.2.1 dX9_begin_37 rfl (lv_at hl 0 rfl) ?_
  refine lv_iconst (v := 0) C.1 C.2.1 dX9_begin_38 (by decide) ?_
  refine pX9_46 C hP hS ha0 rfl rfl dX9_begin_39 (fun M8 e8 H locs hP hS => ?_)
  have hw := hw M8 e8
  refine lv_aload_n C.1 C.2.1 dX9_begin_42 rfl (lv_at hl 0 rfl) ?_
  refine lv_iconst (v := 0) C.1 C.2.1 dX9_begin_43 (by decide) ?_
  refine pX9_50 C hP hS ha0 dX9_begin_44 (fun M9 e9 H locs hP hS => ?_)
  have hw := hw M9 e9
  exact retV (wf := (xw g)) C hP hS hw dX9_begin_47
def p_X6_here (M : Mem) (Q : Int32 → Mem → Prop) : Prop := (((M.1 2 0 4) < 0 → (Q (-1) M)) ∧ (¬ (M.1 2 0 4) < 0 → (((M.1 2 0 3) ≤ (M.1 2 0 4) → (Q (-1) M)) ∧ (¬ (M.1 2 0 3) ≤ (M.1 2 0 4) → (M.2.2 2 0 2 = some (1 + 0) ∧ ((700 ≤ (M.1 2 0 4) → (Q (-1) M)) ∧ (¬ 700 ≤ (M.1 2 0 4) → (M.2.2 2 0 2 = some (1 + 0) ∧ (vp_in (M.1 2 0 4) 700 ∧ (Q (M.1 1 0 ((M.1 2 0 4) : Int32).toNatClampNeg) M))))))))))
set_option maxRecDepth 100000 in
set_option maxHeartbeats 4000000 in
theorem c_X6_here (l : Launch) (g : Geo) (gi : GI g) (M : Mem) (Q : Int32 → Mem → Prop) (hw : p_X6_here  M Q) : Met l yX6_here (Cond.code yX6_here cX6_here 1 (some .int) :: bg) ({ frames := 0, cells := 0, slots := 0, locals := 0 } : Room) (va_Pc [.ref (g.2.1 (2 + 0))] (PW g (xw g M))) (va_Qi Q (PB g (xw g)) (Af 0 g)) 0 0 (Af 0 g) := by
  refine Met.ofW (cc := cX6_here) (maxL := 1) (ret := (some .int)) (by decide +kernel) rfl ?_
  intro p e s m args below meth c s₁ B hml hv
  obtain ⟨rfl, hv⟩ := hv
  have C := CX.start (own := RX6) B hml rfl gi hv
  have hP := hv.1
  have hS : va_S (Af 0 g) s.heap s.heap [] := va_S.rf
  have hl := lv_entry ([.ref (g.2.1 (2 + 0))]) (n := 1) (Nat.le_of_ble_eq_true rfl)
  rw [lg_entry_eq]
  generalize (lg_sl ([.ref (g.2.1 (2 + 0))]) ++ List.replicate (1 - (lg_sl ([.ref (g.2.1 (2 + 0))])).length) Slot.unset).toArray = ls at hl ⊢
  have hl : lv_has ls 1 [(0, .ref (g.2.1 (2 + 0)))] := hl
  unfold p_X6_here at hw
  refine lv_aload_n C.1 C.2.1 dX6_here_0 rfl (lv_at hl 0 rfl) ?_
  refine gX6_31 C hP Nat.zero_lt_one dX6_here_1 ?_
  refine lv_if_lt (tgt := 42) C.1 C.2.1 dX6_here_4 (by decide) (fun h1 => ?_) (fun h1 => ?_)
  · have hw := hw.1 h1
    refine lv_iconst (v := (-1)) C.1 C.2.1 dX6_here_42 (by decide) ?_
    exact retI (wf := (xw g)) C hP hS hw dX6_here_43
  · have hw := hw.2 h1
    refine lv_aload_n C.1 C.2.1 dX6_here_7 rfl (lv_at hl 0 rfl) ?_
    refine gX6_31 C hP Nat.zero_lt_one dX6_here_8 ?_
    refine lv_aload_n C.1 C.2.1 dX6_here_11 rfl (lv_at hl 0 rfl) ?_
    refine gX6_28 C hP Nat.zero_lt_one dX6_here_12 ?_
    refine lv_icmp_ge (tgt := 42) C.1 C.2.1 dX6_here_15 (by decide) (fun h2 => ?_) (fun h2 => ?_)
    · have hw := hw.1 h2
      refine lv_iconst (v := (-1)) C.1 C.2.1 dX6_here_42 (by decide) ?_
      exact retI (wf := (xw g)) C hP hS hw dX6_here_43
    · have hw := hw.2 h2
      refine lv_aload_n C.1 C.2.1 dX6_here_18 rfl (lv_at hl 0 rfl) ?_
      refine gX6_31 C hP Nat.zero_lt_one dX6_here_19 ?_
      refine lv_aload_n C.1 C.2.1 dX6_here_22 rfl (lv_at hl 0 rfl) ?_
      obtain ⟨h3, hw⟩ := hw
      refine gX6_15f C hP Nat.zero_lt_one h3 dX6_here_23 ?_
      refine an_1 C hP Nat.zero_lt_one dX6_here_26 ?_
      refine lv_icmp_ge (tgt := 42) C.1 C.2.1 dX6_here_27 (by decide) (fun h4 => ?_) (fun h4 => ?_)
      · have hw := hw.1 h4
        refine lv_iconst (v := (-1)) C.1 C.2.1 dX6_here_42 (by decide) ?_
        exact retI (wf := (xw g)) C hP hS hw dX6_here_43
      · have hw := hw.2 h4
        refine lv_aload_n C.1 C.2.1 dX6_here_30 rfl (lv_at hl 0 rfl) ?_
        obtain ⟨h5, hw⟩ := hw
        refine gX6_15f C hP Nat.zero_lt_one h5 dX6_here_31 ?_
        refine lv_aload_n C.1 C.2.1 dX6_here_34 rfl (lv_at hl 0 rfl) ?_
        refine gX6_31 C hP Nat.zero_lt_one dX6_here_35 ?_
        obtain ⟨h6, hw⟩ := hw
        refine al_1 C hP Nat.zero_lt_one h6 dX6_here_38 ?_
        refine lv_goto (tgt := 43) C.1 C.2.1 dX6_here_39 (by decide) ?_
        exact retI (wf := (xw g)) C hP hS hw dX6_here_43
def p_X6_isLetter (a0 : Int32) (M : Mem) (Q : Int32 → Mem → Prop) : Prop := ((a0 < 97 → (Q 0 M)) ∧ (¬ a0 < 97 → ((122 < a0 → (Q 0 M)) ∧ (¬ 122 < a0 → (Q 1 M)))))
set_option maxRecDepth 100000 in
set_option maxHeartbeats 4000000 in
theorem c_X6_isLetter (l : Launch) (g : Geo) (gi : GI g) (a0 : Int32) (M : Mem) (Q : Int32 → Mem → Prop) (hw : p_X6_isLetter a0 M Q) : Met l yX6_isLetter (Cond.code yX6_isLetter cX6_isLetter 1 (some .boolean) :: bg) ({ frames := 0, cells := 0, slots := 0, locals := 0 } : Room) (va_Pc [.int a0] (PW g (xw g M))) (va_Qi (fun r M => Q r M ∧ narrow .boolean (.int r) = .int r) (PB g (xw g)) (Af 0 g)) 0 0 (Af 0 g) := by
  refine Met.ofW (cc := cX6_isLetter) (maxL := 1) (ret := (some .boolean)) (by decide +kernel) rfl ?_
  intro p e s m args below meth c s₁ B hml hv
  obtain ⟨rfl, hv⟩ := hv
  have C := CX.start (own := RX6) B hml rfl gi hv
  have hP := hv.1
  have hS : va_S (Af 0 g) s.heap s.heap [] := va_S.rf
  have hl := lv_entry ([.int a0]) (n := 1) (Nat.le_of_ble_eq_true rfl)
  rw [lg_entry_eq]
  generalize (lg_sl ([.int a0]) ++ List.replicate (1 - (lg_sl ([.int a0])).length) Slot.unset).toArray = ls at hl ⊢
  have hl : lv_has ls 1 [(0, .int a0)] := hl
  unfold p_X6_isLetter at hw
  refine lv_iload_n C.1 C.2.1 dX6_isLetter_0 rfl (lv_at hl 0 rfl) ?_
  refine lv_bipush (v := 97) C.1 C.2.1 dX6_isLetter_1 (by decide) ?_
  refine lv_icmp_lt (tgt := 16) C.1 C.2.1 dX6_isLetter_3 (by decide) (fun h1 => ?_) (fun h1 => ?_)
  · have hw := hw.1 h1
    refine lv_iconst (v := 0) C.1 C.2.1 dX6_isLetter_16 (by decide) ?_
    exact retZ (wf := (xw g)) C hP hS rfl hw dX6_isLetter_17
  · have hw := hw.2 h1
    refine lv_iload_n C.1 C.2.1 dX6_isLetter_6 rfl (lv_at hl 0 rfl) ?_
    refine lv_bipush (v := 122) C.1 C.2.1 dX6_isLetter_7 (by decide) ?_
    refine lv_icmp_gt (tgt := 16) C.1 C.2.1 dX6_isLetter_9 (by decide) (fun h2 => ?_) (fun h2 => ?_)
    · have hw := hw.1 h2
      refine lv_iconst (v := 0) C.1 C.2.1 dX6_isLetter_16 (by decide) ?_
      exact retZ (wf := (xw g)) C hP hS rfl hw dX6_isLetter_17
    · have hw := hw.2 h2
      refine lv_iconst (v := 1) C.1 C.2.1 dX6_isLetter_12 (by decide) ?_
      refine lv_goto (tgt := 17) C.1 C.2.1 dX6_isLetter_13 (by decide) ?_
      exact retZ (wf := (xw g)) C hP hS rfl hw dX6_isLetter_17
def p_X6_isDigit (a0 : Int32) (M : Mem) (Q : Int32 → Mem → Prop) : Prop := ((a0 < 48 → (Q 0 M)) ∧ (¬ a0 < 48 → ((57 < a0 → (Q 0 M)) ∧ (¬ 57 < a0 → (Q 1 M)))))
set_option maxRecDepth 100000 in
set_option maxHeartbeats 4000000 in
theorem c_X6_isDigit (l : Launch) (g : Geo) (gi : GI g) (a0 : Int32) (M : Mem) (Q : Int32 → Mem → Prop) (hw : p_X6_isDigit a0 M Q) : Met l yX6_isDigit (Cond.code yX6_isDigit cX6_isDigit 1 (some .boolean) :: bg) ({ frames := 0, cells := 0, slots := 0, locals := 0 } : Room) (va_Pc [.int a0] (PW g (xw g M))) (va_Qi (fun r M => Q r M ∧ narrow .boolean (.int r) = .int r) (PB g (xw g)) (Af 0 g)) 0 0 (Af 0 g) := by
  refine Met.ofW (cc := cX6_isDigit) (maxL := 1) (ret := (some .boolean)) (by decide +kernel) rfl ?_
  intro p e s m args below meth c s₁ B hml hv
  obtain ⟨rfl, hv⟩ := hv
  have C := CX.start (own := RX6) B hml rfl gi hv
  have hP := hv.1
  have hS : va_S (Af 0 g) s.heap s.heap [] := va_S.rf
  have hl := lv_entry ([.int a0]) (n := 1) (Nat.le_of_ble_eq_true rfl)
  rw [lg_entry_eq]
  generalize (lg_sl ([.int a0]) ++ List.replicate (1 - (lg_sl ([.int a0])).length) Slot.unset).toArray = ls at hl ⊢
  have hl : lv_has ls 1 [(0, .int a0)] := hl
  unfold p_X6_isDigit at hw
  refine lv_iload_n C.1 C.2.1 dX6_isDigit_0 rfl (lv_at hl 0 rfl) ?_
  refine lv_bipush (v := 48) C.1 C.2.1 dX6_isDigit_1 (by decide) ?_
  refine lv_icmp_lt (tgt := 16) C.1 C.2.1 dX6_isDigit_3 (by decide) (fun h1 => ?_) (fun h1 => ?_)
  · have hw := hw.1 h1
    refine lv_iconst (v := 0) C.1 C.2.1 dX6_isDigit_16 (by decide) ?_
    exact retZ (wf := (xw g)) C hP hS rfl hw dX6_isDigit_17
  · have hw := hw.2 h1
    refine lv_iload_n C.1 C.2.1 dX6_isDigit_6 rfl (lv_at hl 0 rfl) ?_
    refine lv_bipush (v := 57) C.1 C.2.1 dX6_isDigit_7 (by decide) ?_
    refine lv_icmp_gt (tgt := 16) C.1 C.2.1 dX6_isDigit_9 (by decide) (fun h2 => ?_) (fun h2 => ?_)
    · have hw := hw.1 h2
      refine lv_iconst (v := 0) C.1 C.2.1 dX6_isDigit_16 (by decide) ?_
      exact retZ (wf := (xw g)) C hP hS rfl hw dX6_isDigit_17
    · have hw := hw.2 h2
      refine lv_iconst (v := 1) C.1 C.2.1 dX6_isDigit_12 (by decide) ?_
      refine lv_goto (tgt := 17) C.1 C.2.1 dX6_isDigit_13 (by decide) ?_
      exact retZ (wf := (xw g)) C hP hS rfl hw dX6_isDigit_17
def b_X6_advanceNumber_5 (Q : Mem → Prop) : Nat → Mem → Prop
  | 0, _ => False
  | n + 1, M => (((M.1 2 0 3) ≤ (M.1 2 0 4) → (∀ M3 : Mem, M3 = sI M 2 0 5 2 → (Q M3))) ∧ (¬ (M.1 2 0 3) ≤ (M.1 2 0 4) → (p_X6_here  M (fun r4 M4 => (p_X6_isDigit r4 M4 (fun r5 M5 => ((r5 = 0 → (∀ M7 : Mem, M7 = sI M5 2 0 5 2 → (Q M7))) ∧ (¬ r5 = 0 → (p_X6_here  M5 (fun r8 M8 => (∀ M9 : Mem, M9 = sI M8 2 0 7 (if ((((10 : Int32) * (M5.1 2 0 7)) + r8) - 48) < 1000000 then ((((10 : Int32) * (M5.1 2 0 7)) + r8) - 48) else 1000000) → (∀ M10 : Mem, M10 = sI M9 2 0 4 ((M9.1 2 0 4) + 1) → (b_X6_advanceNumber_5 Q n  M10)))))))))))))
set_option maxRecDepth 100000 in
set_option maxHeartbeats 4000000 in
theorem k_X6_advanceNumber_5 {p : Program} {l : Launch} {e : Env} {s : State} {m : MethodId} {args : Array Value} {below : List Frame} {meth : Method} {c : Code} {g : Geo} (C : CX g p s m args meth c cX6_advanceNumber 1 none RX6) {Q : Mem → Prop} : ∀ (n : Nat) (M : Mem) (hw : b_X6_advanceNumber_5 Q n M) {H : Heap} {locs : List Loc} {ls : Array Slot} (hl : lv_has ls 1 [(0, .ref (g.2.1 (2 + 0)))]) (hP : va_P g.1 clz (xw g M) H) (hS : va_S (Af 0 g) s.heap H locs), W p l e ({ frames := 1, cells := 0, slots := 0, locals := 21 } : Room) s m args below meth c H locs 0 0 (MQ below (va_Qv Q (PB g (xw g)) (Af 0 g)) args s 0 0 (Af 0 g)) (F0 m 5 ls []) := by
  intro n
  induction n with
  | zero => intro M hw H locs ls hl hP hS; exact absurd hw (by rw [b_X6_advanceNumber_5]; exact fun h => h)
  | succ n ih =>
    intro M hw H locs ls hl hP hS
    rw [b_X6_advanceNumber_5] at hw
    refine lv_aload_n C.1 C.2.1 dX6_advanceNumber_5 rfl (lv_at hl 0 rfl) ?_
    refine gX6_31 C hP Nat.zero_lt_one dX6_advanceNumber_6 ?_
    refine lv_aload_n C.1 C.2.1 dX6_advanceNumber_9 rfl (lv_at hl 0 rfl) ?_
    refine gX6_28 C hP Nat.zero_lt_one dX6_advanceNumber_10 ?_
    refine lv_icmp_ge (tgt := 63) C.1 C.2.1 dX6_advanceNumber_13 (by decide) (fun h2 => ?_) (fun h2 => ?_)
    · have hw := hw.1 h2
      refine lv_aload_n C.1 C.2.1 dX6_advanceNumber_63 rfl (lv_at hl 0 rfl) ?_
      refine lv_iconst (v := 2) C.1 C.2.1 dX6_advanceNumber_64 (by decide) ?_
      refine pX6_49 C hP hS Nat.zero_lt_one dX6_advanceNumber_65 (fun M3 e3 H locs hP hS => ?_)
      have hw := hw M3 e3
      exact retV (wf := (xw g)) C hP hS hw dX6_advanceNumber_68
    · have hw := hw.2 h2
      refine lv_aload_n C.1 C.2.1 dX6_advanceNumber_16 rfl (lv_at hl 0 rfl) ?_
      refine goI (wf := (xw g)) (runV (w := xw g M) (As := []) (rest := []) C lkX6_209 (c_X6_here l g C.2.2.2.2.2.2.2.2.2.2   M _ hw) hP hS rfl rfl ⟨Nat.le_of_ble_eq_true rfl, Nat.le_of_ble_eq_true rfl⟩ (xx_2 Nat.zero_lt_one) rfl rfl hl.1 rfl (Nat.le_of_ble_eq_true rfl) dX6_advanceNumber_17) hS (fun r4 M4 hw H locs hP hS => ?_)
      refine goI (wf := (xw g)) (runS (w := xw g M4) (As := [.int r4]) (rest := []) C lkX6_219 (c_X6_isDigit l g C.2.2.2.2.2.2.2.2.2.2 r4  M4 _ hw) hP hS rfl rfl ⟨Nat.le_of_ble_eq_true rfl, Nat.le_of_ble_eq_true rfl⟩ hl.1 rfl (Nat.le_of_ble_eq_true rfl) dX6_advanceNumber_20) hS (fun r5 M5 hw H locs hP hS => ?_)
      obtain ⟨hw, hz5⟩ := hw
      refine lv_if_eq (tgt := 63) C.1 C.2.1 dX6_advanceNumber_23 (by decide) (fun h6 => ?_) (fun h6 => ?_)
      · have hw := hw.1 h6
        refine lv_aload_n C.1 C.2.1 dX6_advanceNumber_63 rfl (lv_at hl 0 rfl) ?_
        refine lv_iconst (v := 2) C.1 C.2.1 dX6_advanceNumber_64 (by decide) ?_
        refine pX6_49 C hP hS Nat.zero_lt_one dX6_advanceNumber_65 (fun M7 e7 H locs hP hS => ?_)
        have hw := hw M7 e7
        exact retV (wf := (xw g)) C hP hS hw dX6_advanceNumber_68
      · have hw := hw.2 h6
        refine lv_aload_n C.1 C.2.1 dX6_advanceNumber_26 rfl (lv_at hl 0 rfl) ?_
        refine lv_ldc (v := 1000000) C.1 C.2.1 C.2.2.2.2.1 (C.2.2.2.2.2.1 _ (bg_of 663 (by decide +kernel) rfl)) dX6_advanceNumber_27 ?_
        refine lv_bipush (v := 10) C.1 C.2.1 dX6_advanceNumber_29 (by decide) ?_
        refine lv_aload_n C.1 C.2.1 dX6_advanceNumber_31 rfl (lv_at hl 0 rfl) ?_
        refine gX6_62 C hP Nat.zero_lt_one dX6_advanceNumber_32 ?_
        refine lv_imul C.1 C.2.1 dX6_advanceNumber_35 ?_
        refine lv_aload_n C.1 C.2.1 dX6_advanceNumber_36 rfl (lv_at hl 0 rfl) ?_
        refine goI (wf := (xw g)) (runV (w := xw g M5) (As := []) (rest := [.int ((10 : Int32) * (M5.1 2 0 7)), .int 1000000, .ref (g.2.1 (2 + 0))]) C lkX6_209 (c_X6_here l g C.2.2.2.2.2.2.2.2.2.2   M5 _ hw) hP hS rfl rfl ⟨Nat.le_of_ble_eq_true rfl, Nat.le_of_ble_eq_true rfl⟩ (xx_2 Nat.zero_lt_one) rfl rfl hl.1 rfl (Nat.le_of_ble_eq_true rfl) dX6_advanceNumber_37) hS (fun r8 M8 hw H locs hP hS => ?_)
        refine lv_iadd C.1 C.2.1 dX6_advanceNumber_40 ?_
        refine lv_bipush (v := 48) C.1 C.2.1 dX6_advanceNumber_41 (by decide) ?_
        refine lv_isub C.1 C.2.1 dX6_advanceNumber_43 ?_
        refine va_mmin C.1 C.2.1 (C.2.2.1.trans hl.1.symm) C.2.2.2.2.1 (C.2.2.2.2.2.1 _ (bg_of 637 (by decide +kernel) rfl)) (C.2.2.2.2.2.1 _ (bg_of 638 (by decide +kernel) rfl)) (C.2.2.2.2.2.1 _ (bg_of 108 (by decide +kernel) rfl)) (C.2.2.2.2.2.1 _ (bg_of 639 (by decide +kernel) rfl)) (Nat.le_of_ble_eq_true rfl) (Nat.le_of_ble_eq_true rfl) (Nat.zero_le _) (Nat.zero_le _) dX6_advanceNumber_44 ?_
        refine pX6_62 C hP hS Nat.zero_lt_one dX6_advanceNumber_47 (fun M9 e9 H locs hP hS => ?_)
        have hw := hw M9 e9
        refine lv_aload_n C.1 C.2.1 dX6_advanceNumber_50 rfl (lv_at hl 0 rfl) ?_
        refine lv_dup C.1 C.2.1 dX6_advanceNumber_51 rfl ?_
        refine gX6_31 C hP Nat.zero_lt_one dX6_advanceNumber_52 ?_
        refine lv_iconst (v := 1) C.1 C.2.1 dX6_advanceNumber_55 (by decide) ?_
        refine lv_iadd C.1 C.2.1 dX6_advanceNumber_56 ?_
        refine pX6_31 C hP hS Nat.zero_lt_one dX6_advanceNumber_57 (fun M10 e10 H locs hP hS => ?_)
        have hw := hw M10 e10
        refine lv_goto (tgt := 5) C.1 C.2.1 dX6_advanceNumber_60 (by decide) ?_
        exact ih   _ hw (lv_sub hl [0] rfl) hP hS
def p_X6_advanceNumber (M : Mem) (Q : Mem → Prop) : Prop := (∀ M1 : Mem, M1 = sI M 2 0 7 0 → (∃ n5 : Nat, b_X6_advanceNumber_5 Q n5  M1))
set_option maxRecDepth 100000 in
set_option maxHeartbeats 4000000 in
theorem c_X6_advanceNumber (l : Launch) (g : Geo) (gi : GI g) (M : Mem) (Q : Mem → Prop) (hw : p_X6_advanceNumber  M Q) : Met l yX6_advanceNumber (Cond.code yX6_advanceNumber cX6_advanceNumber 1 none :: bg) ({ frames := 1, cells := 0, slots := 0, locals := 21 } : Room) (va_Pc [.ref (g.2.1 (2 + 0))] (PW g (xw g M))) (va_Qv Q (PB g (xw g)) (Af 0 g)) 0 0 (Af 0 g) := by
  refine Met.ofW (cc := cX6_advanceNumber) (maxL := 1) (ret := none) (by decide +kernel) rfl ?_
  intro p e s m args below meth c s₁ B hml hv
  obtain ⟨rfl, hv⟩ := hv
  have C := CX.start (own := RX6) B hml rfl gi hv
  have hP := hv.1
  have hS : va_S (Af 0 g) s.heap s.heap [] := va_S.rf
  have hl := lv_entry ([.ref (g.2.1 (2 + 0))]) (n := 1) (Nat.le_of_ble_eq_true rfl)
  rw [lg_entry_eq]
  generalize (lg_sl ([.ref (g.2.1 (2 + 0))]) ++ List.replicate (1 - (lg_sl ([.ref (g.2.1 (2 + 0))])).length) Slot.unset).toArray = ls at hl ⊢
  have hl : lv_has ls 1 [(0, .ref (g.2.1 (2 + 0)))] := hl
  unfold p_X6_advanceNumber at hw
  refine lv_aload_n C.1 C.2.1 dX6_advanceNumber_0 rfl (lv_at hl 0 rfl) ?_
  refine lv_iconst (v := 0) C.1 C.2.1 dX6_advanceNumber_1 (by decide) ?_
  refine pX6_62 C hP hS Nat.zero_lt_one dX6_advanceNumber_2 (fun M1 e1 H locs hP hS => ?_)
  have hw := hw M1 e1
  obtain ⟨n9, hw⟩ := hw
  exact k_X6_advanceNumber_5 (Q := Q) C n9   _ hw (lv_sub hl [0] rfl) hP hS
def b_X6_advanceWord_75 (Q : Mem → Prop) (v1 : Int32) (M : Mem) : Prop := ((6 < v1 → (∀ M4 : Mem, M4 = sI M 2 0 5 4 → (Q M4))) ∧ (¬ 6 < v1 → (∀ M5 : Mem, M5 = sI M 2 0 5 1 → (Q M5))))
set_option maxRecDepth 100000 in
set_option maxHeartbeats 4000000 in
theorem k_X6_advanceWord_75 {p : Program} {l : Launch} {e : Env} {s : State} {m : MethodId} {args : Array Value} {below : List Frame} {meth : Method} {c : Code} {g : Geo} (C : CX g p s m args meth c cX6_advanceWord 2 none RX6) {Q : Mem → Prop} (v1 : Int32) (M : Mem) (hw : b_X6_advanceWord_75 Q v1 M) {H : Heap} {locs : List Loc} {ls : Array Slot} (hl : lv_has ls 2 [(0, .ref (g.2.1 (2 + 0))), (1, .int v1)]) (hP : va_P g.1 clz (xw g M) H) (hS : va_S (Af 0 g) s.heap H locs) : W p l e ({ frames := 1, cells := 0, slots := 0, locals := 20 } : Room) s m args below meth c H locs 0 0 (MQ below (va_Qv Q (PB g (xw g)) (Af 0 g)) args s 0 0 (Af 0 g)) (F0 m 75 ls []) := by
  unfold b_X6_advanceWord_75 at hw
  refine lv_aload_n C.1 C.2.1 dX6_advanceWord_75 rfl (lv_at hl 0 rfl) ?_
  refine lv_iload_n C.1 C.2.1 dX6_advanceWord_76 rfl (lv_at hl 1 rfl) ?_
  refine lv_bipush (v := 6) C.1 C.2.1 dX6_advanceWord_77 (by decide) ?_
  refine lv_icmp_gt (tgt := 86) C.1 C.2.1 dX6_advanceWord_79 (by decide) (fun h3 => ?_) (fun h3 => ?_)
  · have hw := hw.1 h3
    refine lv_iconst (v := 4) C.1 C.2.1 dX6_advanceWord_86 (by decide) ?_
    refine pX6_49 C hP hS Nat.zero_lt_one dX6_advanceWord_87 (fun M4 e4 H locs hP hS => ?_)
    have hw := hw M4 e4
    exact retV (wf := (xw g)) C hP hS hw dX6_advanceWord_90
  · have hw := hw.2 h3
    refine lv_iconst (v := 1) C.1 C.2.1 dX6_advanceWord_82 (by decide) ?_
    refine lv_goto (tgt := 87) C.1 C.2.1 dX6_advanceWord_83 (by decide) ?_
    refine pX6_49 C hP hS Nat.zero_lt_one dX6_advanceWord_87 (fun M5 e5 H locs hP hS => ?_)
    have hw := hw M5 e5
    exact retV (wf := (xw g)) C hP hS hw dX6_advanceWord_90
def b_X6_advanceWord_59 (Q : Mem → Prop) (k7 : Int32 → Mem → Prop) (v1 : Int32) (M : Mem) : Prop := (∀ x10 : Int32, x10 = (v1 + 1) → (∀ M11 : Mem, M11 = sI M 2 0 4 ((M.1 2 0 4) + 1) → (k7 x10 M11)))
set_option maxRecDepth 100000 in
set_option maxHeartbeats 4000000 in
theorem k_X6_advanceWord_59 {p : Program} {l : Launch} {e : Env} {s : State} {m : MethodId} {args : Array Value} {below : List Frame} {meth : Method} {c : Code} {g : Geo} (C : CX g p s m args meth c cX6_advanceWord 2 none RX6) {Q : Mem → Prop} {k7 : Int32 → Mem → Prop} (hk7 : ∀ (v1 : Int32) (M : Mem), k7 v1 M → ∀ (H : Heap) (locs : List Loc) (ls : Array Slot), lv_has ls 2 [(0, .ref (g.2.1 (2 + 0))), (1, .int v1)] → va_P g.1 clz (xw g M) H → va_S (Af 0 g) s.heap H locs → W p l e ({ frames := 1, cells := 0, slots := 0, locals := 20 } : Room) s m args below meth c H locs 0 0 (MQ below (va_Qv Q (PB g (xw g)) (Af 0 g)) args s 0 0 (Af 0 g)) (F0 m 7 ls [])) (v1 : Int32) (M : Mem) (hw : b_X6_advanceWord_59 Q k7 v1 M) {H : Heap} {locs : List Loc} {ls : Array Slot} (hl : lv_has ls 2 [(0, .ref (g.2.1 (2 + 0))), (1, .int v1)]) (hP : va_P g.1 clz (xw g M) H) (hS : va_S (Af 0 g) s.heap H locs) : W p l e ({ frames := 1, cells := 0, slots := 0, locals := 20 } : Room) s m args below meth c H locs 0 0 (MQ below (va_Qv Q (PB g (xw g)) (Af 0 g)) args s 0 0 (Af 0 g)) (F0 m 59 ls []) := by
  unfold b_X6_advanceWord_59 at hw
  obtain ⟨x10, e10⟩ : ∃ y : Int32, y = (v1 + 1) := ⟨_, rfl⟩
  have hw := hw x10 e10
  refine lv_iinc (v := x10) (lv' := [(1, .int x10), (0, .ref (g.2.1 (2 + 0)))]) C.1 C.2.1 dX6_advanceWord_59 hl (k := 1) rfl (by rw [e10]; rfl) (by decide) rfl (fun ls hl => ?_)
  refine lv_aload_n C.1 C.2.1 dX6_advanceWord_62 rfl (lv_at hl 1 rfl) ?_
  refine lv_dup C.1 C.2.1 dX6_advanceWord_63 rfl ?_
  refine gX6_31 C hP Nat.zero_lt_one dX6_advanceWord_64 ?_
  refine lv_iconst (v := 1) C.1 C.2.1 dX6_advanceWord_67 (by decide) ?_
  refine lv_iadd C.1 C.2.1 dX6_advanceWord_68 ?_
  refine pX6_31 C hP hS Nat.zero_lt_one dX6_advanceWord_69 (fun M11 e11 H locs hP hS => ?_)
  have hw := hw M11 e11
  refine lv_goto (tgt := 7) C.1 C.2.1 dX6_advanceWord_72 (by decide) ?_
  exact hk7 x10  _ hw _ _ _ (lv_sub hl [1, 0] rfl) hP hS
def b_X6_advanceWord_7 (Q : Mem → Prop) : Nat → Int32 → Mem → Prop
  | 0, _, _ => False
  | n + 1, v1, M => (((M.1 2 0 3) ≤ (M.1 2 0 4) → (b_X6_advanceWord_75 Q v1 M)) ∧ (¬ (M.1 2 0 3) ≤ (M.1 2 0 4) → (p_X6_here  M (fun r6 M6 => (p_X6_isLetter r6 M6 (fun r7 M7 => ((r7 = 0 → (b_X6_advanceWord_75 Q v1 M7)) ∧ (¬ r7 = 0 → ((6 ≤ v1 → (b_X6_advanceWord_59 Q (fun v1 M => b_X6_advanceWord_7 Q n v1 M) v1 M7)) ∧ (¬ 6 ≤ v1 → (p_X6_here  M7 (fun r12 M12 => (∀ M13 : Mem, M13 = sI M12 2 0 7 ((M7.1 2 0 7) ||| (((r12 - 97) + 1) <<< (((25 : Int32) - ((5 : Int32) * v1)) &&& 31))) → (b_X6_advanceWord_59 Q (fun v1 M => b_X6_advanceWord_7 Q n v1 M) v1 M13))))))))))))))
set_option maxRecDepth 100000 in
set_option maxHeartbeats 4000000 in
theorem k_X6_advanceWord_7 {p : Program} {l : Launch} {e : Env} {s : State} {m : MethodId} {args : Array Value} {below : List Frame} {meth : Method} {c : Code} {g : Geo} (C : CX g p s m args meth c cX6_advanceWord 2 none RX6) {Q : Mem → Prop} : ∀ (n : Nat) (v1 : Int32) (M : Mem) (hw : b_X6_advanceWord_7 Q n v1 M) {H : Heap} {locs : List Loc} {ls : Array Slot} (hl : lv_has ls 2 [(0, .ref (g.2.1 (2 + 0))), (1, .int v1)]) (hP : va_P g.1 clz (xw g M) H) (hS : va_S (Af 0 g) s.heap H locs), W p l e ({ frames := 1, cells := 0, slots := 0, locals := 20 } : Room) s m args below meth c H locs 0 0 (MQ below (va_Qv Q (PB g (xw g)) (Af 0 g)) args s 0 0 (Af 0 g)) (F0 m 7 ls []) := by
  intro n
  induction n with
  | zero => intro v1 M hw H locs ls hl hP hS; exact absurd hw (by rw [b_X6_advanceWord_7]; exact fun h => h)
  | succ n ih =>
    intro v1 M hw H locs ls hl hP hS
    rw [b_X6_advanceWord_7] at hw
    refine lv_aload_n C.1 C.2.1 dX6_advanceWord_7 rfl (lv_at hl 0 rfl) ?_
    refine gX6_31 C hP Nat.zero_lt_one dX6_advanceWord_8 ?_
    refine lv_aload_n C.1 C.2.1 dX6_advanceWord_11 rfl (lv_at hl 0 rfl) ?_
    refine gX6_28 C hP Nat.zero_lt_one dX6_advanceWord_12 ?_
    refine lv_icmp_ge (tgt := 75) C.1 C.2.1 dX6_advanceWord_15 (by decide) (fun h2 => ?_) (fun h2 => ?_)
    · have hw := hw.1 h2
      exact k_X6_advanceWord_75 (Q := Q) C v1  _ hw (lv_sub hl [0, 1] rfl) hP hS
    · have hw := hw.2 h2
      refine lv_aload_n C.1 C.2.1 dX6_advanceWord_18 rfl (lv_at hl 0 rfl) ?_
      refine goI (wf := (xw g)) (runV (w := xw g M) (As := []) (rest := []) C lkX6_209 (c_X6_here l g C.2.2.2.2.2.2.2.2.2.2   M _ hw) hP hS rfl rfl ⟨Nat.le_of_ble_eq_true rfl, Nat.le_of_ble_eq_true rfl⟩ (xx_2 Nat.zero_lt_one) rfl rfl hl.1 rfl (Nat.le_of_ble_eq_true rfl) dX6_advanceWord_19) hS (fun r6 M6 hw H locs hP hS => ?_)
      refine goI (wf := (xw g)) (runS (w := xw g M6) (As := [.int r6]) (rest := []) C lkX6_213 (c_X6_isLetter l g C.2.2.2.2.2.2.2.2.2.2 r6  M6 _ hw) hP hS rfl rfl ⟨Nat.le_of_ble_eq_true rfl, Nat.le_of_ble_eq_true rfl⟩ hl.1 rfl (Nat.le_of_ble_eq_true rfl) dX6_advanceWord_22) hS (fun r7 M7 hw H locs hP hS => ?_)
      obtain ⟨hw, hz7⟩ := hw
      refine lv_if_eq (tgt := 75) C.1 C.2.1 dX6_advanceWord_25 (by decide) (fun h8 => ?_) (fun h8 => ?_)
      · have hw := hw.1 h8
        exact k_X6_advanceWord_75 (Q := Q) C v1  _ hw (lv_sub hl [0, 1] rfl) hP hS
      · have hw := hw.2 h8
        refine lv_iload_n C.1 C.2.1 dX6_advanceWord_28 rfl (lv_at hl 1 rfl) ?_
        refine lv_bipush (v := 6) C.1 C.2.1 dX6_advanceWord_29 (by decide) ?_
        refine lv_icmp_ge (tgt := 59) C.1 C.2.1 dX6_advanceWord_31 (by decide) (fun h9 => ?_) (fun h9 => ?_)
        · have hw := hw.1 h9
          exact k_X6_advanceWord_59 (Q := Q) C (fun v1  M hw H locs ls hl hP hS => ih v1  M hw hl hP hS) v1  _ hw (lv_sub hl [0, 1] rfl) hP hS
        · have hw := hw.2 h9
          refine lv_aload_n C.1 C.2.1 dX6_advanceWord_34 rfl (lv_at hl 0 rfl) ?_
          refine lv_dup C.1 C.2.1 dX6_advanceWord_35 rfl ?_
          refine gX6_62 C hP Nat.zero_lt_one dX6_advanceWord_36 ?_
          refine lv_aload_n C.1 C.2.1 dX6_advanceWord_39 rfl (lv_at hl 0 rfl) ?_
          refine goI (wf := (xw g)) (runV (w := xw g M7) (As := []) (rest := [.int (M7.1 2 0 7), .ref (g.2.1 (2 + 0))]) C lkX6_209 (c_X6_here l g C.2.2.2.2.2.2.2.2.2.2   M7 _ hw) hP hS rfl rfl ⟨Nat.le_of_ble_eq_true rfl, Nat.le_of_ble_eq_true rfl⟩ (xx_2 Nat.zero_lt_one) rfl rfl hl.1 rfl (Nat.le_of_ble_eq_true rfl) dX6_advanceWord_40) hS (fun r12 M12 hw H locs hP hS => ?_)
          refine lv_bipush (v := 97) C.1 C.2.1 dX6_advanceWord_43 (by decide) ?_
          refine lv_isub C.1 C.2.1 dX6_advanceWord_45 ?_
          refine lv_iconst (v := 1) C.1 C.2.1 dX6_advanceWord_46 (by decide) ?_
          refine lv_iadd C.1 C.2.1 dX6_advanceWord_47 ?_
          refine lv_bipush (v := 25) C.1 C.2.1 dX6_advanceWord_48 (by decide) ?_
          refine lv_iconst (v := 5) C.1 C.2.1 dX6_advanceWord_50 (by decide) ?_
          refine lv_iload_n C.1 C.2.1 dX6_advanceWord_51 rfl (lv_at hl 1 rfl) ?_
          refine lv_imul C.1 C.2.1 dX6_advanceWord_52 ?_
          refine lv_isub C.1 C.2.1 dX6_advanceWord_53 ?_
          refine lv_ishl C.1 C.2.1 dX6_advanceWord_54 ?_
          refine lv_ior C.1 C.2.1 dX6_advanceWord_55 ?_
          refine pX6_62 C hP hS Nat.zero_lt_one dX6_advanceWord_56 (fun M13 e13 H locs hP hS => ?_)
          have hw := hw M13 e13
          exact k_X6_advanceWord_59 (Q := Q) C (fun v1  M hw H locs ls hl hP hS => ih v1  M hw hl hP hS) v1  _ hw (lv_sub hl [0, 1] rfl) hP hS
def p_X6_advanceWord (M : Mem) (Q : Mem → Prop) : Prop := (∀ M1 : Mem, M1 = sI M 2 0 7 0 → (∃ n7 : Nat, b_X6_advanceWord_7 Q n7 0 M1))
set_option maxRecDepth 100000 in
set_option maxHeartbeats 4000000 in
theorem c_X6_advanceWord (l : Launch) (g : Geo) (gi : GI g) (M : Mem) (Q : Mem → Prop) (hw : p_X6_advanceWord  M Q) : Met l yX6_advanceWord (Cond.code yX6_advanceWord cX6_advanceWord 2 none :: bg) ({ frames := 1, cells := 0, slots := 0, locals := 20 } : Room) (va_Pc [.ref (g.2.1 (2 + 0))] (PW g (xw g M))) (va_Qv Q (PB g (xw g)) (Af 0 g)) 0 0 (Af 0 g) := by
  refine Met.ofW (cc := cX6_advanceWord) (maxL := 2) (ret := none) (by decide +kernel) rfl ?_
  intro p e s m args below meth c s₁ B hml hv
  obtain ⟨rfl, hv⟩ := hv
  have C := CX.start (own := RX6) B hml rfl gi hv
  have hP := hv.1
  have hS : va_S (Af 0 g) s.heap s.heap [] := va_S.rf
  have hl := lv_entry ([.ref (g.2.1 (2 + 0))]) (n := 2) (Nat.le_of_ble_eq_true rfl)
  rw [lg_entry_eq]
  generalize (lg_sl ([.ref (g.2.1 (2 + 0))]) ++ List.replicate (2 - (lg_sl ([.ref (g.2.1 (2 + 0))])).length) Slot.unset).toArray = ls at hl ⊢
  have hl : lv_has ls 2 [(0, .ref (g.2.1 (2 + 0)))] := hl
  unfold p_X6_advanceWord at hw
  refine lv_iconst (v := 0) C.1 C.2.1 dX6_advanceWord_0 (by decide) ?_
  refine lv_istore_n (lv' := [(1, .int 0), (0, .ref (g.2.1 (2 + 0)))]) C.1 C.2.1 dX6_advanceWord_1 rfl hl (by decide) rfl (fun ls hl => ?_)
  refine lv_aload_n C.1 C.2.1 dX6_advanceWord_2 rfl (lv_at hl 1 rfl) ?_
  refine lv_iconst (v := 0) C.1 C.2.1 dX6_advanceWord_3 (by decide) ?_
  refine pX6_62 C hP hS Nat.zero_lt_one dX6_advanceWord_4 (fun M1 e1 H locs hP hS => ?_)
  have hw := hw M1 e1
  obtain ⟨n9, hw⟩ := hw
  exact k_X6_advanceWord_7 (Q := Q) C n9 0  _ hw (lv_sub hl [1, 0] rfl) hP hS
def b_X6_advance_108 (Q : Mem → Prop) (s1 : Int32) (M : Mem) : Prop := (∀ M10 : Mem, M10 = sI M 2 0 5 s1 → (∀ M11 : Mem, M11 = sI M10 2 0 4 ((M10.1 2 0 4) + 1) → (Q M11)))
set_option maxRecDepth 100000 in
set_option maxHeartbeats 4000000 in
theorem k_X6_advance_108 {p : Program} {l : Launch} {e : Env} {s : State} {m : MethodId} {args : Array Value} {below : List Frame} {meth : Method} {c : Code} {g : Geo} (C : CX g p s m args meth c cX6_advance 2 none RX6) {Q : Mem → Prop} (s1 : Int32) (M : Mem) (hw : b_X6_advance_108 Q s1 M) {H : Heap} {locs : List Loc} {ls : Array Slot} (hl : lv_has ls 2 [(0, .ref (g.2.1 (2 + 0)))]) (hP : va_P g.1 clz (xw g M) H) (hS : va_S (Af 0 g) s.heap H locs) : W p l e ({ frames := 2, cells := 0, slots := 0, locals := 41 } : Room) s m args below meth c H locs 0 0 (MQ below (va_Qv Q (PB g (xw g)) (Af 0 g)) args s 0 0 (Af 0 g)) (F0 m 108 ls [.int s1, .ref (g.2.1 (2 + 0))]) := by
  unfold b_X6_advance_108 at hw
  refine pX6_49 C hP hS Nat.zero_lt_one dX6_advance_108 (fun M10 e10 H locs hP hS => ?_)
  have hw := hw M10 e10
  refine lv_aload_n C.1 C.2.1 dX6_advance_111 rfl (lv_at hl 0 rfl) ?_
  refine lv_dup C.1 C.2.1 dX6_advance_112 rfl ?_
  refine gX6_31 C hP Nat.zero_lt_one dX6_advance_113 ?_
  refine lv_iconst (v := 1) C.1 C.2.1 dX6_advance_116 (by decide) ?_
  refine lv_iadd C.1 C.2.1 dX6_advance_117 ?_
  refine pX6_31 C hP hS Nat.zero_lt_one dX6_advance_118 (fun M11 e11 H locs hP hS => ?_)
  have hw := hw M11 e11
  exact retV (wf := (xw g)) C hP hS hw dX6_advance_121
def b_X6_advance_42 (Q : Mem → Prop) (M : Mem) : Prop := (∀ M2 : Mem, M2 = sI M 2 0 6 (M.1 2 0 4) → (p_X6_here  M2 (fun r3 M3 => ((¬ r3 = (-1) → (p_X6_isLetter r3 M3 (fun r5 M5 => ((r5 = 0 → (p_X6_isDigit r3 M5 (fun r7 M7 => ((r7 = 0 → ((¬ r3 = 59 → (b_X6_advance_108 Q 4 M7)) ∧ (r3 = 59 → (b_X6_advance_108 Q 3 M7)))) ∧ (¬ r7 = 0 → (p_X6_advanceNumber  M7 (fun M12 => (Q M12)))))))) ∧ (¬ r5 = 0 → (p_X6_advanceWord  M5 (fun M13 => (Q M13)))))))) ∧ (r3 = (-1) → (∀ M14 : Mem, M14 = sI M3 2 0 5 0 → (Q M14)))))))
set_option maxRecDepth 100000 in
set_option maxHeartbeats 4000000 in
theorem k_X6_advance_42 {p : Program} {l : Launch} {e : Env} {s : State} {m : MethodId} {args : Array Value} {below : List Frame} {meth : Method} {c : Code} {g : Geo} (C : CX g p s m args meth c cX6_advance 2 none RX6) {Q : Mem → Prop} (M : Mem) (hw : b_X6_advance_42 Q M) {H : Heap} {locs : List Loc} {ls : Array Slot} (hl : lv_has ls 2 [(0, .ref (g.2.1 (2 + 0)))]) (hP : va_P g.1 clz (xw g M) H) (hS : va_S (Af 0 g) s.heap H locs) : W p l e ({ frames := 2, cells := 0, slots := 0, locals := 41 } : Room) s m args below meth c H locs 0 0 (MQ below (va_Qv Q (PB g (xw g)) (Af 0 g)) args s 0 0 (Af 0 g)) (F0 m 42 ls []) := by
  unfold b_X6_advance_42 at hw
  refine lv_aload_n C.1 C.2.1 dX6_advance_42 rfl (lv_at hl 0 rfl) ?_
  refine lv_aload_n C.1 C.2.1 dX6_advance_43 rfl (lv_at hl 0 rfl) ?_
  refine gX6_31 C hP Nat.zero_lt_one dX6_advance_44 ?_
  refine pX6_59 C hP hS Nat.zero_lt_one dX6_advance_47 (fun M2 e2 H locs hP hS => ?_)
  have hw := hw M2 e2
  refine lv_aload_n C.1 C.2.1 dX6_advance_50 rfl (lv_at hl 0 rfl) ?_
  refine goI (wf := (xw g)) (runV (w := xw g M2) (As := []) (rest := []) C lkX6_209 (c_X6_here l g C.2.2.2.2.2.2.2.2.2.2   M2 _ hw) hP hS rfl rfl ⟨Nat.le_of_ble_eq_true rfl, Nat.le_of_ble_eq_true rfl⟩ (xx_2 Nat.zero_lt_one) rfl rfl hl.1 rfl (Nat.le_of_ble_eq_true rfl) dX6_advance_51) hS (fun r3 M3 hw H locs hP hS => ?_)
  refine lv_istore_n (lv' := [(1, .int r3), (0, .ref (g.2.1 (2 + 0)))]) C.1 C.2.1 dX6_advance_54 rfl hl (by decide) rfl (fun ls hl => ?_)
  refine lv_iload_n C.1 C.2.1 dX6_advance_55 rfl (lv_at hl 0 rfl) ?_
  refine lv_iconst (v := (-1)) C.1 C.2.1 dX6_advance_56 (by decide) ?_
  refine lv_icmp_ne (tgt := 68) C.1 C.2.1 dX6_advance_57 (by decide) (fun h4 => ?_) (fun h4 => ?_)
  · have hw := hw.1 h4
    refine lv_iload_n C.1 C.2.1 dX6_advance_68 rfl (lv_at hl 0 rfl) ?_
    refine goI (wf := (xw g)) (runS (w := xw g M3) (As := [.int r3]) (rest := []) C lkX6_213 (c_X6_isLetter l g C.2.2.2.2.2.2.2.2.2.2 r3  M3 _ hw) hP hS rfl rfl ⟨Nat.le_of_ble_eq_true rfl, Nat.le_of_ble_eq_true rfl⟩ hl.1 rfl (Nat.le_of_ble_eq_true rfl) dX6_advance_69) hS (fun r5 M5 hw H locs hP hS => ?_)
    obtain ⟨hw, hz5⟩ := hw
    refine lv_if_eq (tgt := 82) C.1 C.2.1 dX6_advance_72 (by decide) (fun h6 => ?_) (fun h6 => ?_)
    · have hw := hw.1 h6
      refine lv_iload_n C.1 C.2.1 dX6_advance_82 rfl (lv_at hl 0 rfl) ?_
      refine goI (wf := (xw g)) (runS (w := xw g M5) (As := [.int r3]) (rest := []) C lkX6_219 (c_X6_isDigit l g C.2.2.2.2.2.2.2.2.2.2 r3  M5 _ hw) hP hS rfl rfl ⟨Nat.le_of_ble_eq_true rfl, Nat.le_of_ble_eq_true rfl⟩ hl.1 rfl (Nat.le_of_ble_eq_true rfl) dX6_advance_83) hS (fun r7 M7 hw H locs hP hS => ?_)
      obtain ⟨hw, hz7⟩ := hw
      refine lv_if_eq (tgt := 96) C.1 C.2.1 dX6_advance_86 (by decide) (fun h8 => ?_) (fun h8 => ?_)
      · have hw := hw.1 h8
        refine lv_aload_n C.1 C.2.1 dX6_advance_96 rfl (lv_at hl 1 rfl) ?_
        refine lv_iload_n C.1 C.2.1 dX6_advance_97 rfl (lv_at hl 0 rfl) ?_
        refine lv_bipush (v := 59) C.1 C.2.1 dX6_advance_98 (by decide) ?_
        refine lv_icmp_ne (tgt := 107) C.1 C.2.1 dX6_advance_100 (by decide) (fun h9 => ?_) (fun h9 => ?_)
        · have hw := hw.1 h9
          refine lv_iconst (v := 4) C.1 C.2.1 dX6_advance_107 (by decide) ?_
          exact k_X6_advance_108 (Q := Q) C 4  _ hw (lv_sub hl [1] rfl) hP hS
        · have hw := hw.2 h9
          refine lv_iconst (v := 3) C.1 C.2.1 dX6_advance_103 (by decide) ?_
          refine lv_goto (tgt := 108) C.1 C.2.1 dX6_advance_104 (by decide) ?_
          exact k_X6_advance_108 (Q := Q) C 3  _ hw (lv_sub hl [1] rfl) hP hS
      · have hw := hw.2 h8
        refine lv_aload_n C.1 C.2.1 dX6_advance_89 rfl (lv_at hl 1 rfl) ?_
        refine goV (wf := (xw g)) (runV (w := xw g M7) (As := []) (rest := []) C lkX6_222 (c_X6_advanceNumber l g C.2.2.2.2.2.2.2.2.2.2   M7 _ hw) hP hS rfl rfl ⟨Nat.le_of_ble_eq_true rfl, Nat.le_of_ble_eq_true rfl⟩ (xx_2 Nat.zero_lt_one) rfl rfl hl.1 rfl (Nat.le_of_ble_eq_true rfl) dX6_advance_90) hS (fun M12 hw H locs hP hS => ?_)
        refine lv_goto (tgt := 121) C.1 C.2.1 dX6_advance_93 (by decide) ?_
        exact retV (wf := (xw g)) C hP hS hw dX6_advance_121
    · have hw := hw.2 h6
      refine lv_aload_n C.1 C.2.1 dX6_advance_75 rfl (lv_at hl 1 rfl) ?_
      refine goV (wf := (xw g)) (runV (w := xw g M5) (As := []) (rest := []) C lkX6_216 (c_X6_advanceWord l g C.2.2.2.2.2.2.2.2.2.2   M5 _ hw) hP hS rfl rfl ⟨Nat.le_of_ble_eq_true rfl, Nat.le_of_ble_eq_true rfl⟩ (xx_2 Nat.zero_lt_one) rfl rfl hl.1 rfl (Nat.le_of_ble_eq_true rfl) dX6_advance_76) hS (fun M13 hw H locs hP hS => ?_)
      refine lv_goto (tgt := 121) C.1 C.2.1 dX6_advance_79 (by decide) ?_
      exact retV (wf := (xw g)) C hP hS hw dX6_advance_121
  · have hw := hw.2 h4
    refine lv_aload_n C.1 C.2.1 dX6_advance_60 rfl (lv_at hl 1 rfl) ?_
    refine lv_iconst (v := 0) C.1 C.2.1 dX6_advance_61 (by decide) ?_
    refine pX6_49 C hP hS Nat.zero_lt_one dX6_advance_62 (fun M14 e14 H locs hP hS => ?_)
    have hw := hw M14 e14
    refine lv_goto (tgt := 121) C.1 C.2.1 dX6_advance_65 (by decide) ?_
    exact retV (wf := (xw g)) C hP hS hw dX6_advance_121
def b_X6_advance_29 (Q : Mem → Prop) (k0 : Mem → Prop) (M : Mem) : Prop := (∀ M17 : Mem, M17 = sI M 2 0 4 ((M.1 2 0 4) + 1) → (k0  M17))
set_option maxRecDepth 100000 in
set_option maxHeartbeats 4000000 in
theorem k_X6_advance_29 {p : Program} {l : Launch} {e : Env} {s : State} {m : MethodId} {args : Array Value} {below : List Frame} {meth : Method} {c : Code} {g : Geo} (C : CX g p s m args meth c cX6_advance 2 none RX6) {Q : Mem → Prop} {k0 : Mem → Prop} (hk0 : ∀ (M : Mem), k0 M → ∀ (H : Heap) (locs : List Loc) (ls : Array Slot), lv_has ls 2 [(0, .ref (g.2.1 (2 + 0)))] → va_P g.1 clz (xw g M) H → va_S (Af 0 g) s.heap H locs → W p l e ({ frames := 2, cells := 0, slots := 0, locals := 41 } : Room) s m args below meth c H locs 0 0 (MQ below (va_Qv Q (PB g (xw g)) (Af 0 g)) args s 0 0 (Af 0 g)) (F0 m 0 ls [])) (M : Mem) (hw : b_X6_advance_29 Q k0 M) {H : Heap} {locs : List Loc} {ls : Array Slot} (hl : lv_has ls 2 [(0, .ref (g.2.1 (2 + 0)))]) (hP : va_P g.1 clz (xw g M) H) (hS : va_S (Af 0 g) s.heap H locs) : W p l e ({ frames := 2, cells := 0, slots := 0, locals := 41 } : Room) s m args below meth c H locs 0 0 (MQ below (va_Qv Q (PB g (xw g)) (Af 0 g)) args s 0 0 (Af 0 g)) (F0 m 29 ls []) := by
  unfold b_X6_advance_29 at hw
  refine lv_aload_n C.1 C.2.1 dX6_advance_29 rfl (lv_at hl 0 rfl) ?_
  refine lv_dup C.1 C.2.1 dX6_advance_30 rfl ?_
  refine gX6_31 C hP Nat.zero_lt_one dX6_advance_31 ?_
  refine lv_iconst (v := 1) C.1 C.2.1 dX6_advance_34 (by decide) ?_
  refine lv_iadd C.1 C.2.1 dX6_advance_35 ?_
  refine pX6_31 C hP hS Nat.zero_lt_one dX6_advance_36 (fun M17 e17 H locs hP hS => ?_)
  have hw := hw M17 e17
  refine lv_goto (tgt := 0) C.1 C.2.1 dX6_advance_39 (by decide) ?_
  exact hk0   _ hw _ _ _ (lv_sub hl [0] rfl) hP hS
def b_X6_advance_0 (Q : Mem → Prop) : Nat → Mem → Prop
  | 0, _ => False
  | n + 1, M => (((M.1 2 0 3) ≤ (M.1 2 0 4) → (b_X6_advance_42 Q  M)) ∧ (¬ (M.1 2 0 3) ≤ (M.1 2 0 4) → (p_X6_here  M (fun r15 M15 => ((r15 = 32 → (b_X6_advance_29 Q (fun M => b_X6_advance_0 Q n M)  M15)) ∧ (¬ r15 = 32 → (p_X6_here  M15 (fun r18 M18 => ((¬ r18 = 10 → (b_X6_advance_42 Q  M18)) ∧ (r18 = 10 → (b_X6_advance_29 Q (fun M => b_X6_advance_0 Q n M)  M18)))))))))))
set_option maxRecDepth 100000 in
set_option maxHeartbeats 4000000 in
theorem k_X6_advance_0 {p : Program} {l : Launch} {e : Env} {s : State} {m : MethodId} {args : Array Value} {below : List Frame} {meth : Method} {c : Code} {g : Geo} (C : CX g p s m args meth c cX6_advance 2 none RX6) {Q : Mem → Prop} : ∀ (n : Nat) (M : Mem) (hw : b_X6_advance_0 Q n M) {H : Heap} {locs : List Loc} {ls : Array Slot} (hl : lv_has ls 2 [(0, .ref (g.2.1 (2 + 0)))]) (hP : va_P g.1 clz (xw g M) H) (hS : va_S (Af 0 g) s.heap H locs), W p l e ({ frames := 2, cells := 0, slots := 0, locals := 41 } : Room) s m args below meth c H locs 0 0 (MQ below (va_Qv Q (PB g (xw g)) (Af 0 g)) args s 0 0 (Af 0 g)) (F0 m 0 ls []) := by
  intro n
  induction n with
  | zero => intro M hw H locs ls hl hP hS; exact absurd hw (by rw [b_X6_advance_0]; exact fun h => h)
  | succ n ih =>
    intro M hw H locs ls hl hP hS
    rw [b_X6_advance_0] at hw
    refine lv_aload_n C.1 C.2.1 dX6_advance_0 rfl (lv_at hl 0 rfl) ?_
    refine gX6_31 C hP Nat.zero_lt_one dX6_advance_1 ?_
    refine lv_aload_n C.1 C.2.1 dX6_advance_4 rfl (lv_at hl 0 rfl) ?_
    refine gX6_28 C hP Nat.zero_lt_one dX6_advance_5 ?_
    refine lv_icmp_ge (tgt := 42) C.1 C.2.1 dX6_advance_8 (by decide) (fun h1 => ?_) (fun h1 => ?_)
    · have hw := hw.1 h1
      exact k_X6_advance_42 (Q := Q) C   _ hw (lv_sub hl [0] rfl) hP hS
    · have hw := hw.2 h1
      refine lv_aload_n C.1 C.2.1 dX6_advance_11 rfl (lv_at hl 0 rfl) ?_
      refine goI (wf := (xw g)) (runV (w := xw g M) (As := []) (rest := []) C lkX6_209 (c_X6_here l g C.2.2.2.2.2.2.2.2.2.2   M _ hw) hP hS rfl rfl ⟨Nat.le_of_ble_eq_true rfl, Nat.le_of_ble_eq_true rfl⟩ (xx_2 Nat.zero_lt_one) rfl rfl hl.1 rfl (Nat.le_of_ble_eq_true rfl) dX6_advance_12) hS (fun r15 M15 hw H locs hP hS => ?_)
      refine lv_bipush (v := 32) C.1 C.2.1 dX6_advance_15 (by decide) ?_
      refine lv_icmp_eq (tgt := 29) C.1 C.2.1 dX6_advance_17 (by decide) (fun h16 => ?_) (fun h16 => ?_)
      · have hw := hw.1 h16
        exact k_X6_advance_29 (Q := Q) C (fun   M hw H locs ls hl hP hS => ih   M hw hl hP hS)   _ hw (lv_sub hl [0] rfl) hP hS
      · have hw := hw.2 h16
        refine lv_aload_n C.1 C.2.1 dX6_advance_20 rfl (lv_at hl 0 rfl) ?_
        refine goI (wf := (xw g)) (runV (w := xw g M15) (As := []) (rest := []) C lkX6_209 (c_X6_here l g C.2.2.2.2.2.2.2.2.2.2   M15 _ hw) hP hS rfl rfl ⟨Nat.le_of_ble_eq_true rfl, Nat.le_of_ble_eq_true rfl⟩ (xx_2 Nat.zero_lt_one) rfl rfl hl.1 rfl (Nat.le_of_ble_eq_true rfl) dX6_advance_21) hS (fun r18 M18 hw H locs hP hS => ?_)
        refine lv_bipush (v := 10) C.1 C.2.1 dX6_advance_24 (by decide) ?_
        refine lv_icmp_ne (tgt := 42) C.1 C.2.1 dX6_advance_26 (by decide) (fun h19 => ?_) (fun h19 => ?_)
        · have hw := hw.1 h19
          exact k_X6_advance_42 (Q := Q) C   _ hw (lv_sub hl [0] rfl) hP hS
        · have hw := hw.2 h19
          exact k_X6_advance_29 (Q := Q) C (fun   M hw H locs ls hl hP hS => ih   M hw hl hP hS)   _ hw (lv_sub hl [0] rfl) hP hS
def p_X6_advance (M : Mem) (Q : Mem → Prop) : Prop := (∃ n0 : Nat, b_X6_advance_0 Q n0  M)
set_option maxRecDepth 100000 in
set_option maxHeartbeats 4000000 in
theorem c_X6_advance (l : Launch) (g : Geo) (gi : GI g) (M : Mem) (Q : Mem → Prop) (hw : p_X6_advance  M Q) : Met l yX6_advance (Cond.code yX6_advance cX6_advance 2 none :: bg) ({ frames := 2, cells := 0, slots := 0, locals := 41 } : Room) (va_Pc [.ref (g.2.1 (2 + 0))] (PW g (xw g M))) (va_Qv Q (PB g (xw g)) (Af 0 g)) 0 0 (Af 0 g) := by
  refine Met.ofW (cc := cX6_advance) (maxL := 2) (ret := none) (by decide +kernel) rfl ?_
  intro p e s m args below meth c s₁ B hml hv
  obtain ⟨rfl, hv⟩ := hv
  have C := CX.start (own := RX6) B hml rfl gi hv
  have hP := hv.1
  have hS : va_S (Af 0 g) s.heap s.heap [] := va_S.rf
  have hl := lv_entry ([.ref (g.2.1 (2 + 0))]) (n := 2) (Nat.le_of_ble_eq_true rfl)
  rw [lg_entry_eq]
  generalize (lg_sl ([.ref (g.2.1 (2 + 0))]) ++ List.replicate (2 - (lg_sl ([.ref (g.2.1 (2 + 0))])).length) Slot.unset).toArray = ls at hl ⊢
  have hl : lv_has ls 2 [(0, .ref (g.2.1 (2 + 0)))] := hl
  unfold p_X6_advance at hw
  obtain ⟨n9, hw⟩ := hw
  exact k_X6_advance_0 (Q := Q) C n9   _ hw (lv_sub hl [0] rfl) hP hS
def p_J6_bitCount_0f7a4 (a0 : Int32) (M : Mem) (Q : Int32 → Mem → Prop) : Prop := (∀ x1 : Int32, x1 = (a0 - (((a0 : Int32).toUInt32 >>> ((1 : Int32).toUInt32 &&& Int32.toUInt32 31)).toInt32 &&& 1431655765)) → (∀ x2 : Int32, x2 = ((x1 &&& 858993459) + (((x1 : Int32).toUInt32 >>> ((2 : Int32).toUInt32 &&& Int32.toUInt32 31)).toInt32 &&& 858993459)) → (∀ x3 : Int32, x3 = ((x2 + ((x2 : Int32).toUInt32 >>> ((4 : Int32).toUInt32 &&& Int32.toUInt32 31)).toInt32) &&& 252645135) → (∀ x4 : Int32, x4 = (x3 + ((x3 : Int32).toUInt32 >>> ((8 : Int32).toUInt32 &&& Int32.toUInt32 31)).toInt32) → (∀ x5 : Int32, x5 = (x4 + ((x4 : Int32).toUInt32 >>> ((16 : Int32).toUInt32 &&& Int32.toUInt32 31)).toInt32) → (Q (x5 &&& 63) M))))))
set_option maxRecDepth 100000 in
set_option maxHeartbeats 4000000 in
theorem c_J6_bitCount_0f7a4 (l : Launch) (g : Geo) (gi : GI g) (a0 : Int32) (M : Mem) (Q : Int32 → Mem → Prop) (hw : p_J6_bitCount_0f7a4 a0 M Q) : Met l yJ6_bitCount_0f7a4 (Cond.code yJ6_bitCount_0f7a4 cJ6_bitCount_0f7a4 1 (some .int) :: bg) ({ frames := 0, cells := 0, slots := 0, locals := 0 } : Room) (va_Pc [.int a0] (PW g (xw g M))) (va_Qi Q (PB g (xw g)) (Af 0 g)) 0 0 (Af 0 g) := by
  refine Met.ofW (cc := cJ6_bitCount_0f7a4) (maxL := 1) (ret := (some .int)) (by decide +kernel) rfl ?_
  intro p e s m args below meth c s₁ B hml hv
  obtain ⟨rfl, hv⟩ := hv
  have C := CX.start (own := RJ6) B hml rfl gi hv
  have hP := hv.1
  have hS : va_S (Af 0 g) s.heap s.heap [] := va_S.rf
  have hl := lv_entry ([.int a0]) (n := 1) (Nat.le_of_ble_eq_true rfl)
  rw [lg_entry_eq]
  generalize (lg_sl ([.int a0]) ++ List.replicate (1 - (lg_sl ([.int a0])).length) Slot.unset).toArray = ls at hl ⊢
  have hl : lv_has ls 1 [(0, .int a0)] := hl
  unfold p_J6_bitCount_0f7a4 at hw
  refine lv_iload_n C.1 C.2.1 dJ6_bitCount_0f7a4_0 rfl (lv_at hl 0 rfl) ?_
  refine lv_iload_n C.1 C.2.1 dJ6_bitCount_0f7a4_1 rfl (lv_at hl 0 rfl) ?_
  refine lv_iconst (v := 1) C.1 C.2.1 dJ6_bitCount_0f7a4_2 (by decide) ?_
  refine lv_iushr C.1 C.2.1 dJ6_bitCount_0f7a4_3 rfl ?_
  refine lv_ldcw (v := 1431655765) C.1 C.2.1 C.2.2.2.2.1 (C.2.2.2.2.2.1 _ (bg_of 271 (by decide +kernel) rfl)) dJ6_bitCount_0f7a4_4 ?_
  refine lv_iand C.1 C.2.1 dJ6_bitCount_0f7a4_7 ?_
  refine lv_isub C.1 C.2.1 dJ6_bitCount_0f7a4_8 ?_
  refine lv_topi (fun x1 e1 => ?_)
  have hw := hw x1 e1
  refine lv_istore_n (lv' := [(0, .int x1)]) C.1 C.2.1 dJ6_bitCount_0f7a4_9 rfl hl (by decide) rfl (fun ls hl => ?_)
  refine lv_iload_n C.1 C.2.1 dJ6_bitCount_0f7a4_10 rfl (lv_at hl 0 rfl) ?_
  refine lv_ldcw (v := 858993459) C.1 C.2.1 C.2.2.2.2.1 (C.2.2.2.2.2.1 _ (bg_of 272 (by decide +kernel) rfl)) dJ6_bitCount_0f7a4_11 ?_
  refine lv_iand C.1 C.2.1 dJ6_bitCount_0f7a4_14 ?_
  refine lv_iload_n C.1 C.2.1 dJ6_bitCount_0f7a4_15 rfl (lv_at hl 0 rfl) ?_
  refine lv_iconst (v := 2) C.1 C.2.1 dJ6_bitCount_0f7a4_16 (by decide) ?_
  refine lv_iushr C.1 C.2.1 dJ6_bitCount_0f7a4_17 rfl ?_
  refine lv_ldcw (v := 858993459) C.1 C.2.1 C.2.2.2.2.1 (C.2.2.2.2.2.1 _ (bg_of 272 (by decide +kernel) rfl)) dJ6_bitCount_0f7a4_18 ?_
  refine lv_iand C.1 C.2.1 dJ6_bitCount_0f7a4_21 ?_
  refine lv_iadd C.1 C.2.1 dJ6_bitCount_0f7a4_22 ?_
  refine lv_topi (fun x2 e2 => ?_)
  have hw := hw x2 e2
  refine lv_istore_n (lv' := [(0, .int x2)]) C.1 C.2.1 dJ6_bitCount_0f7a4_23 rfl hl (by decide) rfl (fun ls hl => ?_)
  refine lv_iload_n C.1 C.2.1 dJ6_bitCount_0f7a4_24 rfl (lv_at hl 0 rfl) ?_
  refine lv_iload_n C.1 C.2.1 dJ6_bitCount_0f7a4_25 rfl (lv_at hl 0 rfl) ?_
  refine lv_iconst (v := 4) C.1 C.2.1 dJ6_bitCount_0f7a4_26 (by decide) ?_
  refine lv_iushr C.1 C.2.1 dJ6_bitCount_0f7a4_27 rfl ?_
  refine lv_iadd C.1 C.2.1 dJ6_bitCount_0f7a4_28 ?_
  refine lv_ldcw (v := 252645135) C.1 C.2.1 C.2.2.2.2.1 (C.2.2.2.2.2.1 _ (bg_of 273 (by decide +kernel) rfl)) dJ6_bitCount_0f7a4_29 ?_
  refine lv_iand C.1 C.2.1 dJ6_bitCount_0f7a4_32 ?_
  refine lv_topi (fun x3 e3 => ?_)
  have hw := hw x3 e3
  refine lv_istore_n (lv' := [(0, .int x3)]) C.1 C.2.1 dJ6_bitCount_0f7a4_33 rfl hl (by decide) rfl (fun ls hl => ?_)
  refine lv_iload_n C.1 C.2.1 dJ6_bitCount_0f7a4_34 rfl (lv_at hl 0 rfl) ?_
  refine lv_iload_n C.1 C.2.1 dJ6_bitCount_0f7a4_35 rfl (lv_at hl 0 rfl) ?_
  refine lv_bipush (v := 8) C.1 C.2.1 dJ6_bitCount_0f7a4_36 (by decide) ?_
  refine lv_iushr C.1 C.2.1 dJ6_bitCount_0f7a4_38 rfl ?_
  refine lv_iadd C.1 C.2.1 dJ6_bitCount_0f7a4_39 ?_
  refine lv_topi (fun x4 e4 => ?_)
  have hw := hw x4 e4
  refine lv_istore_n (lv' := [(0, .int x4)]) C.1 C.2.1 dJ6_bitCount_0f7a4_40 rfl hl (by decide) rfl (fun ls hl => ?_)
  refine lv_iload_n C.1 C.2.1 dJ6_bitCount_0f7a4_41 rfl (lv_at hl 0 rfl) ?_
  refine lv_iload_n C.1 C.2.1 dJ6_bitCount_0f7a4_42 rfl (lv_at hl 0 rfl) ?_
  refine lv_bipush (v := 16) C.1 C.2.1 dJ6_bitCount_0f7a4_43 (by decide) ?_
  refine lv_iushr C.1 C.2.1 dJ6_bitCount_0f7a4_45 rfl ?_
  refine lv_iadd C.1 C.2.1 dJ6_bitCount_0f7a4_46 ?_
  refine lv_topi (fun x5 e5 => ?_)
  have hw := hw x5 e5
  refine lv_istore_n (lv' := [(0, .int x5)]) C.1 C.2.1 dJ6_bitCount_0f7a4_47 rfl hl (by decide) rfl (fun ls hl => ?_)
  refine lv_iload_n C.1 C.2.1 dJ6_bitCount_0f7a4_48 rfl (lv_at hl 0 rfl) ?_
  refine lv_bipush (v := 63) C.1 C.2.1 dJ6_bitCount_0f7a4_49 (by decide) ?_
  refine lv_iand C.1 C.2.1 dJ6_bitCount_0f7a4_51 ?_
  exact retI (wf := (xw g)) C hP hS hw dJ6_bitCount_0f7a4_52
def p_X10_stepped (a0 : Int32) (a1 : Int32) (M : Mem) (Q : Int32 → Mem → Prop) : Prop := (p_J6_bitCount_0f7a4 ((a0 &&& a1)) M (fun r1 M1 => (∀ x2 : Int32, x2 = (r1 &&& 1) → (Q (((a0 : Int32).toUInt32 >>> ((1 : Int32).toUInt32 &&& Int32.toUInt32 31)).toInt32 ||| (x2 <<< (4 &&& 31))) M1))))
set_option maxRecDepth 100000 in
set_option maxHeartbeats 4000000 in
theorem c_X10_stepped (l : Launch) (g : Geo) (gi : GI g) (a0 : Int32) (a1 : Int32) (M : Mem) (Q : Int32 → Mem → Prop) (hw : p_X10_stepped a0 a1 M Q) : Met l yX10_stepped (Cond.code yX10_stepped cX10_stepped 3 (some .int) :: bg) ({ frames := 1, cells := 0, slots := 0, locals := 20 } : Room) (va_Pc [.int a0, .int a1] (PW g (xw g M))) (va_Qi Q (PB g (xw g)) (Af 0 g)) 0 0 (Af 0 g) := by
  refine Met.ofW (cc := cX10_stepped) (maxL := 3) (ret := (some .int)) (by decide +kernel) rfl ?_
  intro p e s m args below meth c s₁ B hml hv
  obtain ⟨rfl, hv⟩ := hv
  have C := CX.start (own := RX10) B hml rfl gi hv
  have hP := hv.1
  have hS : va_S (Af 0 g) s.heap s.heap [] := va_S.rf
  have hl := lv_entry ([.int a0, .int a1]) (n := 3) (Nat.le_of_ble_eq_true rfl)
  rw [lg_entry_eq]
  generalize (lg_sl ([.int a0, .int a1]) ++ List.replicate (3 - (lg_sl ([.int a0, .int a1])).length) Slot.unset).toArray = ls at hl ⊢
  have hl : lv_has ls 3 [(0, .int a0), (1, .int a1)] := hl
  unfold p_X10_stepped at hw
  refine lv_iload_n C.1 C.2.1 dX10_stepped_0 rfl (lv_at hl 0 rfl) ?_
  refine lv_iload_n C.1 C.2.1 dX10_stepped_1 rfl (lv_at hl 1 rfl) ?_
  refine lv_iand C.1 C.2.1 dX10_stepped_2 ?_
  refine goI (wf := (xw g)) (runS (w := xw g M) (As := [.int (a0 &&& a1)]) (rest := []) C lkX10_148 (c_J6_bitCount_0f7a4 l g C.2.2.2.2.2.2.2.2.2.2 ((a0 &&& a1))  M _ hw) hP hS rfl rfl ⟨Nat.le_of_ble_eq_true rfl, Nat.le_of_ble_eq_true rfl⟩ hl.1 rfl (Nat.le_of_ble_eq_true rfl) dX10_stepped_3) hS (fun r1 M1 hw H locs hP hS => ?_)
  refine lv_iconst (v := 1) C.1 C.2.1 dX10_stepped_6 (by decide) ?_
  refine lv_iand C.1 C.2.1 dX10_stepped_7 ?_
  refine lv_topi (fun x2 e2 => ?_)
  have hw := hw x2 e2
  refine lv_istore_n (lv' := [(2, .int x2), (0, .int a0), (1, .int a1)]) C.1 C.2.1 dX10_stepped_8 rfl hl (by decide) rfl (fun ls hl => ?_)
  refine lv_iload_n C.1 C.2.1 dX10_stepped_9 rfl (lv_at hl 1 rfl) ?_
  refine lv_iconst (v := 1) C.1 C.2.1 dX10_stepped_10 (by decide) ?_
  refine lv_iushr C.1 C.2.1 dX10_stepped_11 rfl ?_
  refine lv_iload_n C.1 C.2.1 dX10_stepped_12 rfl (lv_at hl 0 rfl) ?_
  refine lv_iconst (v := 4) C.1 C.2.1 dX10_stepped_13 (by decide) ?_
  refine lv_ishl C.1 C.2.1 dX10_stepped_14 ?_
  refine lv_ior C.1 C.2.1 dX10_stepped_15 ?_
  exact retI (wf := (xw g)) C hP hS hw dX10_stepped_16
def b_X10_goesOut_7 (Q : Int32 → Mem → Prop) : Nat → Int32 → Int32 → Int32 → Int32 → Mem → Prop
  | 0, _, _, _, _, _ => False
  | n + 1, v0, v1, v2, v3, M => ((31 ≤ v3 → (Q v2 M)) ∧ (¬ 31 ≤ v3 → (∀ x2 : Int32, x2 = (v2 ||| ((v1 &&& 1) <<< (v3 &&& 31))) → (p_X10_stepped v1 v0 M (fun r3 M3 => (∀ x4 : Int32, x4 = (v3 + 1) → (b_X10_goesOut_7 Q n v0 r3 x2 x4 M3)))))))
set_option maxRecDepth 100000 in
set_option maxHeartbeats 4000000 in
theorem k_X10_goesOut_7 {p : Program} {l : Launch} {e : Env} {s : State} {m : MethodId} {args : Array Value} {below : List Frame} {meth : Method} {c : Code} {g : Geo} (C : CX g p s m args meth c cX10_goesOut 4 (some .int) RX10) {Q : Int32 → Mem → Prop} : ∀ (n : Nat) (v0 : Int32) (v1 : Int32) (v2 : Int32) (v3 : Int32) (M : Mem) (hw : b_X10_goesOut_7 Q n v0 v1 v2 v3 M) {H : Heap} {locs : List Loc} {ls : Array Slot} (hl : lv_has ls 4 [(0, .int v0), (1, .int v1), (2, .int v2), (3, .int v3)]) (hP : va_P g.1 clz (xw g M) H) (hS : va_S (Af 0 g) s.heap H locs), W p l e ({ frames := 2, cells := 0, slots := 0, locals := 42 } : Room) s m args below meth c H locs 0 0 (MQ below (va_Qi Q (PB g (xw g)) (Af 0 g)) args s 0 0 (Af 0 g)) (F0 m 7 ls []) := by
  intro n
  induction n with
  | zero => intro v0 v1 v2 v3 M hw H locs ls hl hP hS; exact absurd hw (by rw [b_X10_goesOut_7]; exact fun h => h)
  | succ n ih =>
    intro v0 v1 v2 v3 M hw H locs ls hl hP hS
    rw [b_X10_goesOut_7] at hw
    refine lv_iload_n C.1 C.2.1 dX10_goesOut_7 rfl (lv_at hl 3 rfl) ?_
    refine lv_bipush (v := 31) C.1 C.2.1 dX10_goesOut_8 (by decide) ?_
    refine lv_icmp_ge (tgt := 33) C.1 C.2.1 dX10_goesOut_10 (by decide) (fun h1 => ?_) (fun h1 => ?_)
    · have hw := hw.1 h1
      refine lv_iload_n C.1 C.2.1 dX10_goesOut_33 rfl (lv_at hl 2 rfl) ?_
      exact retI (wf := (xw g)) C hP hS hw dX10_goesOut_34
    · have hw := hw.2 h1
      refine lv_iload_n C.1 C.2.1 dX10_goesOut_13 rfl (lv_at hl 2 rfl) ?_
      refine lv_iload_n C.1 C.2.1 dX10_goesOut_14 rfl (lv_at hl 1 rfl) ?_
      refine lv_iconst (v := 1) C.1 C.2.1 dX10_goesOut_15 (by decide) ?_
      refine lv_iand C.1 C.2.1 dX10_goesOut_16 ?_
      refine lv_iload_n C.1 C.2.1 dX10_goesOut_17 rfl (lv_at hl 3 rfl) ?_
      refine lv_ishl C.1 C.2.1 dX10_goesOut_18 ?_
      refine lv_ior C.1 C.2.1 dX10_goesOut_19 ?_
      refine lv_topi (fun x2 e2 => ?_)
      have hw := hw x2 e2
      refine lv_istore_n (lv' := [(2, .int x2), (0, .int v0), (1, .int v1), (3, .int v3)]) C.1 C.2.1 dX10_goesOut_20 rfl hl (by decide) rfl (fun ls hl => ?_)
      refine lv_iload_n C.1 C.2.1 dX10_goesOut_21 rfl (lv_at hl 2 rfl) ?_
      refine lv_iload_n C.1 C.2.1 dX10_goesOut_22 rfl (lv_at hl 1 rfl) ?_
      refine goI (wf := (xw g)) (runS (w := xw g M) (As := [.int v1, .int v0]) (rest := []) C lkX10_144 (c_X10_stepped l g C.2.2.2.2.2.2.2.2.2.2 v1 v0  M _ hw) hP hS rfl rfl ⟨Nat.le_of_ble_eq_true rfl, Nat.le_of_ble_eq_true rfl⟩ hl.1 rfl (Nat.le_of_ble_eq_true rfl) dX10_goesOut_23) hS (fun r3 M3 hw H locs hP hS => ?_)
      refine lv_istore_n (lv' := [(1, .int r3), (2, .int x2), (0, .int v0), (3, .int v3)]) C.1 C.2.1 dX10_goesOut_26 rfl hl (by decide) rfl (fun ls hl => ?_)
      obtain ⟨x4, e4⟩ : ∃ y : Int32, y = (v3 + 1) := ⟨_, rfl⟩
      have hw := hw x4 e4
      refine lv_iinc (v := x4) (lv' := [(3, .int x4), (1, .int r3), (2, .int x2), (0, .int v0)]) C.1 C.2.1 dX10_goesOut_27 hl (k := 3) rfl (by rw [e4]; rfl) (by decide) rfl (fun ls hl => ?_)
      refine lv_goto (tgt := 7) C.1 C.2.1 dX10_goesOut_30 (by decide) ?_
      exact ih v0 r3 x2 x4  _ hw (lv_sub hl [3, 1, 2, 0] rfl) hP hS
def p_X10_goesOut (a0 : Int32) (M : Mem) (Q : Int32 → Mem → Prop) : Prop := (∃ n7 : Nat, b_X10_goesOut_7 Q n7 a0 31 0 0 M)
set_option maxRecDepth 100000 in
set_option maxHeartbeats 4000000 in
theorem c_X10_goesOut (l : Launch) (g : Geo) (gi : GI g) (a0 : Int32) (M : Mem) (Q : Int32 → Mem → Prop) (hw : p_X10_goesOut a0 M Q) : Met l yX10_goesOut (Cond.code yX10_goesOut cX10_goesOut 4 (some .int) :: bg) ({ frames := 2, cells := 0, slots := 0, locals := 42 } : Room) (va_Pc [.int a0] (PW g (xw g M))) (va_Qi Q (PB g (xw g)) (Af 0 g)) 0 0 (Af 0 g) := by
  refine Met.ofW (cc := cX10_goesOut) (maxL := 4) (ret := (some .int)) (by decide +kernel) rfl ?_
  intro p e s m args below meth c s₁ B hml hv
  obtain ⟨rfl, hv⟩ := hv
  have C := CX.start (own := RX10) B hml rfl gi hv
  have hP := hv.1
  have hS : va_S (Af 0 g) s.heap s.heap [] := va_S.rf
  have hl := lv_entry ([.int a0]) (n := 4) (Nat.le_of_ble_eq_true rfl)
  rw [lg_entry_eq]
  generalize (lg_sl ([.int a0]) ++ List.replicate (4 - (lg_sl ([.int a0])).length) Slot.unset).toArray = ls at hl ⊢
  have hl : lv_has ls 4 [(0, .int a0)] := hl
  unfold p_X10_goesOut at hw
  refine lv_bipush (v := 31) C.1 C.2.1 dX10_goesOut_0 (by decide) ?_
  refine lv_istore_n (lv' := [(1, .int 31), (0, .int a0)]) C.1 C.2.1 dX10_goesOut_2 rfl hl (by decide) rfl (fun ls hl => ?_)
  refine lv_iconst (v := 0) C.1 C.2.1 dX10_goesOut_3 (by decide) ?_
  refine lv_istore_n (lv' := [(2, .int 0), (1, .int 31), (0, .int a0)]) C.1 C.2.1 dX10_goesOut_4 rfl hl (by decide) rfl (fun ls hl => ?_)
  refine lv_iconst (v := 0) C.1 C.2.1 dX10_goesOut_5 (by decide) ?_
  refine lv_istore_n (lv' := [(3, .int 0), (2, .int 0), (1, .int 31), (0, .int a0)]) C.1 C.2.1 dX10_goesOut_6 rfl hl (by decide) rfl (fun ls hl => ?_)
  obtain ⟨n9, hw⟩ := hw
  exact k_X10_goesOut_7 (Q := Q) C n9 a0 31 0 0  _ hw (lv_sub hl [3, 2, 1, 0] rfl) hP hS
def p_X10_around (a0 : Int32) (a1 : Int32) (M : Mem) (Q : Int32 → Mem → Prop) : Prop := (Q ((((a0 : Int32).toUInt32 >>> ((a1 : Int32).toUInt32 &&& Int32.toUInt32 31)).toInt32 ||| (a0 <<< (((31 : Int32) - a1) &&& 31))) &&& 2147483647) M)
set_option maxRecDepth 100000 in
set_option maxHeartbeats 4000000 in
theorem c_X10_around (l : Launch) (g : Geo) (gi : GI g) (a0 : Int32) (a1 : Int32) (M : Mem) (Q : Int32 → Mem → Prop) (hw : p_X10_around a0 a1 M Q) : Met l yX10_around (Cond.code yX10_around cX10_around 2 (some .int) :: bg) ({ frames := 0, cells := 0, slots := 0, locals := 0 } : Room) (va_Pc [.int a0, .int a1] (PW g (xw g M))) (va_Qi Q (PB g (xw g)) (Af 0 g)) 0 0 (Af 0 g) := by
  refine Met.ofW (cc := cX10_around) (maxL := 2) (ret := (some .int)) (by decide +kernel) rfl ?_
  intro p e s m args below meth c s₁ B hml hv
  obtain ⟨rfl, hv⟩ := hv
  have C := CX.start (own := RX10) B hml rfl gi hv
  have hP := hv.1
  have hS : va_S (Af 0 g) s.heap s.heap [] := va_S.rf
  have hl := lv_entry ([.int a0, .int a1]) (n := 2) (Nat.le_of_ble_eq_true rfl)
  rw [lg_entry_eq]
  generalize (lg_sl ([.int a0, .int a1]) ++ List.replicate (2 - (lg_sl ([.int a0, .int a1])).length) Slot.unset).toArray = ls at hl ⊢
  have hl : lv_has ls 2 [(0, .int a0), (1, .int a1)] := hl
  unfold p_X10_around at hw
  refine lv_iload_n C.1 C.2.1 dX10_around_0 rfl (lv_at hl 0 rfl) ?_
  refine lv_iload_n C.1 C.2.1 dX10_around_1 rfl (lv_at hl 1 rfl) ?_
  refine lv_iushr C.1 C.2.1 dX10_around_2 rfl ?_
  refine lv_iload_n C.1 C.2.1 dX10_around_3 rfl (lv_at hl 0 rfl) ?_
  refine lv_bipush (v := 31) C.1 C.2.1 dX10_around_4 (by decide) ?_
  refine lv_iload_n C.1 C.2.1 dX10_around_6 rfl (lv_at hl 1 rfl) ?_
  refine lv_isub C.1 C.2.1 dX10_around_7 ?_
  refine lv_ishl C.1 C.2.1 dX10_around_8 ?_
  refine lv_ior C.1 C.2.1 dX10_around_9 ?_
  refine lv_ldc (v := 2147483647) C.1 C.2.1 C.2.2.2.2.1 (C.2.2.2.2.2.1 _ (bg_of 281 (by decide +kernel) rfl)) dX10_around_10 ?_
  refine lv_iand C.1 C.2.1 dX10_around_12 ?_
  exact retI (wf := (xw g)) C hP hS hw dX10_around_13
def p_X9_codeOf (a0 : Nat) (a1 : Int32) (M : Mem) (Q : Int32 → Mem → Prop) : Prop := (p_X10_around ((M.1 23 a0 6)) a1 M (fun r1 M1 => (Q ((((M.1 23 a0 5) ^^^ r1) ^^^ (-1)) &&& 2147483647) M1)))
set_option maxRecDepth 100000 in
set_option maxHeartbeats 4000000 in
theorem c_X9_codeOf (l : Launch) (g : Geo) (gi : GI g) (a0 : Nat) (a1 : Int32) (ha0 : a0 < 2) (M : Mem) (Q : Int32 → Mem → Prop) (hw : p_X9_codeOf a0 a1 M Q) : Met l yX9_codeOf (Cond.code yX9_codeOf cX9_codeOf 2 (some .int) :: bg) ({ frames := 1, cells := 0, slots := 0, locals := 21 } : Room) (va_Pc [.ref (g.2.1 (23 + a0)), .int a1] (PW g (xw g M))) (va_Qi Q (PB g (xw g)) (Af 0 g)) 0 0 (Af 0 g) := by
  refine Met.ofW (cc := cX9_codeOf) (maxL := 2) (ret := (some .int)) (by decide +kernel) rfl ?_
  intro p e s m args below meth c s₁ B hml hv
  obtain ⟨rfl, hv⟩ := hv
  have C := CX.start (own := RX9) B hml rfl gi hv
  have hP := hv.1
  have hS : va_S (Af 0 g) s.heap s.heap [] := va_S.rf
  have hl := lv_entry ([.ref (g.2.1 (23 + a0)), .int a1]) (n := 2) (Nat.le_of_ble_eq_true rfl)
  rw [lg_entry_eq]
  generalize (lg_sl ([.ref (g.2.1 (23 + a0)), .int a1]) ++ List.replicate (2 - (lg_sl ([.ref (g.2.1 (23 + a0)), .int a1])).length) Slot.unset).toArray = ls at hl ⊢
  have hl : lv_has ls 2 [(0, .ref (g.2.1 (23 + a0))), (1, .int a1)] := hl
  unfold p_X9_codeOf at hw
  refine lv_aload_n C.1 C.2.1 dX9_codeOf_0 rfl (lv_at hl 0 rfl) ?_
  refine gX9_57 C hP ha0 dX9_codeOf_1 ?_
  refine lv_aload_n C.1 C.2.1 dX9_codeOf_4 rfl (lv_at hl 0 rfl) ?_
  refine gX9_60 C hP ha0 dX9_codeOf_5 ?_
  refine lv_iload_n C.1 C.2.1 dX9_codeOf_8 rfl (lv_at hl 1 rfl) ?_
  refine goI (wf := (xw g)) (runN (w := xw g M) (As := [.int (M.1 23 a0 6), .int a1]) (rest := [.int (M.1 23 a0 5)]) C lkX9_72 (c_X10_around l g C.2.2.2.2.2.2.2.2.2.2 ((M.1 23 a0 6)) a1  M _ hw) hP hS rfl rfl ⟨Nat.le_of_ble_eq_true rfl, Nat.le_of_ble_eq_true rfl⟩ hl.1 rfl (Nat.le_of_ble_eq_true rfl) dX9_codeOf_9) hS (fun r1 M1 hw H locs hP hS => ?_)
  refine lv_ixor C.1 C.2.1 dX9_codeOf_12 ?_
  refine lv_iconst (v := (-1)) C.1 C.2.1 dX9_codeOf_13 (by decide) ?_
  refine lv_ixor C.1 C.2.1 dX9_codeOf_14 ?_
  refine lv_ldc (v := 2147483647) C.1 C.2.1 C.2.2.2.2.1 (C.2.2.2.2.2.1 _ (bg_of 282 (by decide +kernel) rfl)) dX9_codeOf_15 ?_
  refine lv_iand C.1 C.2.1 dX9_codeOf_17 ?_
  exact retI (wf := (xw g)) C hP hS hw dX9_codeOf_18
def b_X9_settle_24 (Q : Mem → Prop) : Nat → Nat → Int32 → Mem → Prop
  | 0, _, _, _ => False
  | n + 1, v0, v1, M => (((M.1 23 v0 1) ≤ v1 → (Q M)) ∧ (¬ (M.1 23 v0 1) ≤ v1 → (vp_in v1 5 ∧ (vp_in v1 5 ∧ (p_X9_codeOf v0 ((M.1 25 (5 * v0 + (v1 : Int32).toNatClampNeg) 1)) M (fun r8 M8 => (∀ M9 : Mem, M9 = sI M8 25 (5 * v0 + (v1 : Int32).toNatClampNeg) 2 r8 → (∀ x10 : Int32, x10 = (v1 + 1) → (b_X9_settle_24 Q n v0 x10 M9)))))))))
set_option maxRecDepth 100000 in
set_option maxHeartbeats 4000000 in
theorem k_X9_settle_24 {p : Program} {l : Launch} {e : Env} {s : State} {m : MethodId} {args : Array Value} {below : List Frame} {meth : Method} {c : Code} {g : Geo} (C : CX g p s m args meth c cX9_settle 2 none RX9) {Q : Mem → Prop} : ∀ (n : Nat) (v0 : Nat) (v1 : Int32) (hv0 : v0 < 2) (M : Mem) (hw : b_X9_settle_24 Q n v0 v1 M) {H : Heap} {locs : List Loc} {ls : Array Slot} (hl : lv_has ls 2 [(0, .ref (g.2.1 (23 + v0))), (1, .int v1)]) (hP : va_P g.1 clz (xw g M) H) (hS : va_S (Af 0 g) s.heap H locs), W p l e ({ frames := 3, cells := 0, slots := 0, locals := 65 } : Room) s m args below meth c H locs 0 0 (MQ below (va_Qv Q (PB g (xw g)) (Af 0 g)) args s 0 0 (Af 0 g)) (F0 m 24 ls []) := by
  intro n
  induction n with
  | zero => intro v0 v1 hv0 M hw H locs ls hl hP hS; exact absurd hw (by rw [b_X9_settle_24]; exact fun h => h)
  | succ n ih =>
    intro v0 v1 hv0 M hw H locs ls hl hP hS
    rw [b_X9_settle_24] at hw
    refine lv_iload_n C.1 C.2.1 dX9_settle_24 rfl (lv_at hl 1 rfl) ?_
    refine lv_aload_n C.1 C.2.1 dX9_settle_25 rfl (lv_at hl 0 rfl) ?_
    refine gX9_24 C hP hv0 dX9_settle_26 ?_
    refine lv_icmp_ge (tgt := 60) C.1 C.2.1 dX9_settle_29 (by decide) (fun h5 => ?_) (fun h5 => ?_)
    · have hw := hw.1 h5
      exact retV (wf := (xw g)) C hP hS hw dX9_settle_60
    · have hw := hw.2 h5
      refine lv_aload_n C.1 C.2.1 dX9_settle_32 rfl (lv_at hl 0 rfl) ?_
      refine gX9_11 C hP hv0 dX9_settle_33 ?_
      refine lv_iload_n C.1 C.2.1 dX9_settle_36 rfl (lv_at hl 1 rfl) ?_
      obtain ⟨h6, hw⟩ := hw
      have hb6 : (5 * v0 + (v1 : Int32).toNatClampNeg) < 10 := by have h9 := vp_lt h6; have h8 := hv0; omega
      refine al_24 C hP hv0 h6 dX9_settle_37 ?_
      refine lv_aload_n C.1 C.2.1 dX9_settle_38 rfl (lv_at hl 0 rfl) ?_
      refine lv_aload_n C.1 C.2.1 dX9_settle_39 rfl (lv_at hl 0 rfl) ?_
      refine gX9_11 C hP hv0 dX9_settle_40 ?_
      refine lv_iload_n C.1 C.2.1 dX9_settle_43 rfl (lv_at hl 1 rfl) ?_
      obtain ⟨h7, hw⟩ := hw
      have hb7 : (5 * v0 + (v1 : Int32).toNatClampNeg) < 10 := by have h9 := vp_lt h7; have h8 := hv0; omega
      refine al_24 C hP hv0 h7 dX9_settle_44 ?_
      refine gX9_63 C hP hb7 dX9_settle_45 ?_
      refine goI (wf := (xw g)) (runV (w := xw g M) (As := [.int (M.1 25 (5 * v0 + (v1 : Int32).toNatClampNeg) 1)]) (rest := [.ref (g.2.1 (27 + (5 * v0 + (v1 : Int32).toNatClampNeg)))]) C lkX9_66 (c_X9_codeOf l g C.2.2.2.2.2.2.2.2.2.2 v0 ((M.1 25 (5 * v0 + (v1 : Int32).toNatClampNeg) 1)) hv0 M _ hw) hP hS rfl rfl ⟨Nat.le_of_ble_eq_true rfl, Nat.le_of_ble_eq_true rfl⟩ (xx_23 hv0) rfl rfl hl.1 rfl (Nat.le_of_ble_eq_true rfl) dX9_settle_48) hS (fun r8 M8 hw H locs hP hS => ?_)
      refine pX9_69 C hP hS hb6 dX9_settle_51 (fun M9 e9 H locs hP hS => ?_)
      have hw := hw M9 e9
      obtain ⟨x10, e10⟩ : ∃ y : Int32, y = (v1 + 1) := ⟨_, rfl⟩
      have hw := hw x10 e10
      refine lv_iinc (v := x10) (lv' := [(1, .int x10), (0, .ref (g.2.1 (23 + v0)))]) C.1 C.2.1 dX9_settle_54 hl (k := 1) rfl (by rw [e10]; rfl) (by decide) rfl (fun ls hl => ?_)
      refine lv_goto (tgt := 24) C.1 C.2.1 dX9_settle_57 (by decide) ?_
      exact ih v0 x10 hv0 _ hw (lv_sub hl [1, 0] rfl) hP hS
def p_X9_settle (a0 : Nat) (M : Mem) (Q : Mem → Prop) : Prop := (p_X10_goesOut ((M.1 23 a0 3)) M (fun r1 M1 => (∀ M2 : Mem, M2 = sI M1 23 a0 5 r1 → (p_X10_goesOut ((M2.1 23 a0 4)) M2 (fun r3 M3 => (∀ M4 : Mem, M4 = sI M3 23 a0 6 r3 → (∃ n24 : Nat, b_X9_settle_24 Q n24 a0 0 M4)))))))
set_option maxRecDepth 100000 in
set_option maxHeartbeats 4000000 in
theorem c_X9_settle (l : Launch) (g : Geo) (gi : GI g) (a0 : Nat) (ha0 : a0 < 2) (M : Mem) (Q : Mem → Prop) (hw : p_X9_settle a0 M Q) : Met l yX9_settle (Cond.code yX9_settle cX9_settle 2 none :: bg) ({ frames := 3, cells := 0, slots := 0, locals := 65 } : Room) (va_Pc [.ref (g.2.1 (23 + a0))] (PW g (xw g M))) (va_Qv Q (PB g (xw g)) (Af 0 g)) 0 0 (Af 0 g) := by
  refine Met.ofW (cc := cX9_settle) (maxL := 2) (ret := none) (by decide +kernel) rfl ?_
  intro p e s m args below meth c s₁ B hml hv
  obtain ⟨rfl, hv⟩ := hv
  have C := CX.start (own := RX9) B hml rfl gi hv
  have hP := hv.1
  have hS : va_S (Af 0 g) s.heap s.heap [] := va_S.rf
  have hl := lv_entry ([.ref (g.2.1 (23 + a0))]) (n := 2) (Nat.le_of_ble_eq_true rfl)
  rw [lg_entry_eq]
  generalize (lg_sl ([.ref (g.2.1 (23 + a0))]) ++ List.replicate (2 - (lg_sl ([.ref (g.2.1 (23 + a0))])).length) Slot.unset).toArray = ls at hl ⊢
  have hl : lv_has ls 2 [(0, .ref (g.2.1 (23 + a0)))] := hl
  unfold p_X9_settle at hw
  refine lv_aload_n C.1 C.2.1 dX9_settle_0 rfl (lv_at hl 0 rfl) ?_
  refine lv_aload_n C.1 C.2.1 dX9_settle_1 rfl (lv_at hl 0 rfl) ?_
  refine gX9_31 C hP ha0 dX9_settle_2 ?_
  refine goI (wf := (xw g)) (runN (w := xw g M) (As := [.int (M.1 23 a0 3)]) (rest := [.ref (g.2.1 (23 + a0))]) C lkX9_53 (c_X10_goesOut l g C.2.2.2.2.2.2.2.2.2.2 ((M.1 23 a0 3))  M _ hw) hP hS rfl rfl ⟨Nat.le_of_ble_eq_true rfl, Nat.le_of_ble_eq_true rfl⟩ hl.1 rfl (Nat.le_of_ble_eq_true rfl) dX9_settle_5) hS (fun r1 M1 hw H locs hP hS => ?_)
  refine pX9_57 C hP hS ha0 dX9_settle_8 (fun M2 e2 H locs hP hS => ?_)
  have hw := hw M2 e2
  refine lv_aload_n C.1 C.2.1 dX9_settle_11 rfl (lv_at hl 0 rfl) ?_
  refine lv_aload_n C.1 C.2.1 dX9_settle_12 rfl (lv_at hl 0 rfl) ?_
  refine gX9_34 C hP ha0 dX9_settle_13 ?_
  refine goI (wf := (xw g)) (runN (w := xw g M2) (As := [.int (M2.1 23 a0 4)]) (rest := [.ref (g.2.1 (23 + a0))]) C lkX9_53 (c_X10_goesOut l g C.2.2.2.2.2.2.2.2.2.2 ((M2.1 23 a0 4))  M2 _ hw) hP hS rfl rfl ⟨Nat.le_of_ble_eq_true rfl, Nat.le_of_ble_eq_true rfl⟩ hl.1 rfl (Nat.le_of_ble_eq_true rfl) dX9_settle_16) hS (fun r3 M3 hw H locs hP hS => ?_)
  refine pX9_60 C hP hS ha0 dX9_settle_19 (fun M4 e4 H locs hP hS => ?_)
  have hw := hw M4 e4
  refine lv_iconst (v := 0) C.1 C.2.1 dX9_settle_22 (by decide) ?_
  refine lv_istore_n (lv' := [(1, .int 0), (0, .ref (g.2.1 (23 + a0)))]) C.1 C.2.1 dX9_settle_23 rfl hl (by decide) rfl (fun ls hl => ?_)
  obtain ⟨n9, hw⟩ := hw
  exact k_X9_settle_24 (Q := Q) C n9 a0 0 ha0 _ hw (lv_sub hl [1, 0] rfl) hP hS
def b_X6_isOneTooMany_15 (Q : Int32 → Mem → Prop) (v1 : Int32) (M : Mem) : Prop := ((¬ v1 = 4 → (Q 0 M)) ∧ (v1 = 4 → (∃ w3 : Nat, M.2.2 2 0 8 = some (23 + w3) ∧ w3 < 2 ∧ (((M.1 23 w3 2) < 10 → (Q 0 M)) ∧ (¬ (M.1 23 w3 2) < 10 → (Q 1 M))))))
set_option maxRecDepth 100000 in
set_option maxHeartbeats 4000000 in
theorem k_X6_isOneTooMany_15 {p : Program} {l : Launch} {e : Env} {s : State} {m : MethodId} {args : Array Value} {below : List Frame} {meth : Method} {c : Code} {g : Geo} (C : CX g p s m args meth c cX6_isOneTooMany 2 (some .boolean) RX6) {Q : Int32 → Mem → Prop} (v1 : Int32) (M : Mem) (hw : b_X6_isOneTooMany_15 Q v1 M) {H : Heap} {locs : List Loc} {ls : Array Slot} (hl : lv_has ls 2 [(0, .ref (g.2.1 (2 + 0))), (1, .int v1)]) (hP : va_P g.1 clz (xw g M) H) (hS : va_S (Af 0 g) s.heap H locs) : W p l e ({ frames := 0, cells := 0, slots := 0, locals := 0 } : Room) s m args below meth c H locs 0 0 (MQ below (va_Qi (fun r M => Q r M ∧ narrow .boolean (.int r) = .int r) (PB g (xw g)) (Af 0 g)) args s 0 0 (Af 0 g)) (F0 m 15 ls []) := by
  unfold b_X6_isOneTooMany_15 at hw
  refine lv_iload_n C.1 C.2.1 dX6_isOneTooMany_15 rfl (lv_at hl 1 rfl) ?_
  refine lv_iconst (v := 4) C.1 C.2.1 dX6_isOneTooMany_16 (by decide) ?_
  refine lv_icmp_ne (tgt := 36) C.1 C.2.1 dX6_isOneTooMany_17 (by decide) (fun h2 => ?_) (fun h2 => ?_)
  · have hw := hw.1 h2
    refine lv_iconst (v := 0) C.1 C.2.1 dX6_isOneTooMany_36 (by decide) ?_
    exact retZ (wf := (xw g)) C hP hS rfl hw dX6_isOneTooMany_37
  · have hw := hw.2 h2
    refine lv_aload_n C.1 C.2.1 dX6_isOneTooMany_20 rfl (lv_at hl 0 rfl) ?_
    obtain ⟨w3, h3, hb3, hw⟩ := hw
    refine gX6_34f C hP Nat.zero_lt_one h3 dX6_isOneTooMany_21 ?_
    refine gX6_95 C hP hb3 dX6_isOneTooMany_24 ?_
    refine lv_bipush (v := 10) C.1 C.2.1 dX6_isOneTooMany_27 (by decide) ?_
    refine lv_icmp_lt (tgt := 36) C.1 C.2.1 dX6_isOneTooMany_29 (by decide) (fun h4 => ?_) (fun h4 => ?_)
    · have hw := hw.1 h4
      refine lv_iconst (v := 0) C.1 C.2.1 dX6_isOneTooMany_36 (by decide) ?_
      exact retZ (wf := (xw g)) C hP hS rfl hw dX6_isOneTooMany_37
    · have hw := hw.2 h4
      refine lv_iconst (v := 1) C.1 C.2.1 dX6_isOneTooMany_32 (by decide) ?_
      refine lv_goto (tgt := 37) C.1 C.2.1 dX6_isOneTooMany_33 (by decide) ?_
      exact retZ (wf := (xw g)) C hP hS rfl hw dX6_isOneTooMany_37
def p_X6_isOneTooMany (a1 : Int32) (M : Mem) (Q : Int32 → Mem → Prop) : Prop := ((¬ a1 = 0 → (b_X6_isOneTooMany_15 Q a1 M)) ∧ (a1 = 0 → (∃ w5 : Nat, M.2.2 2 0 8 = some (23 + w5) ∧ w5 < 2 ∧ ((5 ≤ (M.1 23 w5 1) → (Q 1 M)) ∧ (¬ 5 ≤ (M.1 23 w5 1) → (b_X6_isOneTooMany_15 Q a1 M))))))
set_option maxRecDepth 100000 in
set_option maxHeartbeats 4000000 in
theorem c_X6_isOneTooMany (l : Launch) (g : Geo) (gi : GI g) (a1 : Int32) (M : Mem) (Q : Int32 → Mem → Prop) (hw : p_X6_isOneTooMany a1 M Q) : Met l yX6_isOneTooMany (Cond.code yX6_isOneTooMany cX6_isOneTooMany 2 (some .boolean) :: bg) ({ frames := 0, cells := 0, slots := 0, locals := 0 } : Room) (va_Pc [.ref (g.2.1 (2 + 0)), .int a1] (PW g (xw g M))) (va_Qi (fun r M => Q r M ∧ narrow .boolean (.int r) = .int r) (PB g (xw g)) (Af 0 g)) 0 0 (Af 0 g) := by
  refine Met.ofW (cc := cX6_isOneTooMany) (maxL := 2) (ret := (some .boolean)) (by decide +kernel) rfl ?_
  intro p e s m args below meth c s₁ B hml hv
  obtain ⟨rfl, hv⟩ := hv
  have C := CX.start (own := RX6) B hml rfl gi hv
  have hP := hv.1
  have hS : va_S (Af 0 g) s.heap s.heap [] := va_S.rf
  have hl := lv_entry ([.ref (g.2.1 (2 + 0)), .int a1]) (n := 2) (Nat.le_of_ble_eq_true rfl)
  rw [lg_entry_eq]
  generalize (lg_sl ([.ref (g.2.1 (2 + 0)), .int a1]) ++ List.replicate (2 - (lg_sl ([.ref (g.2.1 (2 + 0)), .int a1])).length) Slot.unset).toArray = ls at hl ⊢
  have hl : lv_has ls 2 [(0, .ref (g.2.1 (2 + 0))), (1, .int a1)] := hl
  unfold p_X6_isOneTooMany at hw
  refine lv_iload_n C.1 C.2.1 dX6_isOneTooMany_0 rfl (lv_at hl 1 rfl) ?_
  refine lv_if_ne (tgt := 15) C.1 C.2.1 dX6_isOneTooMany_1 (by decide) (fun h1 => ?_) (fun h1 => ?_)
  · have hw := hw.1 h1
    exact k_X6_isOneTooMany_15 (Q := Q) C a1  _ hw (lv_sub hl [0, 1] rfl) hP hS
  · have hw := hw.2 h1
    refine lv_aload_n C.1 C.2.1 dX6_isOneTooMany_4 rfl (lv_at hl 0 rfl) ?_
    obtain ⟨w5, h5, hb5, hw⟩ := hw
    refine gX6_34f C hP Nat.zero_lt_one h5 dX6_isOneTooMany_5 ?_
    refine gX6_92 C hP hb5 dX6_isOneTooMany_8 ?_
    refine lv_iconst (v := 5) C.1 C.2.1 dX6_isOneTooMany_11 (by decide) ?_
    refine lv_icmp_ge (tgt := 32) C.1 C.2.1 dX6_isOneTooMany_12 (by decide) (fun h6 => ?_) (fun h6 => ?_)
    · have hw := hw.1 h6
      refine lv_iconst (v := 1) C.1 C.2.1 dX6_isOneTooMany_32 (by decide) ?_
      refine lv_goto (tgt := 37) C.1 C.2.1 dX6_isOneTooMany_33 (by decide) ?_
      exact retZ (wf := (xw g)) C hP hS rfl hw dX6_isOneTooMany_37
    · have hw := hw.2 h6
      exact k_X6_isOneTooMany_15 (Q := Q) C a1  _ hw (lv_sub hl [0, 1] rfl) hP hS
def p_X6_isOnce (a0 : Int32) (M : Mem) (Q : Int32 → Mem → Prop) : Prop := ((a0 < 6 → (Q 0 M)) ∧ (¬ a0 < 6 → (Q 1 M)))
set_option maxRecDepth 100000 in
set_option maxHeartbeats 4000000 in
theorem c_X6_isOnce (l : Launch) (g : Geo) (gi : GI g) (a0 : Int32) (M : Mem) (Q : Int32 → Mem → Prop) (hw : p_X6_isOnce a0 M Q) : Met l yX6_isOnce (Cond.code yX6_isOnce cX6_isOnce 1 (some .boolean) :: bg) ({ frames := 0, cells := 0, slots := 0, locals := 0 } : Room) (va_Pc [.int a0] (PW g (xw g M))) (va_Qi (fun r M => Q r M ∧ narrow .boolean (.int r) = .int r) (PB g (xw g)) (Af 0 g)) 0 0 (Af 0 g) := by
  refine Met.ofW (cc := cX6_isOnce) (maxL := 1) (ret := (some .boolean)) (by decide +kernel) rfl ?_
  intro p e s m args below meth c s₁ B hml hv
  obtain ⟨rfl, hv⟩ := hv
  have C := CX.start (own := RX6) B hml rfl gi hv
  have hP := hv.1
  have hS : va_S (Af 0 g) s.heap s.heap [] := va_S.rf
  have hl := lv_entry ([.int a0]) (n := 1) (Nat.le_of_ble_eq_true rfl)
  rw [lg_entry_eq]
  generalize (lg_sl ([.int a0]) ++ List.replicate (1 - (lg_sl ([.int a0])).length) Slot.unset).toArray = ls at hl ⊢
  have hl : lv_has ls 1 [(0, .int a0)] := hl
  unfold p_X6_isOnce at hw
  refine lv_iload_n C.1 C.2.1 dX6_isOnce_0 rfl (lv_at hl 0 rfl) ?_
  refine lv_bipush (v := 6) C.1 C.2.1 dX6_isOnce_1 (by decide) ?_
  refine lv_icmp_lt (tgt := 10) C.1 C.2.1 dX6_isOnce_3 (by decide) (fun h1 => ?_) (fun h1 => ?_)
  · have hw := hw.1 h1
    refine lv_iconst (v := 0) C.1 C.2.1 dX6_isOnce_10 (by decide) ?_
    exact retZ (wf := (xw g)) C hP hS rfl hw dX6_isOnce_11
  · have hw := hw.2 h1
    refine lv_iconst (v := 1) C.1 C.2.1 dX6_isOnce_6 (by decide) ?_
    refine lv_goto (tgt := 11) C.1 C.2.1 dX6_isOnce_7 (by decide) ?_
    exact retZ (wf := (xw g)) C hP hS rfl hw dX6_isOnce_11
def p_X6_refuse (a1 : Int32) (M : Mem) (Q : Int32 → Mem → Prop) : Prop := (∀ M1 : Mem, M1 = sI M 2 0 0 a1 → (∀ M2 : Mem, M2 = sI M1 2 0 1 (M1.1 2 0 6) → (Q 0 M2)))
set_option maxRecDepth 100000 in
set_option maxHeartbeats 4000000 in
theorem c_X6_refuse (l : Launch) (g : Geo) (gi : GI g) (a1 : Int32) (M : Mem) (Q : Int32 → Mem → Prop) (hw : p_X6_refuse a1 M Q) : Met l yX6_refuse (Cond.code yX6_refuse cX6_refuse 2 (some .boolean) :: bg) ({ frames := 0, cells := 0, slots := 0, locals := 0 } : Room) (va_Pc [.ref (g.2.1 (2 + 0)), .int a1] (PW g (xw g M))) (va_Qi (fun r M => Q r M ∧ narrow .boolean (.int r) = .int r) (PB g (xw g)) (Af 0 g)) 0 0 (Af 0 g) := by
  refine Met.ofW (cc := cX6_refuse) (maxL := 2) (ret := (some .boolean)) (by decide +kernel) rfl ?_
  intro p e s m args below meth c s₁ B hml hv
  obtain ⟨rfl, hv⟩ := hv
  have C := CX.start (own := RX6) B hml rfl gi hv
  have hP := hv.1
  have hS : va_S (Af 0 g) s.heap s.heap [] := va_S.rf
  have hl := lv_entry ([.ref (g.2.1 (2 + 0)), .int a1]) (n := 2) (Nat.le_of_ble_eq_true rfl)
  rw [lg_entry_eq]
  generalize (lg_sl ([.ref (g.2.1 (2 + 0)), .int a1]) ++ List.replicate (2 - (lg_sl ([.ref (g.2.1 (2 + 0)), .int a1])).length) Slot.unset).toArray = ls at hl ⊢
  have hl : lv_has ls 2 [(0, .ref (g.2.1 (2 + 0))), (1, .int a1)] := hl
  unfold p_X6_refuse at hw
  refine lv_aload_n C.1 C.2.1 dX6_refuse_0 rfl (lv_at hl 0 rfl) ?_
  refine lv_iload_n C.1 C.2.1 dX6_refuse_1 rfl (lv_at hl 1 rfl) ?_
  refine pX6_43 C hP hS Nat.zero_lt_one dX6_refuse_2 (fun M1 e1 H locs hP hS => ?_)
  have hw := hw M1 e1
  refine lv_aload_n C.1 C.2.1 dX6_refuse_5 rfl (lv_at hl 0 rfl) ?_
  refine lv_aload_n C.1 C.2.1 dX6_refuse_6 rfl (lv_at hl 0 rfl) ?_
  refine gX6_59 C hP Nat.zero_lt_one dX6_refuse_7 ?_
  refine pX6_9 C hP hS Nat.zero_lt_one dX6_refuse_10 (fun M2 e2 H locs hP hS => ?_)
  have hw := hw M2 e2
  refine lv_iconst (v := 0) C.1 C.2.1 dX6_refuse_13 (by decide) ?_
  exact retZ (wf := (xw g)) C hP hS rfl hw dX6_refuse_14
def b_X6_readNumbers_57 (Q : Int32 → Mem → Prop) (M : Mem) : Prop := (p_X6_refuse 2 M (fun r6 M6 => (Q r6 M6)))
set_option maxRecDepth 100000 in
set_option maxHeartbeats 4000000 in
theorem k_X6_readNumbers_57 {p : Program} {l : Launch} {e : Env} {s : State} {m : MethodId} {args : Array Value} {below : List Frame} {meth : Method} {c : Code} {g : Geo} (C : CX g p s m args meth c cX6_readNumbers 3 (some .boolean) RX6) {Q : Int32 → Mem → Prop} (M : Mem) (hw : b_X6_readNumbers_57 Q M) {H : Heap} {locs : List Loc} {ls : Array Slot} (hl : lv_has ls 3 [(0, .ref (g.2.1 (2 + 0)))]) (hP : va_P g.1 clz (xw g M) H) (hS : va_S (Af 0 g) s.heap H locs) : W p l e ({ frames := 3, cells := 0, slots := 0, locals := 62 } : Room) s m args below meth c H locs 0 0 (MQ below (va_Qi (fun r M => Q r M ∧ narrow .boolean (.int r) = .int r) (PB g (xw g)) (Af 0 g)) args s 0 0 (Af 0 g)) (F0 m 57 ls []) := by
  unfold b_X6_readNumbers_57 at hw
  refine lv_aload_n C.1 C.2.1 dX6_readNumbers_57 rfl (lv_at hl 0 rfl) ?_
  refine lv_iconst (v := 2) C.1 C.2.1 dX6_readNumbers_58 (by decide) ?_
  refine goI (wf := (xw g)) (runV (w := xw g M) (As := [.int 2]) (rest := []) C lkX6_69 (c_X6_refuse l g C.2.2.2.2.2.2.2.2.2.2 2  M _ hw) hP hS rfl rfl ⟨Nat.le_of_ble_eq_true rfl, Nat.le_of_ble_eq_true rfl⟩ (xx_2 Nat.zero_lt_one) rfl rfl hl.1 rfl (Nat.le_of_ble_eq_true rfl) dX6_readNumbers_59) hS (fun r6 M6 hw H locs hP hS => ?_)
  obtain ⟨hw, hz6⟩ := hw
  exact retZ (wf := (xw g)) C hP hS hz6 hw dX6_readNumbers_62
def b_X6_readNumbers_19 (Q : Int32 → Mem → Prop) (M : Mem) : Prop := (p_X6_refuse 1 M (fun r12 M12 => (Q r12 M12)))
set_option maxRecDepth 100000 in
set_option maxHeartbeats 4000000 in
theorem k_X6_readNumbers_19 {p : Program} {l : Launch} {e : Env} {s : State} {m : MethodId} {args : Array Value} {below : List Frame} {meth : Method} {c : Code} {g : Geo} (C : CX g p s m args meth c cX6_readNumbers 3 (some .boolean) RX6) {Q : Int32 → Mem → Prop} (M : Mem) (hw : b_X6_readNumbers_19 Q M) {H : Heap} {locs : List Loc} {ls : Array Slot} (hl : lv_has ls 3 [(0, .ref (g.2.1 (2 + 0)))]) (hP : va_P g.1 clz (xw g M) H) (hS : va_S (Af 0 g) s.heap H locs) : W p l e ({ frames := 3, cells := 0, slots := 0, locals := 62 } : Room) s m args below meth c H locs 0 0 (MQ below (va_Qi (fun r M => Q r M ∧ narrow .boolean (.int r) = .int r) (PB g (xw g)) (Af 0 g)) args s 0 0 (Af 0 g)) (F0 m 19 ls []) := by
  unfold b_X6_readNumbers_19 at hw
  refine lv_aload_n C.1 C.2.1 dX6_readNumbers_19 rfl (lv_at hl 0 rfl) ?_
  refine lv_iconst (v := 1) C.1 C.2.1 dX6_readNumbers_20 (by decide) ?_
  refine goI (wf := (xw g)) (runV (w := xw g M) (As := [.int 1]) (rest := []) C lkX6_69 (c_X6_refuse l g C.2.2.2.2.2.2.2.2.2.2 1  M _ hw) hP hS rfl rfl ⟨Nat.le_of_ble_eq_true rfl, Nat.le_of_ble_eq_true rfl⟩ (xx_2 Nat.zero_lt_one) rfl rfl hl.1 rfl (Nat.le_of_ble_eq_true rfl) dX6_readNumbers_21) hS (fun r12 M12 hw H locs hP hS => ?_)
  obtain ⟨hw, hz12⟩ := hw
  exact retZ (wf := (xw g)) C hP hS hz12 hw dX6_readNumbers_24
def b_X6_readNumbers_2 (Q : Int32 → Mem → Prop) : Nat → Int32 → Int32 → Mem → Prop
  | 0, _, _, _ => False
  | n + 1, v1, v2, M => (vp_in v1 12 ∧ (((stab 1 (v1 : Int32).toNatClampNeg) ≤ v2 → (Q 1 M)) ∧ (¬ (stab 1 (v1 : Int32).toNatClampNeg) ≤ v2 → (((M.1 2 0 5) = 2 → (vp_in (((4 : Int32) * v1) + v2) 48 ∧ (((M.1 2 0 7) < (stab 2 ((((4 : Int32) * v1) + v2) : Int32).toNatClampNeg) → (b_X6_readNumbers_57 Q  M)) ∧ (¬ (M.1 2 0 7) < (stab 2 ((((4 : Int32) * v1) + v2) : Int32).toNatClampNeg) → (vp_in (((4 : Int32) * v1) + v2) 48 ∧ (((M.1 2 0 7) ≤ (stab 3 ((((4 : Int32) * v1) + v2) : Int32).toNatClampNeg) → (vp_in v2 4 ∧ (∀ M9 : Mem, M9 = sI M 3 0 (v2 : Int32).toNatClampNeg (M.1 2 0 7) → (p_X6_advance  M9 (fun M10 => (∀ x11 : Int32, x11 = (v2 + 1) → (b_X6_readNumbers_2 Q n v1 x11 M10))))))) ∧ (¬ (M.1 2 0 7) ≤ (stab 3 ((((4 : Int32) * v1) + v2) : Int32).toNatClampNeg) → (b_X6_readNumbers_57 Q  M)))))))) ∧ (¬ (M.1 2 0 5) = 2 → (b_X6_readNumbers_19 Q  M))))))
set_option maxRecDepth 100000 in
set_option maxHeartbeats 4000000 in
theorem k_X6_readNumbers_2 {p : Program} {l : Launch} {e : Env} {s : State} {m : MethodId} {args : Array Value} {below : List Frame} {meth : Method} {c : Code} {g : Geo} (C : CX g p s m args meth c cX6_readNumbers 3 (some .boolean) RX6) {Q : Int32 → Mem → Prop} : ∀ (n : Nat) (v1 : Int32) (v2 : Int32) (M : Mem) (hw : b_X6_readNumbers_2 Q n v1 v2 M) {H : Heap} {locs : List Loc} {ls : Array Slot} (hl : lv_has ls 3 [(0, .ref (g.2.1 (2 + 0))), (1, .int v1), (2, .int v2)]) (hP : va_P g.1 clz (xw g M) H) (hS : va_S (Af 0 g) s.heap H locs), W p l e ({ frames := 3, cells := 0, slots := 0, locals := 62 } : Room) s m args below meth c H locs 0 0 (MQ below (va_Qi (fun r M => Q r M ∧ narrow .boolean (.int r) = .int r) (PB g (xw g)) (Af 0 g)) args s 0 0 (Af 0 g)) (F0 m 2 ls []) := by
  intro n
  induction n with
  | zero => intro v1 v2 M hw H locs ls hl hP hS; exact absurd hw (by rw [b_X6_readNumbers_2]; exact fun h => h)
  | succ n ih =>
    intro v1 v2 M hw H locs ls hl hP hS
    rw [b_X6_readNumbers_2] at hw
    refine lv_iload_n C.1 C.2.1 dX6_readNumbers_2 rfl (lv_at hl 2 rfl) ?_
    refine gX6_130 C hS dX6_readNumbers_3 ?_
    refine lv_iload_n C.1 C.2.1 dX6_readNumbers_6 rfl (lv_at hl 1 rfl) ?_
    obtain ⟨h1, hw⟩ := hw
    refine si_1 C hS h1 dX6_readNumbers_7 ?_
    refine lv_icmp_ge (tgt := 83) C.1 C.2.1 dX6_readNumbers_8 (by decide) (fun h2 => ?_) (fun h2 => ?_)
    · have hw := hw.1 h2
      refine lv_iconst (v := 1) C.1 C.2.1 dX6_readNumbers_83 (by decide) ?_
      exact retZ (wf := (xw g)) C hP hS rfl hw dX6_readNumbers_84
    · have hw := hw.2 h2
      refine lv_aload_n C.1 C.2.1 dX6_readNumbers_11 rfl (lv_at hl 0 rfl) ?_
      refine gX6_49 C hP Nat.zero_lt_one dX6_readNumbers_12 ?_
      refine lv_iconst (v := 2) C.1 C.2.1 dX6_readNumbers_15 (by decide) ?_
      refine lv_icmp_eq (tgt := 25) C.1 C.2.1 dX6_readNumbers_16 (by decide) (fun h3 => ?_) (fun h3 => ?_)
      · have hw := hw.1 h3
        refine lv_aload_n C.1 C.2.1 dX6_readNumbers_25 rfl (lv_at hl 0 rfl) ?_
        refine gX6_62 C hP Nat.zero_lt_one dX6_readNumbers_26 ?_
        refine gX6_133 C hS dX6_readNumbers_29 ?_
        refine lv_iconst (v := 4) C.1 C.2.1 dX6_readNumbers_32 (by decide) ?_
        refine lv_iload_n C.1 C.2.1 dX6_readNumbers_33 rfl (lv_at hl 1 rfl) ?_
        refine lv_imul C.1 C.2.1 dX6_readNumbers_34 ?_
        refine lv_iload_n C.1 C.2.1 dX6_readNumbers_35 rfl (lv_at hl 2 rfl) ?_
        refine lv_iadd C.1 C.2.1 dX6_readNumbers_36 ?_
        obtain ⟨h4, hw⟩ := hw
        refine si_2 C hS h4 dX6_readNumbers_37 ?_
        refine lv_icmp_lt (tgt := 57) C.1 C.2.1 dX6_readNumbers_38 (by decide) (fun h5 => ?_) (fun h5 => ?_)
        · have hw := hw.1 h5
          exact k_X6_readNumbers_57 (Q := Q) C   _ hw (lv_sub hl [0] rfl) hP hS
        · have hw := hw.2 h5
          refine lv_aload_n C.1 C.2.1 dX6_readNumbers_41 rfl (lv_at hl 0 rfl) ?_
          refine gX6_62 C hP Nat.zero_lt_one dX6_readNumbers_42 ?_
          refine gX6_136 C hS dX6_readNumbers_45 ?_
          refine lv_iconst (v := 4) C.1 C.2.1 dX6_readNumbers_48 (by decide) ?_
          refine lv_iload_n C.1 C.2.1 dX6_readNumbers_49 rfl (lv_at hl 1 rfl) ?_
          refine lv_imul C.1 C.2.1 dX6_readNumbers_50 ?_
          refine lv_iload_n C.1 C.2.1 dX6_readNumbers_51 rfl (lv_at hl 2 rfl) ?_
          refine lv_iadd C.1 C.2.1 dX6_readNumbers_52 ?_
          obtain ⟨h7, hw⟩ := hw
          refine si_3 C hS h7 dX6_readNumbers_53 ?_
          refine lv_icmp_le (tgt := 63) C.1 C.2.1 dX6_readNumbers_54 (by decide) (fun h8 => ?_) (fun h8 => ?_)
          · have hw := hw.1 h8
            refine lv_aload_n C.1 C.2.1 dX6_readNumbers_63 rfl (lv_at hl 0 rfl) ?_
            refine gX6_19 C hP Nat.zero_lt_one dX6_readNumbers_64 ?_
            refine lv_iload_n C.1 C.2.1 dX6_readNumbers_67 rfl (lv_at hl 2 rfl) ?_
            refine lv_aload_n C.1 C.2.1 dX6_readNumbers_68 rfl (lv_at hl 0 rfl) ?_
            refine gX6_62 C hP Nat.zero_lt_one dX6_readNumbers_69 ?_
            obtain ⟨h9, hw⟩ := hw
            refine as_3 C hP hS Nat.zero_lt_one h9 dX6_readNumbers_72 (fun M9 e9 H locs hP hS => ?_)
            have hw := hw M9 e9
            refine lv_aload_n C.1 C.2.1 dX6_readNumbers_73 rfl (lv_at hl 0 rfl) ?_
            refine goV (wf := (xw g)) (runV (w := xw g M9) (As := []) (rest := []) C lkX6_46 (c_X6_advance l g C.2.2.2.2.2.2.2.2.2.2   M9 _ hw) hP hS rfl rfl ⟨Nat.le_of_ble_eq_true rfl, Nat.le_of_ble_eq_true rfl⟩ (xx_2 Nat.zero_lt_one) rfl rfl hl.1 rfl (Nat.le_of_ble_eq_true rfl) dX6_readNumbers_74) hS (fun M10 hw H locs hP hS => ?_)
            obtain ⟨x11, e11⟩ : ∃ y : Int32, y = (v2 + 1) := ⟨_, rfl⟩
            have hw := hw x11 e11
            refine lv_iinc (v := x11) (lv' := [(2, .int x11), (0, .ref (g.2.1 (2 + 0))), (1, .int v1)]) C.1 C.2.1 dX6_readNumbers_77 hl (k := 2) rfl (by rw [e11]; rfl) (by decide) rfl (fun ls hl => ?_)
            refine lv_goto (tgt := 2) C.1 C.2.1 dX6_readNumbers_80 (by decide) ?_
            exact ih v1 x11  _ hw (lv_sub hl [1, 2, 0] rfl) hP hS
          · have hw := hw.2 h8
            exact k_X6_readNumbers_57 (Q := Q) C   _ hw (lv_sub hl [0] rfl) hP hS
      · have hw := hw.2 h3
        exact k_X6_readNumbers_19 (Q := Q) C   _ hw (lv_sub hl [0] rfl) hP hS
def p_X6_readNumbers (a1 : Int32) (M : Mem) (Q : Int32 → Mem → Prop) : Prop := (∃ n2 : Nat, b_X6_readNumbers_2 Q n2 a1 0 M)
set_option maxRecDepth 100000 in
set_option maxHeartbeats 4000000 in
theorem c_X6_readNumbers (l : Launch) (g : Geo) (gi : GI g) (a1 : Int32) (M : Mem) (Q : Int32 → Mem → Prop) (hw : p_X6_readNumbers a1 M Q) : Met l yX6_readNumbers (Cond.code yX6_readNumbers cX6_readNumbers 3 (some .boolean) :: bg) ({ frames := 3, cells := 0, slots := 0, locals := 62 } : Room) (va_Pc [.ref (g.2.1 (2 + 0)), .int a1] (PW g (xw g M))) (va_Qi (fun r M => Q r M ∧ narrow .boolean (.int r) = .int r) (PB g (xw g)) (Af 0 g)) 0 0 (Af 0 g) := by
  refine Met.ofW (cc := cX6_readNumbers) (maxL := 3) (ret := (some .boolean)) (by decide +kernel) rfl ?_
  intro p e s m args below meth c s₁ B hml hv
  obtain ⟨rfl, hv⟩ := hv
  have C := CX.start (own := RX6) B hml rfl gi hv
  have hP := hv.1
  have hS : va_S (Af 0 g) s.heap s.heap [] := va_S.rf
  have hl := lv_entry ([.ref (g.2.1 (2 + 0)), .int a1]) (n := 3) (Nat.le_of_ble_eq_true rfl)
  rw [lg_entry_eq]
  generalize (lg_sl ([.ref (g.2.1 (2 + 0)), .int a1]) ++ List.replicate (3 - (lg_sl ([.ref (g.2.1 (2 + 0)), .int a1])).length) Slot.unset).toArray = ls at hl ⊢
  have hl : lv_has ls 3 [(0, .ref (g.2.1 (2 + 0))), (1, .int a1)] := hl
  unfold p_X6_readNumbers at hw
  refine lv_iconst (v := 0) C.1 C.2.1 dX6_readNumbers_0 (by decide) ?_
  refine lv_istore_n (lv' := [(2, .int 0), (0, .ref (g.2.1 (2 + 0))), (1, .int a1)]) C.1 C.2.1 dX6_readNumbers_1 rfl hl (by decide) rfl (fun ls hl => ?_)
  obtain ⟨n9, hw⟩ := hw
  exact k_X6_readNumbers_2 (Q := Q) C n9 a1 0  _ hw (lv_sub hl [1, 2, 0] rfl) hP hS
def p_X10_subframe (a0 : Int32) (a1 : Int32) (M : Mem) (Q : Int32 → Mem → Prop) : Prop := (∀ x1 : Int32, x1 = ((a0 <<< (6 &&& 31)) ||| a1) → (p_X10_parityOf x1 M (fun r2 M2 => (Q (((45056 : Int32) ||| (x1 <<< (4 &&& 31))) ||| r2) M2))))
set_option maxRecDepth 100000 in
set_option maxHeartbeats 4000000 in
theorem c_X10_subframe (l : Launch) (g : Geo) (gi : GI g) (a0 : Int32) (a1 : Int32) (M : Mem) (Q : Int32 → Mem → Prop) (hw : p_X10_subframe a0 a1 M Q) : Met l yX10_subframe (Cond.code yX10_subframe cX10_subframe 3 (some .int) :: bg) ({ frames := 1, cells := 0, slots := 0, locals := 24 } : Room) (va_Pc [.int a0, .int a1] (PW g (xw g M))) (va_Qi Q (PB g (xw g)) (Af 0 g)) 0 0 (Af 0 g) := by
  refine Met.ofW (cc := cX10_subframe) (maxL := 3) (ret := (some .int)) (by decide +kernel) rfl ?_
  intro p e s m args below meth c s₁ B hml hv
  obtain ⟨rfl, hv⟩ := hv
  have C := CX.start (own := RX10) B hml rfl gi hv
  have hP := hv.1
  have hS : va_S (Af 0 g) s.heap s.heap [] := va_S.rf
  have hl := lv_entry ([.int a0, .int a1]) (n := 3) (Nat.le_of_ble_eq_true rfl)
  rw [lg_entry_eq]
  generalize (lg_sl ([.int a0, .int a1]) ++ List.replicate (3 - (lg_sl ([.int a0, .int a1])).length) Slot.unset).toArray = ls at hl ⊢
  have hl : lv_has ls 3 [(0, .int a0), (1, .int a1)] := hl
  unfold p_X10_subframe at hw
  refine lv_iload_n C.1 C.2.1 dX10_subframe_0 rfl (lv_at hl 0 rfl) ?_
  refine lv_bipush (v := 6) C.1 C.2.1 dX10_subframe_1 (by decide) ?_
  refine lv_ishl C.1 C.2.1 dX10_subframe_3 ?_
  refine lv_iload_n C.1 C.2.1 dX10_subframe_4 rfl (lv_at hl 1 rfl) ?_
  refine lv_ior C.1 C.2.1 dX10_subframe_5 ?_
  refine lv_topi (fun x1 e1 => ?_)
  have hw := hw x1 e1
  refine lv_istore_n (lv' := [(2, .int x1), (0, .int a0), (1, .int a1)]) C.1 C.2.1 dX10_subframe_6 rfl hl (by decide) rfl (fun ls hl => ?_)
  refine lv_ldcw (v := 45056) C.1 C.2.1 C.2.2.2.2.1 (C.2.2.2.2.2.1 _ (bg_of 733 (by decide +kernel) rfl)) dX10_subframe_7 ?_
  refine lv_iload_n C.1 C.2.1 dX10_subframe_10 rfl (lv_at hl 0 rfl) ?_
  refine lv_iconst (v := 4) C.1 C.2.1 dX10_subframe_11 (by decide) ?_
  refine lv_ishl C.1 C.2.1 dX10_subframe_12 ?_
  refine lv_ior C.1 C.2.1 dX10_subframe_13 ?_
  refine lv_iload_n C.1 C.2.1 dX10_subframe_14 rfl (lv_at hl 0 rfl) ?_
  refine goI (wf := (xw g)) (runS (w := xw g M) (As := [.int x1]) (rest := [.int ((45056 : Int32) ||| (x1 <<< (4 &&& 31)))]) C lkX10_460 (c_X10_parityOf l g C.2.2.2.2.2.2.2.2.2.2 x1  M _ hw) hP hS rfl rfl ⟨Nat.le_of_ble_eq_true rfl, Nat.le_of_ble_eq_true rfl⟩ hl.1 rfl (Nat.le_of_ble_eq_true rfl) dX10_subframe_15) hS (fun r2 M2 hw H locs hP hS => ?_)
  refine lv_ior C.1 C.2.1 dX10_subframe_18 ?_
  exact retI (wf := (xw g)) C hP hS hw dX10_subframe_19
def p_X6_takeOfBird (a1 : Int32) (M : Mem) (Q : Mem → Prop) : Prop := ((M.2.2 2 0 10 = none → (Q M)) ∧ (∀ q1 : Nat, M.2.2 2 0 10 = some q1 → ((a1 = 1 → (∃ w14 : Nat, M.2.2 2 0 10 = some (27 + w14) ∧ w14 < 10 ∧ (vp_in 0 4 ∧ (∀ M16 : Mem, M16 = sI M 25 w14 3 (M.1 3 0 (0 : Int32).toNatClampNeg) → (∃ w17 : Nat, M16.2.2 2 0 10 = some (27 + w17) ∧ w17 < 10 ∧ (vp_in 1 4 ∧ (∀ M19 : Mem, M19 = sI M16 25 w17 4 (M16.1 3 0 (1 : Int32).toNatClampNeg) → (∃ w20 : Nat, M19.2.2 2 0 10 = some (27 + w20) ∧ w20 < 10 ∧ (vp_in 2 4 ∧ (∀ M22 : Mem, M22 = sI M19 25 w20 5 (M19.1 3 0 (2 : Int32).toNatClampNeg) → (∃ w23 : Nat, M22.2.2 2 0 10 = some (27 + w23) ∧ w23 < 10 ∧ (vp_in 3 4 ∧ (∀ M25 : Mem, M25 = sI M22 25 w23 6 (M22.1 3 0 (3 : Int32).toNatClampNeg) → (Q M25)))))))))))))) ∧ (a1 = 2 → (∃ w26 : Nat, M.2.2 2 0 10 = some (27 + w26) ∧ w26 < 10 ∧ (vp_in 0 4 ∧ (∀ M28 : Mem, M28 = sI M 25 w26 7 (M.1 3 0 (0 : Int32).toNatClampNeg) → (Q M28))))) ∧ (a1 = 3 → (∃ w29 : Nat, M.2.2 2 0 10 = some (27 + w29) ∧ w29 < 10 ∧ (vp_in 0 4 ∧ (∀ M31 : Mem, M31 = sI M 25 w29 8 (M.1 3 0 (0 : Int32).toNatClampNeg) → (Q M31))))) ∧ (a1 = 4 → (∃ w32 : Nat, M.2.2 2 0 10 = some (27 + w32) ∧ w32 < 10 ∧ (vp_in 0 4 ∧ (vp_in 1 4 ∧ (p_X10_subframe ((M.1 3 0 (0 : Int32).toNatClampNeg)) ((M.1 3 0 (1 : Int32).toNatClampNeg)) M (fun r35 M35 => (p_X0_addSubframe w32 r35 M35 (fun M36 => (∃ w37 : Nat, M36.2.2 2 0 8 = some (23 + w37) ∧ w37 < 2 ∧ (∀ M38 : Mem, M38 = sI M36 23 w37 2 ((M36.1 23 w37 2) + 1) → (Q M38))))))))))) ∧ (¬ a1 = 1 → ¬ a1 = 2 → ¬ a1 = 3 → ¬ a1 = 4 → (∃ w3 : Nat, M.2.2 2 0 10 = some (27 + w3) ∧ w3 < 10 ∧ (∀ M4 : Mem, M4 = sI M 25 w3 9 1 → (∃ w5 : Nat, M4.2.2 2 0 10 = some (27 + w5) ∧ w5 < 10 ∧ (vp_in 0 4 ∧ (∀ M7 : Mem, M7 = sI M4 25 w5 10 (M4.1 3 0 (0 : Int32).toNatClampNeg) → (∃ w8 : Nat, M7.2.2 2 0 10 = some (27 + w8) ∧ w8 < 10 ∧ (vp_in 1 4 ∧ (∀ M10 : Mem, M10 = sI M7 25 w8 11 (M7.1 3 0 (1 : Int32).toNatClampNeg) → (∃ w11 : Nat, M10.2.2 2 0 10 = some (27 + w11) ∧ w11 < 10 ∧ (vp_in 2 4 ∧ (∀ M13 : Mem, M13 = sI M10 25 w11 12 (M10.1 3 0 (2 : Int32).toNatClampNeg) → (Q M13))))))))))))))))
set_option maxRecDepth 100000 in
set_option maxHeartbeats 4000000 in
theorem c_X6_takeOfBird (l : Launch) (g : Geo) (gi : GI g) (a1 : Int32) (M : Mem) (Q : Mem → Prop) (hw : p_X6_takeOfBird a1 M Q) : Met l yX6_takeOfBird (Cond.code yX6_takeOfBird cX6_takeOfBird 2 none :: bg) ({ frames := 2, cells := 0, slots := 0, locals := 46 } : Room) (va_Pc [.ref (g.2.1 (2 + 0)), .int a1] (PW g (xw g M))) (va_Qv Q (PB g (xw g)) (Af 0 g)) 0 0 (Af 0 g) := by
  refine Met.ofW (cc := cX6_takeOfBird) (maxL := 2) (ret := none) (by decide +kernel) rfl ?_
  intro p e s m args below meth c s₁ B hml hv
  obtain ⟨rfl, hv⟩ := hv
  have C := CX.start (own := RX6) B hml rfl gi hv
  have hP := hv.1
  have hS : va_S (Af 0 g) s.heap s.heap [] := va_S.rf
  have hl := lv_entry ([.ref (g.2.1 (2 + 0)), .int a1]) (n := 2) (Nat.le_of_ble_eq_true rfl)
  rw [lg_entry_eq]
  generalize (lg_sl ([.ref (g.2.1 (2 + 0)), .int a1]) ++ List.replicate (2 - (lg_sl ([.ref (g.2.1 (2 + 0)), .int a1])).length) Slot.unset).toArray = ls at hl ⊢
  have hl : lv_has ls 2 [(0, .ref (g.2.1 (2 + 0))), (1, .int a1)] := hl
  unfold p_X6_takeOfBird at hw
  refine lv_aload_n C.1 C.2.1 dX6_takeOfBird_0 rfl (lv_at hl 0 rfl) ?_
  refine gX6_105 C hP Nat.zero_lt_one dX6_takeOfBird_1 ?_
  rcases h1 : M.2.2 2 0 10 with _ | q1
  · have hw := hw.1 h1
    refine lv_ifnonnullN C.1 C.2.1 dX6_takeOfBird_4 ?_
    exact retV (wf := (xw g)) C hP hS hw dX6_takeOfBird_7
  · have hw := hw.2 _ h1
    refine lv_ifnonnull (tgt := 8) C.1 C.2.1 dX6_takeOfBird_4 (by decide) ?_
    refine lv_iload_n C.1 C.2.1 dX6_takeOfBird_8 rfl (lv_at hl 1 rfl) ?_
    by_cases q2_0 : a1 = 1
    · have hw := hw.1 q2_0
      refine lv_tableIn (tgt := 40) (off := 31) C.1 C.2.1 dX6_takeOfBird_9 (by rw [q2_0]; decide) (by rw [q2_0]; decide) (by rw [q2_0]; decide +kernel) (by decide) ?_
      refine lv_aload_n C.1 C.2.1 dX6_takeOfBird_40 rfl (lv_at hl 0 rfl) ?_
      obtain ⟨w14, h14, hb14, hw⟩ := hw
      refine gX6_105f C hP Nat.zero_lt_one h14 dX6_takeOfBird_41 ?_
      refine lv_aload_n C.1 C.2.1 dX6_takeOfBird_44 rfl (lv_at hl 0 rfl) ?_
      refine gX6_19 C hP Nat.zero_lt_one dX6_takeOfBird_45 ?_
      refine lv_iconst (v := 0) C.1 C.2.1 dX6_takeOfBird_48 (by decide) ?_
      obtain ⟨h15, hw⟩ := hw
      refine al_3 C hP Nat.zero_lt_one h15 dX6_takeOfBird_49 ?_
      refine pX6_179 C hP hS hb14 dX6_takeOfBird_50 (fun M16 e16 H locs hP hS => ?_)
      have hw := hw M16 e16
      refine lv_aload_n C.1 C.2.1 dX6_takeOfBird_53 rfl (lv_at hl 0 rfl) ?_
      obtain ⟨w17, h17, hb17, hw⟩ := hw
      refine gX6_105f C hP Nat.zero_lt_one h17 dX6_takeOfBird_54 ?_
      refine lv_aload_n C.1 C.2.1 dX6_takeOfBird_57 rfl (lv_at hl 0 rfl) ?_
      refine gX6_19 C hP Nat.zero_lt_one dX6_takeOfBird_58 ?_
      refine lv_iconst (v := 1) C.1 C.2.1 dX6_takeOfBird_61 (by decide) ?_
      obtain ⟨h18, hw⟩ := hw
      refine al_3 C hP Nat.zero_lt_one h18 dX6_takeOfBird_62 ?_
      refine pX6_182 C hP hS hb17 dX6_takeOfBird_63 (fun M19 e19 H locs hP hS => ?_)
      have hw := hw M19 e19
      refine lv_aload_n C.1 C.2.1 dX6_takeOfBird_66 rfl (lv_at hl 0 rfl) ?_
      obtain ⟨w20, h20, hb20, hw⟩ := hw
      refine gX6_105f C hP Nat.zero_lt_one h20 dX6_takeOfBird_67 ?_
      refine lv_aload_n C.1 C.2.1 dX6_takeOfBird_70 rfl (lv_at hl 0 rfl) ?_
      refine gX6_19 C hP Nat.zero_lt_one dX6_takeOfBird_71 ?_
      refine lv_iconst (v := 2) C.1 C.2.1 dX6_takeOfBird_74 (by decide) ?_
      obtain ⟨h21, hw⟩ := hw
      refine al_3 C hP Nat.zero_lt_one h21 dX6_takeOfBird_75 ?_
      refine pX6_185 C hP hS hb20 dX6_takeOfBird_76 (fun M22 e22 H locs hP hS => ?_)
      have hw := hw M22 e22
      refine lv_aload_n C.1 C.2.1 dX6_takeOfBird_79 rfl (lv_at hl 0 rfl) ?_
      obtain ⟨w23, h23, hb23, hw⟩ := hw
      refine gX6_105f C hP Nat.zero_lt_one h23 dX6_takeOfBird_80 ?_
      refine lv_aload_n C.1 C.2.1 dX6_takeOfBird_83 rfl (lv_at hl 0 rfl) ?_
      refine gX6_19 C hP Nat.zero_lt_one dX6_takeOfBird_84 ?_
      refine lv_iconst (v := 3) C.1 C.2.1 dX6_takeOfBird_87 (by decide) ?_
      obtain ⟨h24, hw⟩ := hw
      refine al_3 C hP Nat.zero_lt_one h24 dX6_takeOfBird_88 ?_
      refine pX6_188 C hP hS hb23 dX6_takeOfBird_89 (fun M25 e25 H locs hP hS => ?_)
      have hw := hw M25 e25
      refine lv_goto (tgt := 212) C.1 C.2.1 dX6_takeOfBird_92 (by decide) ?_
      exact retV (wf := (xw g)) C hP hS hw dX6_takeOfBird_212
    by_cases q2_1 : a1 = 2
    · have hw := hw.2.1 q2_1
      refine lv_tableIn (tgt := 95) (off := 86) C.1 C.2.1 dX6_takeOfBird_9 (by rw [q2_1]; decide) (by rw [q2_1]; decide) (by rw [q2_1]; decide +kernel) (by decide) ?_
      refine lv_aload_n C.1 C.2.1 dX6_takeOfBird_95 rfl (lv_at hl 0 rfl) ?_
      obtain ⟨w26, h26, hb26, hw⟩ := hw
      refine gX6_105f C hP Nat.zero_lt_one h26 dX6_takeOfBird_96 ?_
      refine lv_aload_n C.1 C.2.1 dX6_takeOfBird_99 rfl (lv_at hl 0 rfl) ?_
      refine gX6_19 C hP Nat.zero_lt_one dX6_takeOfBird_100 ?_
      refine lv_iconst (v := 0) C.1 C.2.1 dX6_takeOfBird_103 (by decide) ?_
      obtain ⟨h27, hw⟩ := hw
      refine al_3 C hP Nat.zero_lt_one h27 dX6_takeOfBird_104 ?_
      refine pX6_120 C hP hS hb26 dX6_takeOfBird_105 (fun M28 e28 H locs hP hS => ?_)
      have hw := hw M28 e28
      refine lv_goto (tgt := 212) C.1 C.2.1 dX6_takeOfBird_108 (by decide) ?_
      exact retV (wf := (xw g)) C hP hS hw dX6_takeOfBird_212
    by_cases q2_2 : a1 = 3
    · have hw := hw.2.2.1 q2_2
      refine lv_tableIn (tgt := 111) (off := 102) C.1 C.2.1 dX6_takeOfBird_9 (by rw [q2_2]; decide) (by rw [q2_2]; decide) (by rw [q2_2]; decide +kernel) (by decide) ?_
      refine lv_aload_n C.1 C.2.1 dX6_takeOfBird_111 rfl (lv_at hl 0 rfl) ?_
      obtain ⟨w29, h29, hb29, hw⟩ := hw
      refine gX6_105f C hP Nat.zero_lt_one h29 dX6_takeOfBird_112 ?_
      refine lv_aload_n C.1 C.2.1 dX6_takeOfBird_115 rfl (lv_at hl 0 rfl) ?_
      refine gX6_19 C hP Nat.zero_lt_one dX6_takeOfBird_116 ?_
      refine lv_iconst (v := 0) C.1 C.2.1 dX6_takeOfBird_119 (by decide) ?_
      obtain ⟨h30, hw⟩ := hw
      refine al_3 C hP Nat.zero_lt_one h30 dX6_takeOfBird_120 ?_
      refine pX6_123 C hP hS hb29 dX6_takeOfBird_121 (fun M31 e31 H locs hP hS => ?_)
      have hw := hw M31 e31
      refine lv_goto (tgt := 212) C.1 C.2.1 dX6_takeOfBird_124 (by decide) ?_
      exact retV (wf := (xw g)) C hP hS hw dX6_takeOfBird_212
    by_cases q2_3 : a1 = 4
    · have hw := hw.2.2.2.1 q2_3
      refine lv_tableIn (tgt := 127) (off := 118) C.1 C.2.1 dX6_takeOfBird_9 (by rw [q2_3]; decide) (by rw [q2_3]; decide) (by rw [q2_3]; decide +kernel) (by decide) ?_
      refine lv_aload_n C.1 C.2.1 dX6_takeOfBird_127 rfl (lv_at hl 0 rfl) ?_
      obtain ⟨w32, h32, hb32, hw⟩ := hw
      refine gX6_105f C hP Nat.zero_lt_one h32 dX6_takeOfBird_128 ?_
      refine lv_aload_n C.1 C.2.1 dX6_takeOfBird_131 rfl (lv_at hl 0 rfl) ?_
      refine gX6_19 C hP Nat.zero_lt_one dX6_takeOfBird_132 ?_
      refine lv_iconst (v := 0) C.1 C.2.1 dX6_takeOfBird_135 (by decide) ?_
      obtain ⟨h33, hw⟩ := hw
      refine al_3 C hP Nat.zero_lt_one h33 dX6_takeOfBird_136 ?_
      refine lv_aload_n C.1 C.2.1 dX6_takeOfBird_137 rfl (lv_at hl 0 rfl) ?_
      refine gX6_19 C hP Nat.zero_lt_one dX6_takeOfBird_138 ?_
      refine lv_iconst (v := 1) C.1 C.2.1 dX6_takeOfBird_141 (by decide) ?_
      obtain ⟨h34, hw⟩ := hw
      refine al_3 C hP Nat.zero_lt_one h34 dX6_takeOfBird_142 ?_
      refine goI (wf := (xw g)) (runN (w := xw g M) (As := [.int (M.1 3 0 (0 : Int32).toNatClampNeg), .int (M.1 3 0 (1 : Int32).toNatClampNeg)]) (rest := [.ref (g.2.1 (27 + w32))]) C lkX6_191 (c_X10_subframe l g C.2.2.2.2.2.2.2.2.2.2 ((M.1 3 0 (0 : Int32).toNatClampNeg)) ((M.1 3 0 (1 : Int32).toNatClampNeg))  M _ hw) hP hS rfl rfl ⟨Nat.le_of_ble_eq_true rfl, Nat.le_of_ble_eq_true rfl⟩ hl.1 rfl (Nat.le_of_ble_eq_true rfl) dX6_takeOfBird_143) hS (fun r35 M35 hw H locs hP hS => ?_)
      refine goV (wf := (xw g)) (runV (w := xw g M35) (As := [.int r35]) (rest := []) C lkX6_194 (c_X0_addSubframe l g C.2.2.2.2.2.2.2.2.2.2 w32 r35 hb32 M35 _ hw) hP hS rfl rfl ⟨Nat.le_of_ble_eq_true rfl, Nat.le_of_ble_eq_true rfl⟩ (xx_25 hb32) rfl rfl hl.1 rfl (Nat.le_of_ble_eq_true rfl) dX6_takeOfBird_146) hS (fun M36 hw H locs hP hS => ?_)
      refine lv_aload_n C.1 C.2.1 dX6_takeOfBird_149 rfl (lv_at hl 0 rfl) ?_
      obtain ⟨w37, h37, hb37, hw⟩ := hw
      refine gX6_34f C hP Nat.zero_lt_one h37 dX6_takeOfBird_150 ?_
      refine lv_dup C.1 C.2.1 dX6_takeOfBird_153 rfl ?_
      refine gX6_95 C hP hb37 dX6_takeOfBird_154 ?_
      refine lv_iconst (v := 1) C.1 C.2.1 dX6_takeOfBird_157 (by decide) ?_
      refine lv_iadd C.1 C.2.1 dX6_takeOfBird_158 ?_
      refine pX6_95 C hP hS hb37 dX6_takeOfBird_159 (fun M38 e38 H locs hP hS => ?_)
      have hw := hw M38 e38
      refine lv_goto (tgt := 212) C.1 C.2.1 dX6_takeOfBird_162 (by decide) ?_
      exact retV (wf := (xw g)) C hP hS hw dX6_takeOfBird_212
    have hw := hw.2.2.2.2 q2_0 q2_1 q2_2 q2_3
    have n2_0 : a1.toInt ≠ 1 := tsw q2_0
    have n2_1 : a1.toInt ≠ 2 := tsw q2_1
    have n2_2 : a1.toInt ≠ 3 := tsw q2_2
    have n2_3 : a1.toInt ≠ 4 := tsw q2_3
    refine lv_tableOut (tgt := 165) C.1 C.2.1 dX6_takeOfBird_9 (by omega) (by decide) ?_
    refine lv_aload_n C.1 C.2.1 dX6_takeOfBird_165 rfl (lv_at hl 0 rfl) ?_
    obtain ⟨w3, h3, hb3, hw⟩ := hw
    refine gX6_105f C hP Nat.zero_lt_one h3 dX6_takeOfBird_166 ?_
    refine lv_iconst (v := 1) C.1 C.2.1 dX6_takeOfBird_169 (by decide) ?_
    refine pX6_126 C hP hS hb3 rfl rfl dX6_takeOfBird_170 (fun M4 e4 H locs hP hS => ?_)
    have hw := hw M4 e4
    refine lv_aload_n C.1 C.2.1 dX6_takeOfBird_173 rfl (lv_at hl 0 rfl) ?_
    obtain ⟨w5, h5, hb5, hw⟩ := hw
    refine gX6_105f C hP Nat.zero_lt_one h5 dX6_takeOfBird_174 ?_
    refine lv_aload_n C.1 C.2.1 dX6_takeOfBird_177 rfl (lv_at hl 0 rfl) ?_
    refine gX6_19 C hP Nat.zero_lt_one dX6_takeOfBird_178 ?_
    refine lv_iconst (v := 0) C.1 C.2.1 dX6_takeOfBird_181 (by decide) ?_
    obtain ⟨h6, hw⟩ := hw
    refine al_3 C hP Nat.zero_lt_one h6 dX6_takeOfBird_182 ?_
    refine pX6_197 C hP hS hb5 dX6_takeOfBird_183 (fun M7 e7 H locs hP hS => ?_)
    have hw := hw M7 e7
    refine lv_aload_n C.1 C.2.1 dX6_takeOfBird_186 rfl (lv_at hl 0 rfl) ?_
    obtain ⟨w8, h8, hb8, hw⟩ := hw
    refine gX6_105f C hP Nat.zero_lt_one h8 dX6_takeOfBird_187 ?_
    refine lv_aload_n C.1 C.2.1 dX6_takeOfBird_190 rfl (lv_at hl 0 rfl) ?_
    refine gX6_19 C hP Nat.zero_lt_one dX6_takeOfBird_191 ?_
    refine lv_iconst (v := 1) C.1 C.2.1 dX6_takeOfBird_194 (by decide) ?_
    obtain ⟨h9, hw⟩ := hw
    refine al_3 C hP Nat.zero_lt_one h9 dX6_takeOfBird_195 ?_
    refine pX6_200 C hP hS hb8 dX6_takeOfBird_196 (fun M10 e10 H locs hP hS => ?_)
    have hw := hw M10 e10
    refine lv_aload_n C.1 C.2.1 dX6_takeOfBird_199 rfl (lv_at hl 0 rfl) ?_
    obtain ⟨w11, h11, hb11, hw⟩ := hw
    refine gX6_105f C hP Nat.zero_lt_one h11 dX6_takeOfBird_200 ?_
    refine lv_aload_n C.1 C.2.1 dX6_takeOfBird_203 rfl (lv_at hl 0 rfl) ?_
    refine gX6_19 C hP Nat.zero_lt_one dX6_takeOfBird_204 ?_
    refine lv_iconst (v := 2) C.1 C.2.1 dX6_takeOfBird_207 (by decide) ?_
    obtain ⟨h12, hw⟩ := hw
    refine al_3 C hP Nat.zero_lt_one h12 dX6_takeOfBird_208 ?_
    refine pX6_203 C hP hS hb11 dX6_takeOfBird_209 (fun M13 e13 H locs hP hS => ?_)
    have hw := hw M13 e13
    exact retV (wf := (xw g)) C hP hS hw dX6_takeOfBird_212
