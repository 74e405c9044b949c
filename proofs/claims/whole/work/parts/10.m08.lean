def p_X11_isSmall (a1 : Int32) (M : Mem) (Q : Int32 → Mem → Prop) : Prop := (((M.1 40 0 6) ≤ a1 → (Q 0 M)) ∧ (¬ (M.1 40 0 6) ≤ a1 → (vp_in a1 700 ∧ (((M.1 41 0 (a1 : Int32).toNatClampNeg) < 97 → (Q 0 M)) ∧ (¬ (M.1 41 0 (a1 : Int32).toNatClampNeg) < 97 → (vp_in a1 700 ∧ ((122 < (M.1 41 0 (a1 : Int32).toNatClampNeg) → (Q 0 M)) ∧ (¬ 122 < (M.1 41 0 (a1 : Int32).toNatClampNeg) → (Q 1 M)))))))))
set_option maxRecDepth 100000 in
set_option maxHeartbeats 4000000 in
theorem c_X11_isSmall (l : Launch) (g : Geo) (gi : GI g) (a1 : Int32) (M : Mem) (Q : Int32 → Mem → Prop) (hw : p_X11_isSmall a1 M Q) : Met l yX11_isSmall (Cond.code yX11_isSmall cX11_isSmall 2 (some .boolean) :: bg) ({ frames := 0, cells := 0, slots := 0, locals := 0 } : Room) (va_Pc [.ref (g.2.1 (138 + 0)), .int a1] (PW g (yw g M))) (va_Qi (fun r M => Q r M ∧ narrow .boolean (.int r) = .int r) (PB g (yw g)) (Af 1 g)) 0 0 (Af 1 g) := by
  refine Met.ofW (cc := cX11_isSmall) (maxL := 2) (ret := (some .boolean)) (by decide +kernel) rfl ?_
  intro p e s m args below meth c s₁ B hml hv
  obtain ⟨rfl, hv⟩ := hv
  have C := CX.start (own := RX11) B hml rfl gi hv
  have hP := hv.1
  have hS : va_S (Af 1 g) s.heap s.heap [] := va_S.rf
  have hl := lv_entry ([.ref (g.2.1 (138 + 0)), .int a1]) (n := 2) (Nat.le_of_ble_eq_true rfl)
  rw [lg_entry_eq]
  generalize (lg_sl ([.ref (g.2.1 (138 + 0)), .int a1]) ++ List.replicate (2 - (lg_sl ([.ref (g.2.1 (138 + 0)), .int a1])).length) Slot.unset).toArray = ls at hl ⊢
  have hl : lv_has ls 2 [(0, .ref (g.2.1 (138 + 0))), (1, .int a1)] := hl
  unfold p_X11_isSmall at hw
  refine lv_iload_n C.1 C.2.1 dX11_isSmall_0 rfl (lv_at hl 1 rfl) ?_
  refine lv_aload_n C.1 C.2.1 dX11_isSmall_1 rfl (lv_at hl 0 rfl) ?_
  refine gX11_88 C hP Nat.zero_lt_one dX11_isSmall_2 ?_
  refine lv_icmp_ge (tgt := 34) C.1 C.2.1 dX11_isSmall_5 (by decide) (fun h1 => ?_) (fun h1 => ?_)
  · have hw := hw.1 h1
    refine lv_iconst (v := 0) C.1 C.2.1 dX11_isSmall_34 (by decide) ?_
    exact retZ (wf := (yw g)) C hP hS rfl hw dX11_isSmall_35
  · have hw := hw.2 h1
    refine lv_aload_n C.1 C.2.1 dX11_isSmall_8 rfl (lv_at hl 0 rfl) ?_
    refine gX11_7 C hP Nat.zero_lt_one dX11_isSmall_9 ?_
    refine lv_iload_n C.1 C.2.1 dX11_isSmall_12 rfl (lv_at hl 1 rfl) ?_
    obtain ⟨h2, hw⟩ := hw
    refine al_41 C hP Nat.zero_lt_one h2 dX11_isSmall_13 ?_
    refine lv_bipush (v := 97) C.1 C.2.1 dX11_isSmall_14 (by decide) ?_
    refine lv_icmp_lt (tgt := 34) C.1 C.2.1 dX11_isSmall_16 (by decide) (fun h3 => ?_) (fun h3 => ?_)
    · have hw := hw.1 h3
      refine lv_iconst (v := 0) C.1 C.2.1 dX11_isSmall_34 (by decide) ?_
      exact retZ (wf := (yw g)) C hP hS rfl hw dX11_isSmall_35
    · have hw := hw.2 h3
      refine lv_aload_n C.1 C.2.1 dX11_isSmall_19 rfl (lv_at hl 0 rfl) ?_
      refine gX11_7 C hP Nat.zero_lt_one dX11_isSmall_20 ?_
      refine lv_iload_n C.1 C.2.1 dX11_isSmall_23 rfl (lv_at hl 1 rfl) ?_
      obtain ⟨h4, hw⟩ := hw
      refine al_41 C hP Nat.zero_lt_one h4 dX11_isSmall_24 ?_
      refine lv_bipush (v := 122) C.1 C.2.1 dX11_isSmall_25 (by decide) ?_
      refine lv_icmp_gt (tgt := 34) C.1 C.2.1 dX11_isSmall_27 (by decide) (fun h5 => ?_) (fun h5 => ?_)
      · have hw := hw.1 h5
        refine lv_iconst (v := 0) C.1 C.2.1 dX11_isSmall_34 (by decide) ?_
        exact retZ (wf := (yw g)) C hP hS rfl hw dX11_isSmall_35
      · have hw := hw.2 h5
        refine lv_iconst (v := 1) C.1 C.2.1 dX11_isSmall_30 (by decide) ?_
        refine lv_goto (tgt := 35) C.1 C.2.1 dX11_isSmall_31 (by decide) ?_
        exact retZ (wf := (yw g)) C hP hS rfl hw dX11_isSmall_35
def p_X11_isDigit (a1 : Int32) (M : Mem) (Q : Int32 → Mem → Prop) : Prop := (((M.1 40 0 6) ≤ a1 → (Q 0 M)) ∧ (¬ (M.1 40 0 6) ≤ a1 → (vp_in a1 700 ∧ (((M.1 41 0 (a1 : Int32).toNatClampNeg) < 48 → (Q 0 M)) ∧ (¬ (M.1 41 0 (a1 : Int32).toNatClampNeg) < 48 → (vp_in a1 700 ∧ ((57 < (M.1 41 0 (a1 : Int32).toNatClampNeg) → (Q 0 M)) ∧ (¬ 57 < (M.1 41 0 (a1 : Int32).toNatClampNeg) → (Q 1 M)))))))))
set_option maxRecDepth 100000 in
set_option maxHeartbeats 4000000 in
theorem c_X11_isDigit (l : Launch) (g : Geo) (gi : GI g) (a1 : Int32) (M : Mem) (Q : Int32 → Mem → Prop) (hw : p_X11_isDigit a1 M Q) : Met l yX11_isDigit (Cond.code yX11_isDigit cX11_isDigit 2 (some .boolean) :: bg) ({ frames := 0, cells := 0, slots := 0, locals := 0 } : Room) (va_Pc [.ref (g.2.1 (138 + 0)), .int a1] (PW g (yw g M))) (va_Qi (fun r M => Q r M ∧ narrow .boolean (.int r) = .int r) (PB g (yw g)) (Af 1 g)) 0 0 (Af 1 g) := by
  refine Met.ofW (cc := cX11_isDigit) (maxL := 2) (ret := (some .boolean)) (by decide +kernel) rfl ?_
  intro p e s m args below meth c s₁ B hml hv
  obtain ⟨rfl, hv⟩ := hv
  have C := CX.start (own := RX11) B hml rfl gi hv
  have hP := hv.1
  have hS : va_S (Af 1 g) s.heap s.heap [] := va_S.rf
  have hl := lv_entry ([.ref (g.2.1 (138 + 0)), .int a1]) (n := 2) (Nat.le_of_ble_eq_true rfl)
  rw [lg_entry_eq]
  generalize (lg_sl ([.ref (g.2.1 (138 + 0)), .int a1]) ++ List.replicate (2 - (lg_sl ([.ref (g.2.1 (138 + 0)), .int a1])).length) Slot.unset).toArray = ls at hl ⊢
  have hl : lv_has ls 2 [(0, .ref (g.2.1 (138 + 0))), (1, .int a1)] := hl
  unfold p_X11_isDigit at hw
  refine lv_iload_n C.1 C.2.1 dX11_isDigit_0 rfl (lv_at hl 1 rfl) ?_
  refine lv_aload_n C.1 C.2.1 dX11_isDigit_1 rfl (lv_at hl 0 rfl) ?_
  refine gX11_88 C hP Nat.zero_lt_one dX11_isDigit_2 ?_
  refine lv_icmp_ge (tgt := 34) C.1 C.2.1 dX11_isDigit_5 (by decide) (fun h1 => ?_) (fun h1 => ?_)
  · have hw := hw.1 h1
    refine lv_iconst (v := 0) C.1 C.2.1 dX11_isDigit_34 (by decide) ?_
    exact retZ (wf := (yw g)) C hP hS rfl hw dX11_isDigit_35
  · have hw := hw.2 h1
    refine lv_aload_n C.1 C.2.1 dX11_isDigit_8 rfl (lv_at hl 0 rfl) ?_
    refine gX11_7 C hP Nat.zero_lt_one dX11_isDigit_9 ?_
    refine lv_iload_n C.1 C.2.1 dX11_isDigit_12 rfl (lv_at hl 1 rfl) ?_
    obtain ⟨h2, hw⟩ := hw
    refine al_41 C hP Nat.zero_lt_one h2 dX11_isDigit_13 ?_
    refine lv_bipush (v := 48) C.1 C.2.1 dX11_isDigit_14 (by decide) ?_
    refine lv_icmp_lt (tgt := 34) C.1 C.2.1 dX11_isDigit_16 (by decide) (fun h3 => ?_) (fun h3 => ?_)
    · have hw := hw.1 h3
      refine lv_iconst (v := 0) C.1 C.2.1 dX11_isDigit_34 (by decide) ?_
      exact retZ (wf := (yw g)) C hP hS rfl hw dX11_isDigit_35
    · have hw := hw.2 h3
      refine lv_aload_n C.1 C.2.1 dX11_isDigit_19 rfl (lv_at hl 0 rfl) ?_
      refine gX11_7 C hP Nat.zero_lt_one dX11_isDigit_20 ?_
      refine lv_iload_n C.1 C.2.1 dX11_isDigit_23 rfl (lv_at hl 1 rfl) ?_
      obtain ⟨h4, hw⟩ := hw
      refine al_41 C hP Nat.zero_lt_one h4 dX11_isDigit_24 ?_
      refine lv_bipush (v := 57) C.1 C.2.1 dX11_isDigit_25 (by decide) ?_
      refine lv_icmp_gt (tgt := 34) C.1 C.2.1 dX11_isDigit_27 (by decide) (fun h5 => ?_) (fun h5 => ?_)
      · have hw := hw.1 h5
        refine lv_iconst (v := 0) C.1 C.2.1 dX11_isDigit_34 (by decide) ?_
        exact retZ (wf := (yw g)) C hP hS rfl hw dX11_isDigit_35
      · have hw := hw.2 h5
        refine lv_iconst (v := 1) C.1 C.2.1 dX11_isDigit_30 (by decide) ?_
        refine lv_goto (tgt := 35) C.1 C.2.1 dX11_isDigit_31 (by decide) ?_
        exact retZ (wf := (yw g)) C hP hS rfl hw dX11_isDigit_35
def b_X11_packed_37 (Q : Int32 → Mem → Prop) (k5 : Int32 → Int32 → Int32 → Int32 → Mem → Prop) (v1 : Int32) (v2 : Int32) (v4 : Int32) (s0 : Int32) (s1 : Int32) (M : Mem) : Prop := (∀ x3 : Int32, x3 = (s0 ||| s1) → (∀ x4 : Int32, x4 = (v4 + 1) → (k5 v1 v2 x3 x4 M)))
set_option maxRecDepth 100000 in
set_option maxHeartbeats 4000000 in
theorem k_X11_packed_37 {p : Program} {l : Launch} {e : Env} {s : State} {m : MethodId} {args : Array Value} {below : List Frame} {meth : Method} {c : Code} {g : Geo} (C : CX g p s m args meth c cX11_packed 5 (some .int) RX11) {Q : Int32 → Mem → Prop} {k5 : Int32 → Int32 → Int32 → Int32 → Mem → Prop} (hk5 : ∀ (v1 : Int32) (v2 : Int32) (v3 : Int32) (v4 : Int32) (M : Mem), k5 v1 v2 v3 v4 M → ∀ (H : Heap) (locs : List Loc) (ls : Array Slot), lv_has ls 5 [(0, .ref (g.2.1 (138 + 0))), (1, .int v1), (2, .int v2), (3, .int v3), (4, .int v4)] → va_P g.1 clz (yw g M) H → va_S (Af 1 g) s.heap H locs → W p l e ({ frames := 0, cells := 0, slots := 0, locals := 0 } : Room) s m args below meth c H locs 0 0 (MQ below (va_Qi Q (PB g (yw g)) (Af 1 g)) args s 0 0 (Af 1 g)) (F0 m 5 ls [])) (v1 : Int32) (v2 : Int32) (v4 : Int32) (s0 : Int32) (s1 : Int32) (M : Mem) (hw : b_X11_packed_37 Q k5 v1 v2 v4 s0 s1 M) {H : Heap} {locs : List Loc} {ls : Array Slot} (hl : lv_has ls 5 [(0, .ref (g.2.1 (138 + 0))), (1, .int v1), (2, .int v2), (4, .int v4)]) (hP : va_P g.1 clz (yw g M) H) (hS : va_S (Af 1 g) s.heap H locs) : W p l e ({ frames := 0, cells := 0, slots := 0, locals := 0 } : Room) s m args below meth c H locs 0 0 (MQ below (va_Qi Q (PB g (yw g)) (Af 1 g)) args s 0 0 (Af 1 g)) (F0 m 37 ls [.int s1, .int s0]) := by
  unfold b_X11_packed_37 at hw
  refine lv_ior C.1 C.2.1 dX11_packed_37 ?_
  refine lv_topi (fun x3 e3 => ?_)
  have hw := hw x3 e3
  refine lv_istore_n (lv' := [(3, .int x3), (0, .ref (g.2.1 (138 + 0))), (1, .int v1), (2, .int v2), (4, .int v4)]) C.1 C.2.1 dX11_packed_38 rfl hl (by decide) rfl (fun ls hl => ?_)
  obtain ⟨x4, e4⟩ : ∃ y : Int32, y = (v4 + 1) := ⟨_, rfl⟩
  have hw := hw x4 e4
  refine lv_iinc (v := x4) (lv' := [(4, .int x4), (3, .int x3), (0, .ref (g.2.1 (138 + 0))), (1, .int v1), (2, .int v2)]) C.1 C.2.1 dX11_packed_39 hl (k := 4) rfl (by rw [e4]; rfl) (by decide) rfl (fun ls hl => ?_)
  refine lv_goto (tgt := 5) C.1 C.2.1 dX11_packed_42 (by decide) ?_
  exact hk5 v1 v2 x3 x4  _ hw _ _ _ (lv_sub hl [2, 3, 4, 1, 0] rfl) hP hS
def b_X11_packed_5 (Q : Int32 → Mem → Prop) : Nat → Int32 → Int32 → Int32 → Int32 → Mem → Prop
  | 0, _, _, _, _, _ => False
  | n + 1, v1, v2, v3, v4, M => (((v1 + 6) ≤ v4 → (Q v3 M)) ∧ (¬ (v1 + 6) ≤ v4 → ((v2 ≤ v4 → (b_X11_packed_37 Q (fun v1 v2 v3 v4 M => b_X11_packed_5 Q n v1 v2 v3 v4 M) v1 v2 v4 ((v3 <<< (5 &&& 31))) 0 M)) ∧ (¬ v2 ≤ v4 → (vp_in v4 700 ∧ (b_X11_packed_37 Q (fun v1 v2 v3 v4 M => b_X11_packed_5 Q n v1 v2 v3 v4 M) v1 v2 v4 ((v3 <<< (5 &&& 31))) (((M.1 41 0 (v4 : Int32).toNatClampNeg) - 96)) M))))))
set_option maxRecDepth 100000 in
set_option maxHeartbeats 4000000 in
theorem k_X11_packed_5 {p : Program} {l : Launch} {e : Env} {s : State} {m : MethodId} {args : Array Value} {below : List Frame} {meth : Method} {c : Code} {g : Geo} (C : CX g p s m args meth c cX11_packed 5 (some .int) RX11) {Q : Int32 → Mem → Prop} : ∀ (n : Nat) (v1 : Int32) (v2 : Int32) (v3 : Int32) (v4 : Int32) (M : Mem) (hw : b_X11_packed_5 Q n v1 v2 v3 v4 M) {H : Heap} {locs : List Loc} {ls : Array Slot} (hl : lv_has ls 5 [(0, .ref (g.2.1 (138 + 0))), (1, .int v1), (2, .int v2), (3, .int v3), (4, .int v4)]) (hP : va_P g.1 clz (yw g M) H) (hS : va_S (Af 1 g) s.heap H locs), W p l e ({ frames := 0, cells := 0, slots := 0, locals := 0 } : Room) s m args below meth c H locs 0 0 (MQ below (va_Qi Q (PB g (yw g)) (Af 1 g)) args s 0 0 (Af 1 g)) (F0 m 5 ls []) := by
  intro n
  induction n with
  | zero => intro v1 v2 v3 v4 M hw H locs ls hl hP hS; exact absurd hw (by rw [b_X11_packed_5]; exact fun h => h)
  | succ n ih =>
    intro v1 v2 v3 v4 M hw H locs ls hl hP hS
    rw [b_X11_packed_5] at hw
    refine lv_iload C.1 C.2.1 dX11_packed_5 (lv_at hl 4 rfl) ?_
    refine lv_iload_n C.1 C.2.1 dX11_packed_7 rfl (lv_at hl 1 rfl) ?_
    refine lv_bipush (v := 6) C.1 C.2.1 dX11_packed_8 (by decide) ?_
    refine lv_iadd C.1 C.2.1 dX11_packed_10 ?_
    refine lv_icmp_ge (tgt := 45) C.1 C.2.1 dX11_packed_11 (by decide) (fun h1 => ?_) (fun h1 => ?_)
    · have hw := hw.1 h1
      refine lv_iload_n C.1 C.2.1 dX11_packed_45 rfl (lv_at hl 3 rfl) ?_
      exact retI (wf := (yw g)) C hP hS hw dX11_packed_46
    · have hw := hw.2 h1
      refine lv_iload_n C.1 C.2.1 dX11_packed_14 rfl (lv_at hl 3 rfl) ?_
      refine lv_iconst (v := 5) C.1 C.2.1 dX11_packed_15 (by decide) ?_
      refine lv_ishl C.1 C.2.1 dX11_packed_16 ?_
      refine lv_iload C.1 C.2.1 dX11_packed_17 (lv_at hl 4 rfl) ?_
      refine lv_iload_n C.1 C.2.1 dX11_packed_19 rfl (lv_at hl 2 rfl) ?_
      refine lv_icmp_ge (tgt := 36) C.1 C.2.1 dX11_packed_20 (by decide) (fun h2 => ?_) (fun h2 => ?_)
      · have hw := hw.1 h2
        refine lv_iconst (v := 0) C.1 C.2.1 dX11_packed_36 (by decide) ?_
        exact k_X11_packed_37 (Q := Q) C (fun v1 v2 v3 v4  M hw H locs ls hl hP hS => ih v1 v2 v3 v4  M hw hl hP hS) v1 v2 v4 ((v3 <<< (5 &&& 31))) 0  _ hw (lv_sub hl [0, 1, 2, 4] rfl) hP hS
      · have hw := hw.2 h2
        refine lv_aload_n C.1 C.2.1 dX11_packed_23 rfl (lv_at hl 0 rfl) ?_
        refine gX11_7 C hP Nat.zero_lt_one dX11_packed_24 ?_
        refine lv_iload C.1 C.2.1 dX11_packed_27 (lv_at hl 4 rfl) ?_
        obtain ⟨h5, hw⟩ := hw
        refine al_41 C hP Nat.zero_lt_one h5 dX11_packed_29 ?_
        refine lv_bipush (v := 96) C.1 C.2.1 dX11_packed_30 (by decide) ?_
        refine lv_isub C.1 C.2.1 dX11_packed_32 ?_
        refine lv_goto (tgt := 37) C.1 C.2.1 dX11_packed_33 (by decide) ?_
        exact k_X11_packed_37 (Q := Q) C (fun v1 v2 v3 v4  M hw H locs ls hl hP hS => ih v1 v2 v3 v4  M hw hl hP hS) v1 v2 v4 ((v3 <<< (5 &&& 31))) (((M.1 41 0 (v4 : Int32).toNatClampNeg) - 96))  _ hw (lv_sub hl [0, 1, 2, 4] rfl) hP hS
def p_X11_packed (a1 : Int32) (a2 : Int32) (M : Mem) (Q : Int32 → Mem → Prop) : Prop := (∃ n5 : Nat, b_X11_packed_5 Q n5 a1 a2 0 a1 M)
set_option maxRecDepth 100000 in
set_option maxHeartbeats 4000000 in
theorem c_X11_packed (l : Launch) (g : Geo) (gi : GI g) (a1 : Int32) (a2 : Int32) (M : Mem) (Q : Int32 → Mem → Prop) (hw : p_X11_packed a1 a2 M Q) : Met l yX11_packed (Cond.code yX11_packed cX11_packed 5 (some .int) :: bg) ({ frames := 0, cells := 0, slots := 0, locals := 0 } : Room) (va_Pc [.ref (g.2.1 (138 + 0)), .int a1, .int a2] (PW g (yw g M))) (va_Qi Q (PB g (yw g)) (Af 1 g)) 0 0 (Af 1 g) := by
  refine Met.ofW (cc := cX11_packed) (maxL := 5) (ret := (some .int)) (by decide +kernel) rfl ?_
  intro p e s m args below meth c s₁ B hml hv
  obtain ⟨rfl, hv⟩ := hv
  have C := CX.start (own := RX11) B hml rfl gi hv
  have hP := hv.1
  have hS : va_S (Af 1 g) s.heap s.heap [] := va_S.rf
  have hl := lv_entry ([.ref (g.2.1 (138 + 0)), .int a1, .int a2]) (n := 5) (Nat.le_of_ble_eq_true rfl)
  rw [lg_entry_eq]
  generalize (lg_sl ([.ref (g.2.1 (138 + 0)), .int a1, .int a2]) ++ List.replicate (5 - (lg_sl ([.ref (g.2.1 (138 + 0)), .int a1, .int a2])).length) Slot.unset).toArray = ls at hl ⊢
  have hl : lv_has ls 5 [(0, .ref (g.2.1 (138 + 0))), (1, .int a1), (2, .int a2)] := hl
  unfold p_X11_packed at hw
  refine lv_iconst (v := 0) C.1 C.2.1 dX11_packed_0 (by decide) ?_
  refine lv_istore_n (lv' := [(3, .int 0), (0, .ref (g.2.1 (138 + 0))), (1, .int a1), (2, .int a2)]) C.1 C.2.1 dX11_packed_1 rfl hl (by decide) rfl (fun ls hl => ?_)
  refine lv_iload_n C.1 C.2.1 dX11_packed_2 rfl (lv_at hl 2 rfl) ?_
  refine lv_istore (lv' := [(4, .int a1), (3, .int 0), (0, .ref (g.2.1 (138 + 0))), (1, .int a1), (2, .int a2)]) C.1 C.2.1 dX11_packed_3 hl (by decide) rfl (fun ls hl => ?_)
  obtain ⟨n9, hw⟩ := hw
  exact k_X11_packed_5 (Q := Q) C n9 a1 a2 0 a1  _ hw (lv_sub hl [2, 3, 4, 1, 0] rfl) hP hS
def b_X11_token_296 (Q : Mem → Prop) (s1 : Int32) (M : Mem) : Prop := (∀ M10 : Mem, M10 = sI M 40 0 8 s1 → (∀ M11 : Mem, M11 = sI M10 40 0 7 ((M10.1 40 0 7) + 1) → (Q M11)))
set_option maxRecDepth 100000 in
set_option maxHeartbeats 4000000 in
theorem k_X11_token_296 {p : Program} {l : Launch} {e : Env} {s : State} {m : MethodId} {args : Array Value} {below : List Frame} {meth : Method} {c : Code} {g : Geo} (C : CX g p s m args meth c cX11_token 1 none RX11) {Q : Mem → Prop} (s1 : Int32) (M : Mem) (hw : b_X11_token_296 Q s1 M) {H : Heap} {locs : List Loc} {ls : Array Slot} (hl : lv_has ls 1 [(0, .ref (g.2.1 (138 + 0)))]) (hP : va_P g.1 clz (yw g M) H) (hS : va_S (Af 1 g) s.heap H locs) : W p l e ({ frames := 1, cells := 0, slots := 0, locals := 27 } : Room) s m args below meth c H locs 0 0 (MQ below (va_Qv Q (PB g (yw g)) (Af 1 g)) args s 0 0 (Af 1 g)) (F0 m 296 ls [.int s1, .ref (g.2.1 (138 + 0))]) := by
  unfold b_X11_token_296 at hw
  refine pX11_94 C hP hS Nat.zero_lt_one dX11_token_296 (fun M10 e10 H locs hP hS => ?_)
  have hw := hw M10 e10
  refine lv_aload_n C.1 C.2.1 dX11_token_299 rfl (lv_at hl 0 rfl) ?_
  refine lv_dup C.1 C.2.1 dX11_token_300 rfl ?_
  refine gX11_91 C hP Nat.zero_lt_one dX11_token_301 ?_
  refine lv_iconst (v := 1) C.1 C.2.1 dX11_token_304 (by decide) ?_
  refine lv_iadd C.1 C.2.1 dX11_token_305 ?_
  refine pX11_91 C hP hS Nat.zero_lt_one dX11_token_306 (fun M11 e11 H locs hP hS => ?_)
  have hw := hw M11 e11
  exact retV (wf := (yw g)) C hP hS hw dX11_token_309
def b_X11_token_260 (Q : Mem → Prop) (k212 : Mem → Prop) (s1 : Int32) (M : Mem) : Prop := (∀ M18 : Mem, M18 = sI M 40 0 9 s1 → (∀ M19 : Mem, M19 = sI M18 40 0 7 ((M18.1 40 0 7) + 1) → (k212  M19)))
set_option maxRecDepth 100000 in
set_option maxHeartbeats 4000000 in
theorem k_X11_token_260 {p : Program} {l : Launch} {e : Env} {s : State} {m : MethodId} {args : Array Value} {below : List Frame} {meth : Method} {c : Code} {g : Geo} (C : CX g p s m args meth c cX11_token 1 none RX11) {Q : Mem → Prop} {k212 : Mem → Prop} (hk212 : ∀ (M : Mem), k212 M → ∀ (H : Heap) (locs : List Loc) (ls : Array Slot), lv_has ls 1 [(0, .ref (g.2.1 (138 + 0)))] → va_P g.1 clz (yw g M) H → va_S (Af 1 g) s.heap H locs → W p l e ({ frames := 1, cells := 0, slots := 0, locals := 27 } : Room) s m args below meth c H locs 0 0 (MQ below (va_Qv Q (PB g (yw g)) (Af 1 g)) args s 0 0 (Af 1 g)) (F0 m 212 ls [])) (s1 : Int32) (M : Mem) (hw : b_X11_token_260 Q k212 s1 M) {H : Heap} {locs : List Loc} {ls : Array Slot} (hl : lv_has ls 1 [(0, .ref (g.2.1 (138 + 0)))]) (hP : va_P g.1 clz (yw g M) H) (hS : va_S (Af 1 g) s.heap H locs) : W p l e ({ frames := 1, cells := 0, slots := 0, locals := 27 } : Room) s m args below meth c H locs 0 0 (MQ below (va_Qv Q (PB g (yw g)) (Af 1 g)) args s 0 0 (Af 1 g)) (F0 m 260 ls [.int s1, .ref (g.2.1 (138 + 0))]) := by
  unfold b_X11_token_260 at hw
  refine pX11_105 C hP hS Nat.zero_lt_one dX11_token_260 (fun M18 e18 H locs hP hS => ?_)
  have hw := hw M18 e18
  refine lv_aload_n C.1 C.2.1 dX11_token_263 rfl (lv_at hl 0 rfl) ?_
  refine lv_dup C.1 C.2.1 dX11_token_264 rfl ?_
  refine gX11_91 C hP Nat.zero_lt_one dX11_token_265 ?_
  refine lv_iconst (v := 1) C.1 C.2.1 dX11_token_268 (by decide) ?_
  refine lv_iadd C.1 C.2.1 dX11_token_269 ?_
  refine pX11_91 C hP hS Nat.zero_lt_one dX11_token_270 (fun M19 e19 H locs hP hS => ?_)
  have hw := hw M19 e19
  refine lv_goto (tgt := 212) C.1 C.2.1 dX11_token_273 (by decide) ?_
  exact hk212   _ hw _ _ _ (lv_sub hl [0] rfl) hP hS
def b_X11_token_212 (Q : Mem → Prop) : Nat → Mem → Prop
  | 0, _ => False
  | n + 1, M => (p_X11_isDigit ((M.1 40 0 7)) M (fun r14 M14 => ((r14 = 0 → (Q M14)) ∧ (¬ r14 = 0 → (((M14.1 40 0 9) ≤ 99999 → (vp_in (M14.1 40 0 7) 700 ∧ (b_X11_token_260 Q (fun M => b_X11_token_212 Q n M) (((((10 : Int32) * (M14.1 40 0 9)) + (M14.1 41 0 ((M14.1 40 0 7) : Int32).toNatClampNeg)) - 48)) M14))) ∧ (¬ (M14.1 40 0 9) ≤ 99999 → (b_X11_token_260 Q (fun M => b_X11_token_212 Q n M) ((M14.1 40 0 9)) M14)))))))
set_option maxRecDepth 100000 in
set_option maxHeartbeats 4000000 in
theorem k_X11_token_212 {p : Program} {l : Launch} {e : Env} {s : State} {m : MethodId} {args : Array Value} {below : List Frame} {meth : Method} {c : Code} {g : Geo} (C : CX g p s m args meth c cX11_token 1 none RX11) {Q : Mem → Prop} : ∀ (n : Nat) (M : Mem) (hw : b_X11_token_212 Q n M) {H : Heap} {locs : List Loc} {ls : Array Slot} (hl : lv_has ls 1 [(0, .ref (g.2.1 (138 + 0)))]) (hP : va_P g.1 clz (yw g M) H) (hS : va_S (Af 1 g) s.heap H locs), W p l e ({ frames := 1, cells := 0, slots := 0, locals := 27 } : Room) s m args below meth c H locs 0 0 (MQ below (va_Qv Q (PB g (yw g)) (Af 1 g)) args s 0 0 (Af 1 g)) (F0 m 212 ls []) := by
  intro n
  induction n with
  | zero => intro M hw H locs ls hl hP hS; exact absurd hw (by rw [b_X11_token_212]; exact fun h => h)
  | succ n ih =>
    intro M hw H locs ls hl hP hS
    rw [b_X11_token_212] at hw
    refine lv_aload_n C.1 C.2.1 dX11_token_212 rfl (lv_at hl 0 rfl) ?_
    refine lv_aload_n C.1 C.2.1 dX11_token_213 rfl (lv_at hl 0 rfl) ?_
    refine gX11_91 C hP Nat.zero_lt_one dX11_token_214 ?_
    refine goI (wf := (yw g)) (runV (w := yw g M) (As := [.int (M.1 40 0 7)]) (rest := []) C lkX11_111 (c_X11_isDigit l g C.2.2.2.2.2.2.2.2.2.2 ((M.1 40 0 7))  M _ hw) hP hS rfl rfl ⟨Nat.le_of_ble_eq_true rfl, Nat.le_of_ble_eq_true rfl⟩ (xx_40 Nat.zero_lt_one) rfl rfl hl.1 rfl (Nat.le_of_ble_eq_true rfl) dX11_token_217) hS (fun r14 M14 hw H locs hP hS => ?_)
    obtain ⟨hw, hz14⟩ := hw
    refine lv_if_eq (tgt := 309) C.1 C.2.1 dX11_token_220 (by decide) (fun h15 => ?_) (fun h15 => ?_)
    · have hw := hw.1 h15
      exact retV (wf := (yw g)) C hP hS hw dX11_token_309
    · have hw := hw.2 h15
      refine lv_aload_n C.1 C.2.1 dX11_token_223 rfl (lv_at hl 0 rfl) ?_
      refine lv_aload_n C.1 C.2.1 dX11_token_224 rfl (lv_at hl 0 rfl) ?_
      refine gX11_105 C hP Nat.zero_lt_one dX11_token_225 ?_
      refine lv_ldc (v := 99999) C.1 C.2.1 C.2.2.2.2.1 (C.2.2.2.2.2.1 _ (bg_of 1490 (by decide +kernel) rfl)) dX11_token_228 ?_
      refine lv_icmp_le (tgt := 240) C.1 C.2.1 dX11_token_230 (by decide) (fun h16 => ?_) (fun h16 => ?_)
      · have hw := hw.1 h16
        refine lv_bipush (v := 10) C.1 C.2.1 dX11_token_240 (by decide) ?_
        refine lv_aload_n C.1 C.2.1 dX11_token_242 rfl (lv_at hl 0 rfl) ?_
        refine gX11_105 C hP Nat.zero_lt_one dX11_token_243 ?_
        refine lv_imul C.1 C.2.1 dX11_token_246 ?_
        refine lv_aload_n C.1 C.2.1 dX11_token_247 rfl (lv_at hl 0 rfl) ?_
        refine gX11_7 C hP Nat.zero_lt_one dX11_token_248 ?_
        refine lv_aload_n C.1 C.2.1 dX11_token_251 rfl (lv_at hl 0 rfl) ?_
        refine gX11_91 C hP Nat.zero_lt_one dX11_token_252 ?_
        obtain ⟨h17, hw⟩ := hw
        refine al_41 C hP Nat.zero_lt_one h17 dX11_token_255 ?_
        refine lv_iadd C.1 C.2.1 dX11_token_256 ?_
        refine lv_bipush (v := 48) C.1 C.2.1 dX11_token_257 (by decide) ?_
        refine lv_isub C.1 C.2.1 dX11_token_259 ?_
        exact k_X11_token_260 (Q := Q) C (fun   M hw H locs ls hl hP hS => ih   M hw hl hP hS) (((((10 : Int32) * (M14.1 40 0 9)) + (M14.1 41 0 ((M14.1 40 0 7) : Int32).toNatClampNeg)) - 48))  _ hw (lv_sub hl [0] rfl) hP hS
      · have hw := hw.2 h16
        refine lv_aload_n C.1 C.2.1 dX11_token_233 rfl (lv_at hl 0 rfl) ?_
        refine gX11_105 C hP Nat.zero_lt_one dX11_token_234 ?_
        refine lv_goto (tgt := 260) C.1 C.2.1 dX11_token_237 (by decide) ?_
        exact k_X11_token_260 (Q := Q) C (fun   M hw H locs ls hl hP hS => ih   M hw hl hP hS) ((M14.1 40 0 9))  _ hw (lv_sub hl [0] rfl) hP hS
def b_X11_token_161 (Q : Mem → Prop) (s1 : Int32) (M : Mem) : Prop := (∀ M26 : Mem, M26 = sI M 40 0 8 s1 → ((¬ (M26.1 40 0 8) = 2 → (Q M26)) ∧ ((M26.1 40 0 8) = 2 → (p_X11_packed ((M26.1 40 0 10)) ((M26.1 40 0 7)) M26 (fun r28 M28 => (∀ M29 : Mem, M29 = sI M28 40 0 9 r28 → (Q M29)))))))
set_option maxRecDepth 100000 in
set_option maxHeartbeats 4000000 in
theorem k_X11_token_161 {p : Program} {l : Launch} {e : Env} {s : State} {m : MethodId} {args : Array Value} {below : List Frame} {meth : Method} {c : Code} {g : Geo} (C : CX g p s m args meth c cX11_token 1 none RX11) {Q : Mem → Prop} (s1 : Int32) (M : Mem) (hw : b_X11_token_161 Q s1 M) {H : Heap} {locs : List Loc} {ls : Array Slot} (hl : lv_has ls 1 [(0, .ref (g.2.1 (138 + 0)))]) (hP : va_P g.1 clz (yw g M) H) (hS : va_S (Af 1 g) s.heap H locs) : W p l e ({ frames := 1, cells := 0, slots := 0, locals := 27 } : Room) s m args below meth c H locs 0 0 (MQ below (va_Qv Q (PB g (yw g)) (Af 1 g)) args s 0 0 (Af 1 g)) (F0 m 161 ls [.int s1, .ref (g.2.1 (138 + 0))]) := by
  unfold b_X11_token_161 at hw
  refine pX11_94 C hP hS Nat.zero_lt_one dX11_token_161 (fun M26 e26 H locs hP hS => ?_)
  have hw := hw M26 e26
  refine lv_aload_n C.1 C.2.1 dX11_token_164 rfl (lv_at hl 0 rfl) ?_
  refine gX11_94 C hP Nat.zero_lt_one dX11_token_165 ?_
  refine lv_iconst (v := 2) C.1 C.2.1 dX11_token_168 (by decide) ?_
  refine lv_icmp_ne (tgt := 309) C.1 C.2.1 dX11_token_169 (by decide) (fun h27 => ?_) (fun h27 => ?_)
  · have hw := hw.1 h27
    exact retV (wf := (yw g)) C hP hS hw dX11_token_309
  · have hw := hw.2 h27
    refine lv_aload_n C.1 C.2.1 dX11_token_172 rfl (lv_at hl 0 rfl) ?_
    refine lv_aload_n C.1 C.2.1 dX11_token_173 rfl (lv_at hl 0 rfl) ?_
    refine lv_aload_n C.1 C.2.1 dX11_token_174 rfl (lv_at hl 0 rfl) ?_
    refine gX11_85 C hP Nat.zero_lt_one dX11_token_175 ?_
    refine lv_aload_n C.1 C.2.1 dX11_token_178 rfl (lv_at hl 0 rfl) ?_
    refine gX11_91 C hP Nat.zero_lt_one dX11_token_179 ?_
    refine goI (wf := (yw g)) (runV (w := yw g M26) (As := [.int (M26.1 40 0 10), .int (M26.1 40 0 7)]) (rest := [.ref (g.2.1 (138 + 0))]) C lkX11_108 (c_X11_packed l g C.2.2.2.2.2.2.2.2.2.2 ((M26.1 40 0 10)) ((M26.1 40 0 7))  M26 _ hw) hP hS rfl rfl ⟨Nat.le_of_ble_eq_true rfl, Nat.le_of_ble_eq_true rfl⟩ (xx_40 Nat.zero_lt_one) rfl rfl hl.1 rfl (Nat.le_of_ble_eq_true rfl) dX11_token_182) hS (fun r28 M28 hw H locs hP hS => ?_)
    refine pX11_105 C hP hS Nat.zero_lt_one dX11_token_185 (fun M29 e29 H locs hP hS => ?_)
    have hw := hw M29 e29
    refine lv_goto (tgt := 309) C.1 C.2.1 dX11_token_188 (by decide) ?_
    exact retV (wf := (yw g)) C hP hS hw dX11_token_309
def b_X11_token_114 (Q : Mem → Prop) (M : Mem) : Prop := (p_X11_wordAt ((M.1 40 0 10)) ((M.1 40 0 7)) M (fun r22 M22 => (∀ M23 : Mem, M23 = sI M22 40 0 9 r22 → (((M23.1 40 0 9) < 0 → ((((M23.1 40 0 7) - (M23.1 40 0 10)) ≤ 6 → (b_X11_token_161 Q 2 M23)) ∧ (¬ ((M23.1 40 0 7) - (M23.1 40 0 10)) ≤ 6 → (b_X11_token_161 Q 5 M23)))) ∧ (¬ (M23.1 40 0 9) < 0 → (b_X11_token_161 Q 1 M23))))))
set_option maxRecDepth 100000 in
set_option maxHeartbeats 4000000 in
theorem k_X11_token_114 {p : Program} {l : Launch} {e : Env} {s : State} {m : MethodId} {args : Array Value} {below : List Frame} {meth : Method} {c : Code} {g : Geo} (C : CX g p s m args meth c cX11_token 1 none RX11) {Q : Mem → Prop} (M : Mem) (hw : b_X11_token_114 Q M) {H : Heap} {locs : List Loc} {ls : Array Slot} (hl : lv_has ls 1 [(0, .ref (g.2.1 (138 + 0)))]) (hP : va_P g.1 clz (yw g M) H) (hS : va_S (Af 1 g) s.heap H locs) : W p l e ({ frames := 1, cells := 0, slots := 0, locals := 27 } : Room) s m args below meth c H locs 0 0 (MQ below (va_Qv Q (PB g (yw g)) (Af 1 g)) args s 0 0 (Af 1 g)) (F0 m 114 ls []) := by
  unfold b_X11_token_114 at hw
  refine lv_aload_n C.1 C.2.1 dX11_token_114 rfl (lv_at hl 0 rfl) ?_
  refine lv_aload_n C.1 C.2.1 dX11_token_115 rfl (lv_at hl 0 rfl) ?_
  refine lv_aload_n C.1 C.2.1 dX11_token_116 rfl (lv_at hl 0 rfl) ?_
  refine gX11_85 C hP Nat.zero_lt_one dX11_token_117 ?_
  refine lv_aload_n C.1 C.2.1 dX11_token_120 rfl (lv_at hl 0 rfl) ?_
  refine gX11_91 C hP Nat.zero_lt_one dX11_token_121 ?_
  refine goI (wf := (yw g)) (runV (w := yw g M) (As := [.int (M.1 40 0 10), .int (M.1 40 0 7)]) (rest := [.ref (g.2.1 (138 + 0))]) C lkX11_101 (c_X11_wordAt l g C.2.2.2.2.2.2.2.2.2.2 ((M.1 40 0 10)) ((M.1 40 0 7))  M _ hw) hP hS rfl rfl ⟨Nat.le_of_ble_eq_true rfl, Nat.le_of_ble_eq_true rfl⟩ (xx_40 Nat.zero_lt_one) rfl rfl hl.1 rfl (Nat.le_of_ble_eq_true rfl) dX11_token_124) hS (fun r22 M22 hw H locs hP hS => ?_)
  refine pX11_105 C hP hS Nat.zero_lt_one dX11_token_127 (fun M23 e23 H locs hP hS => ?_)
  have hw := hw M23 e23
  refine lv_aload_n C.1 C.2.1 dX11_token_130 rfl (lv_at hl 0 rfl) ?_
  refine lv_aload_n C.1 C.2.1 dX11_token_131 rfl (lv_at hl 0 rfl) ?_
  refine gX11_105 C hP Nat.zero_lt_one dX11_token_132 ?_
  refine lv_if_lt (tgt := 142) C.1 C.2.1 dX11_token_135 (by decide) (fun h24 => ?_) (fun h24 => ?_)
  · have hw := hw.1 h24
    refine lv_aload_n C.1 C.2.1 dX11_token_142 rfl (lv_at hl 0 rfl) ?_
    refine gX11_91 C hP Nat.zero_lt_one dX11_token_143 ?_
    refine lv_aload_n C.1 C.2.1 dX11_token_146 rfl (lv_at hl 0 rfl) ?_
    refine gX11_85 C hP Nat.zero_lt_one dX11_token_147 ?_
    refine lv_isub C.1 C.2.1 dX11_token_150 ?_
    refine lv_bipush (v := 6) C.1 C.2.1 dX11_token_151 (by decide) ?_
    refine lv_icmp_le (tgt := 160) C.1 C.2.1 dX11_token_153 (by decide) (fun h25 => ?_) (fun h25 => ?_)
    · have hw := hw.1 h25
      refine lv_iconst (v := 2) C.1 C.2.1 dX11_token_160 (by decide) ?_
      exact k_X11_token_161 (Q := Q) C 2  _ hw (lv_sub hl [0] rfl) hP hS
    · have hw := hw.2 h25
      refine lv_iconst (v := 5) C.1 C.2.1 dX11_token_156 (by decide) ?_
      refine lv_goto (tgt := 161) C.1 C.2.1 dX11_token_157 (by decide) ?_
      exact k_X11_token_161 (Q := Q) C 5  _ hw (lv_sub hl [0] rfl) hP hS
  · have hw := hw.2 h24
    refine lv_iconst (v := 1) C.1 C.2.1 dX11_token_138 (by decide) ?_
    refine lv_goto (tgt := 161) C.1 C.2.1 dX11_token_139 (by decide) ?_
    exact k_X11_token_161 (Q := Q) C 1  _ hw (lv_sub hl [0] rfl) hP hS
def b_X11_token_90 (Q : Mem → Prop) : Nat → Mem → Prop
  | 0, _ => False
  | n + 1, M => (p_X11_isSmall ((M.1 40 0 7)) M (fun r20 M20 => ((r20 = 0 → (b_X11_token_114 Q  M20)) ∧ (¬ r20 = 0 → (∀ M30 : Mem, M30 = sI M20 40 0 7 ((M20.1 40 0 7) + 1) → (b_X11_token_90 Q n  M30))))))
set_option maxRecDepth 100000 in
set_option maxHeartbeats 4000000 in
theorem k_X11_token_90 {p : Program} {l : Launch} {e : Env} {s : State} {m : MethodId} {args : Array Value} {below : List Frame} {meth : Method} {c : Code} {g : Geo} (C : CX g p s m args meth c cX11_token 1 none RX11) {Q : Mem → Prop} : ∀ (n : Nat) (M : Mem) (hw : b_X11_token_90 Q n M) {H : Heap} {locs : List Loc} {ls : Array Slot} (hl : lv_has ls 1 [(0, .ref (g.2.1 (138 + 0)))]) (hP : va_P g.1 clz (yw g M) H) (hS : va_S (Af 1 g) s.heap H locs), W p l e ({ frames := 1, cells := 0, slots := 0, locals := 27 } : Room) s m args below meth c H locs 0 0 (MQ below (va_Qv Q (PB g (yw g)) (Af 1 g)) args s 0 0 (Af 1 g)) (F0 m 90 ls []) := by
  intro n
  induction n with
  | zero => intro M hw H locs ls hl hP hS; exact absurd hw (by rw [b_X11_token_90]; exact fun h => h)
  | succ n ih =>
    intro M hw H locs ls hl hP hS
    rw [b_X11_token_90] at hw
    refine lv_aload_n C.1 C.2.1 dX11_token_90 rfl (lv_at hl 0 rfl) ?_
    refine lv_aload_n C.1 C.2.1 dX11_token_91 rfl (lv_at hl 0 rfl) ?_
    refine gX11_91 C hP Nat.zero_lt_one dX11_token_92 ?_
    refine goI (wf := (yw g)) (runV (w := yw g M) (As := [.int (M.1 40 0 7)]) (rest := []) C lkX11_97 (c_X11_isSmall l g C.2.2.2.2.2.2.2.2.2.2 ((M.1 40 0 7))  M _ hw) hP hS rfl rfl ⟨Nat.le_of_ble_eq_true rfl, Nat.le_of_ble_eq_true rfl⟩ (xx_40 Nat.zero_lt_one) rfl rfl hl.1 rfl (Nat.le_of_ble_eq_true rfl) dX11_token_95) hS (fun r20 M20 hw H locs hP hS => ?_)
    obtain ⟨hw, hz20⟩ := hw
    refine lv_if_eq (tgt := 114) C.1 C.2.1 dX11_token_98 (by decide) (fun h21 => ?_) (fun h21 => ?_)
    · have hw := hw.1 h21
      exact k_X11_token_114 (Q := Q) C   _ hw (lv_sub hl [0] rfl) hP hS
    · have hw := hw.2 h21
      refine lv_aload_n C.1 C.2.1 dX11_token_101 rfl (lv_at hl 0 rfl) ?_
      refine lv_dup C.1 C.2.1 dX11_token_102 rfl ?_
      refine gX11_91 C hP Nat.zero_lt_one dX11_token_103 ?_
      refine lv_iconst (v := 1) C.1 C.2.1 dX11_token_106 (by decide) ?_
      refine lv_iadd C.1 C.2.1 dX11_token_107 ?_
      refine pX11_91 C hP hS Nat.zero_lt_one dX11_token_108 (fun M30 e30 H locs hP hS => ?_)
      have hw := hw M30 e30
      refine lv_goto (tgt := 90) C.1 C.2.1 dX11_token_111 (by decide) ?_
      exact ih   _ hw (lv_sub hl [0] rfl) hP hS
def b_X11_token_52 (Q : Mem → Prop) (M : Mem) : Prop := (∀ M2 : Mem, M2 = sI M 40 0 10 (M.1 40 0 7) → ((¬ (M2.1 40 0 7) = (M2.1 40 0 6) → (p_X11_isSmall ((M2.1 40 0 7)) M2 (fun r4 M4 => ((r4 = 0 → (p_X11_isDigit ((M4.1 40 0 7)) M4 (fun r6 M6 => ((r6 = 0 → (vp_in (M6.1 40 0 7) 700 ∧ ((¬ (M6.1 41 0 ((M6.1 40 0 7) : Int32).toNatClampNeg) = 59 → (b_X11_token_296 Q 5 M6)) ∧ ((M6.1 41 0 ((M6.1 40 0 7) : Int32).toNatClampNeg) = 59 → (b_X11_token_296 Q 4 M6))))) ∧ (¬ r6 = 0 → (∀ M12 : Mem, M12 = sI M6 40 0 8 3 → (∀ M13 : Mem, M13 = sI M12 40 0 9 0 → (∃ n212 : Nat, b_X11_token_212 Q n212  M13)))))))) ∧ (¬ r4 = 0 → (∃ n90 : Nat, b_X11_token_90 Q n90  M4)))))) ∧ ((M2.1 40 0 7) = (M2.1 40 0 6) → (∀ M31 : Mem, M31 = sI M2 40 0 8 0 → (Q M31)))))
set_option maxRecDepth 100000 in
set_option maxHeartbeats 4000000 in
theorem k_X11_token_52 {p : Program} {l : Launch} {e : Env} {s : State} {m : MethodId} {args : Array Value} {below : List Frame} {meth : Method} {c : Code} {g : Geo} (C : CX g p s m args meth c cX11_token 1 none RX11) {Q : Mem → Prop} (M : Mem) (hw : b_X11_token_52 Q M) {H : Heap} {locs : List Loc} {ls : Array Slot} (hl : lv_has ls 1 [(0, .ref (g.2.1 (138 + 0)))]) (hP : va_P g.1 clz (yw g M) H) (hS : va_S (Af 1 g) s.heap H locs) : W p l e ({ frames := 1, cells := 0, slots := 0, locals := 27 } : Room) s m args below meth c H locs 0 0 (MQ below (va_Qv Q (PB g (yw g)) (Af 1 g)) args s 0 0 (Af 1 g)) (F0 m 52 ls []) := by
  unfold b_X11_token_52 at hw
  refine lv_aload_n C.1 C.2.1 dX11_token_52 rfl (lv_at hl 0 rfl) ?_
  refine lv_aload_n C.1 C.2.1 dX11_token_53 rfl (lv_at hl 0 rfl) ?_
  refine gX11_91 C hP Nat.zero_lt_one dX11_token_54 ?_
  refine pX11_85 C hP hS Nat.zero_lt_one dX11_token_57 (fun M2 e2 H locs hP hS => ?_)
  have hw := hw M2 e2
  refine lv_aload_n C.1 C.2.1 dX11_token_60 rfl (lv_at hl 0 rfl) ?_
  refine gX11_91 C hP Nat.zero_lt_one dX11_token_61 ?_
  refine lv_aload_n C.1 C.2.1 dX11_token_64 rfl (lv_at hl 0 rfl) ?_
  refine gX11_88 C hP Nat.zero_lt_one dX11_token_65 ?_
  refine lv_icmp_ne (tgt := 79) C.1 C.2.1 dX11_token_68 (by decide) (fun h3 => ?_) (fun h3 => ?_)
  · have hw := hw.1 h3
    refine lv_aload_n C.1 C.2.1 dX11_token_79 rfl (lv_at hl 0 rfl) ?_
    refine lv_aload_n C.1 C.2.1 dX11_token_80 rfl (lv_at hl 0 rfl) ?_
    refine gX11_91 C hP Nat.zero_lt_one dX11_token_81 ?_
    refine goI (wf := (yw g)) (runV (w := yw g M2) (As := [.int (M2.1 40 0 7)]) (rest := []) C lkX11_97 (c_X11_isSmall l g C.2.2.2.2.2.2.2.2.2.2 ((M2.1 40 0 7))  M2 _ hw) hP hS rfl rfl ⟨Nat.le_of_ble_eq_true rfl, Nat.le_of_ble_eq_true rfl⟩ (xx_40 Nat.zero_lt_one) rfl rfl hl.1 rfl (Nat.le_of_ble_eq_true rfl) dX11_token_84) hS (fun r4 M4 hw H locs hP hS => ?_)
    obtain ⟨hw, hz4⟩ := hw
    refine lv_if_eq (tgt := 191) C.1 C.2.1 dX11_token_87 (by decide) (fun h5 => ?_) (fun h5 => ?_)
    · have hw := hw.1 h5
      refine lv_aload_n C.1 C.2.1 dX11_token_191 rfl (lv_at hl 0 rfl) ?_
      refine lv_aload_n C.1 C.2.1 dX11_token_192 rfl (lv_at hl 0 rfl) ?_
      refine gX11_91 C hP Nat.zero_lt_one dX11_token_193 ?_
      refine goI (wf := (yw g)) (runV (w := yw g M4) (As := [.int (M4.1 40 0 7)]) (rest := []) C lkX11_111 (c_X11_isDigit l g C.2.2.2.2.2.2.2.2.2.2 ((M4.1 40 0 7))  M4 _ hw) hP hS rfl rfl ⟨Nat.le_of_ble_eq_true rfl, Nat.le_of_ble_eq_true rfl⟩ (xx_40 Nat.zero_lt_one) rfl rfl hl.1 rfl (Nat.le_of_ble_eq_true rfl) dX11_token_196) hS (fun r6 M6 hw H locs hP hS => ?_)
      obtain ⟨hw, hz6⟩ := hw
      refine lv_if_eq (tgt := 276) C.1 C.2.1 dX11_token_199 (by decide) (fun h7 => ?_) (fun h7 => ?_)
      · have hw := hw.1 h7
        refine lv_aload_n C.1 C.2.1 dX11_token_276 rfl (lv_at hl 0 rfl) ?_
        refine lv_aload_n C.1 C.2.1 dX11_token_277 rfl (lv_at hl 0 rfl) ?_
        refine gX11_7 C hP Nat.zero_lt_one dX11_token_278 ?_
        refine lv_aload_n C.1 C.2.1 dX11_token_281 rfl (lv_at hl 0 rfl) ?_
        refine gX11_91 C hP Nat.zero_lt_one dX11_token_282 ?_
        obtain ⟨h8, hw⟩ := hw
        refine al_41 C hP Nat.zero_lt_one h8 dX11_token_285 ?_
        refine lv_bipush (v := 59) C.1 C.2.1 dX11_token_286 (by decide) ?_
        refine lv_icmp_ne (tgt := 295) C.1 C.2.1 dX11_token_288 (by decide) (fun h9 => ?_) (fun h9 => ?_)
        · have hw := hw.1 h9
          refine lv_iconst (v := 5) C.1 C.2.1 dX11_token_295 (by decide) ?_
          exact k_X11_token_296 (Q := Q) C 5  _ hw (lv_sub hl [0] rfl) hP hS
        · have hw := hw.2 h9
          refine lv_iconst (v := 4) C.1 C.2.1 dX11_token_291 (by decide) ?_
          refine lv_goto (tgt := 296) C.1 C.2.1 dX11_token_292 (by decide) ?_
          exact k_X11_token_296 (Q := Q) C 4  _ hw (lv_sub hl [0] rfl) hP hS
      · have hw := hw.2 h7
        refine lv_aload_n C.1 C.2.1 dX11_token_202 rfl (lv_at hl 0 rfl) ?_
        refine lv_iconst (v := 3) C.1 C.2.1 dX11_token_203 (by decide) ?_
        refine pX11_94 C hP hS Nat.zero_lt_one dX11_token_204 (fun M12 e12 H locs hP hS => ?_)
        have hw := hw M12 e12
        refine lv_aload_n C.1 C.2.1 dX11_token_207 rfl (lv_at hl 0 rfl) ?_
        refine lv_iconst (v := 0) C.1 C.2.1 dX11_token_208 (by decide) ?_
        refine pX11_105 C hP hS Nat.zero_lt_one dX11_token_209 (fun M13 e13 H locs hP hS => ?_)
        have hw := hw M13 e13
        obtain ⟨n9, hw⟩ := hw
        exact k_X11_token_212 (Q := Q) C n9   _ hw (lv_sub hl [0] rfl) hP hS
    · have hw := hw.2 h5
      obtain ⟨n9, hw⟩ := hw
      exact k_X11_token_90 (Q := Q) C n9   _ hw (lv_sub hl [0] rfl) hP hS
  · have hw := hw.2 h3
    refine lv_aload_n C.1 C.2.1 dX11_token_71 rfl (lv_at hl 0 rfl) ?_
    refine lv_iconst (v := 0) C.1 C.2.1 dX11_token_72 (by decide) ?_
    refine pX11_94 C hP hS Nat.zero_lt_one dX11_token_73 (fun M31 e31 H locs hP hS => ?_)
    have hw := hw M31 e31
    refine lv_goto (tgt := 309) C.1 C.2.1 dX11_token_76 (by decide) ?_
    exact retV (wf := (yw g)) C hP hS hw dX11_token_309
def b_X11_token_39 (Q : Mem → Prop) (k0 : Mem → Prop) (M : Mem) : Prop := (∀ M34 : Mem, M34 = sI M 40 0 7 ((M.1 40 0 7) + 1) → (k0  M34))
set_option maxRecDepth 100000 in
set_option maxHeartbeats 4000000 in
theorem k_X11_token_39 {p : Program} {l : Launch} {e : Env} {s : State} {m : MethodId} {args : Array Value} {below : List Frame} {meth : Method} {c : Code} {g : Geo} (C : CX g p s m args meth c cX11_token 1 none RX11) {Q : Mem → Prop} {k0 : Mem → Prop} (hk0 : ∀ (M : Mem), k0 M → ∀ (H : Heap) (locs : List Loc) (ls : Array Slot), lv_has ls 1 [(0, .ref (g.2.1 (138 + 0)))] → va_P g.1 clz (yw g M) H → va_S (Af 1 g) s.heap H locs → W p l e ({ frames := 1, cells := 0, slots := 0, locals := 27 } : Room) s m args below meth c H locs 0 0 (MQ below (va_Qv Q (PB g (yw g)) (Af 1 g)) args s 0 0 (Af 1 g)) (F0 m 0 ls [])) (M : Mem) (hw : b_X11_token_39 Q k0 M) {H : Heap} {locs : List Loc} {ls : Array Slot} (hl : lv_has ls 1 [(0, .ref (g.2.1 (138 + 0)))]) (hP : va_P g.1 clz (yw g M) H) (hS : va_S (Af 1 g) s.heap H locs) : W p l e ({ frames := 1, cells := 0, slots := 0, locals := 27 } : Room) s m args below meth c H locs 0 0 (MQ below (va_Qv Q (PB g (yw g)) (Af 1 g)) args s 0 0 (Af 1 g)) (F0 m 39 ls []) := by
  unfold b_X11_token_39 at hw
  refine lv_aload_n C.1 C.2.1 dX11_token_39 rfl (lv_at hl 0 rfl) ?_
  refine lv_dup C.1 C.2.1 dX11_token_40 rfl ?_
  refine gX11_91 C hP Nat.zero_lt_one dX11_token_41 ?_
  refine lv_iconst (v := 1) C.1 C.2.1 dX11_token_44 (by decide) ?_
  refine lv_iadd C.1 C.2.1 dX11_token_45 ?_
  refine pX11_91 C hP hS Nat.zero_lt_one dX11_token_46 (fun M34 e34 H locs hP hS => ?_)
  have hw := hw M34 e34
  refine lv_goto (tgt := 0) C.1 C.2.1 dX11_token_49 (by decide) ?_
  exact hk0   _ hw _ _ _ (lv_sub hl [0] rfl) hP hS
def b_X11_token_0 (Q : Mem → Prop) : Nat → Mem → Prop
  | 0, _ => False
  | n + 1, M => (((M.1 40 0 6) ≤ (M.1 40 0 7) → (b_X11_token_52 Q  M)) ∧ (¬ (M.1 40 0 6) ≤ (M.1 40 0 7) → (vp_in (M.1 40 0 7) 700 ∧ (((M.1 41 0 ((M.1 40 0 7) : Int32).toNatClampNeg) = 10 → (b_X11_token_39 Q (fun M => b_X11_token_0 Q n M)  M)) ∧ (¬ (M.1 41 0 ((M.1 40 0 7) : Int32).toNatClampNeg) = 10 → (vp_in (M.1 40 0 7) 700 ∧ ((¬ (M.1 41 0 ((M.1 40 0 7) : Int32).toNatClampNeg) = 32 → (b_X11_token_52 Q  M)) ∧ ((M.1 41 0 ((M.1 40 0 7) : Int32).toNatClampNeg) = 32 → (b_X11_token_39 Q (fun M => b_X11_token_0 Q n M)  M)))))))))
set_option maxRecDepth 100000 in
set_option maxHeartbeats 4000000 in
theorem k_X11_token_0 {p : Program} {l : Launch} {e : Env} {s : State} {m : MethodId} {args : Array Value} {below : List Frame} {meth : Method} {c : Code} {g : Geo} (C : CX g p s m args meth c cX11_token 1 none RX11) {Q : Mem → Prop} : ∀ (n : Nat) (M : Mem) (hw : b_X11_token_0 Q n M) {H : Heap} {locs : List Loc} {ls : Array Slot} (hl : lv_has ls 1 [(0, .ref (g.2.1 (138 + 0)))]) (hP : va_P g.1 clz (yw g M) H) (hS : va_S (Af 1 g) s.heap H locs), W p l e ({ frames := 1, cells := 0, slots := 0, locals := 27 } : Room) s m args below meth c H locs 0 0 (MQ below (va_Qv Q (PB g (yw g)) (Af 1 g)) args s 0 0 (Af 1 g)) (F0 m 0 ls []) := by
  intro n
  induction n with
  | zero => intro M hw H locs ls hl hP hS; exact absurd hw (by rw [b_X11_token_0]; exact fun h => h)
  | succ n ih =>
    intro M hw H locs ls hl hP hS
    rw [b_X11_token_0] at hw
    refine lv_aload_n C.1 C.2.1 dX11_token_0 rfl (lv_at hl 0 rfl) ?_
    refine gX11_91 C hP Nat.zero_lt_one dX11_token_1 ?_
    refine lv_aload_n C.1 C.2.1 dX11_token_4 rfl (lv_at hl 0 rfl) ?_
    refine gX11_88 C hP Nat.zero_lt_one dX11_token_5 ?_
    refine lv_icmp_ge (tgt := 52) C.1 C.2.1 dX11_token_8 (by decide) (fun h1 => ?_) (fun h1 => ?_)
    · have hw := hw.1 h1
      exact k_X11_token_52 (Q := Q) C   _ hw (lv_sub hl [0] rfl) hP hS
    · have hw := hw.2 h1
      refine lv_aload_n C.1 C.2.1 dX11_token_11 rfl (lv_at hl 0 rfl) ?_
      refine gX11_7 C hP Nat.zero_lt_one dX11_token_12 ?_
      refine lv_aload_n C.1 C.2.1 dX11_token_15 rfl (lv_at hl 0 rfl) ?_
      refine gX11_91 C hP Nat.zero_lt_one dX11_token_16 ?_
      obtain ⟨h32, hw⟩ := hw
      refine al_41 C hP Nat.zero_lt_one h32 dX11_token_19 ?_
      refine lv_bipush (v := 10) C.1 C.2.1 dX11_token_20 (by decide) ?_
      refine lv_icmp_eq (tgt := 39) C.1 C.2.1 dX11_token_22 (by decide) (fun h33 => ?_) (fun h33 => ?_)
      · have hw := hw.1 h33
        exact k_X11_token_39 (Q := Q) C (fun   M hw H locs ls hl hP hS => ih   M hw hl hP hS)   _ hw (lv_sub hl [0] rfl) hP hS
      · have hw := hw.2 h33
        refine lv_aload_n C.1 C.2.1 dX11_token_25 rfl (lv_at hl 0 rfl) ?_
        refine gX11_7 C hP Nat.zero_lt_one dX11_token_26 ?_
        refine lv_aload_n C.1 C.2.1 dX11_token_29 rfl (lv_at hl 0 rfl) ?_
        refine gX11_91 C hP Nat.zero_lt_one dX11_token_30 ?_
        obtain ⟨h35, hw⟩ := hw
        refine al_41 C hP Nat.zero_lt_one h35 dX11_token_33 ?_
        refine lv_bipush (v := 32) C.1 C.2.1 dX11_token_34 (by decide) ?_
        refine lv_icmp_ne (tgt := 52) C.1 C.2.1 dX11_token_36 (by decide) (fun h36 => ?_) (fun h36 => ?_)
        · have hw := hw.1 h36
          exact k_X11_token_52 (Q := Q) C   _ hw (lv_sub hl [0] rfl) hP hS
        · have hw := hw.2 h36
          exact k_X11_token_39 (Q := Q) C (fun   M hw H locs ls hl hP hS => ih   M hw hl hP hS)   _ hw (lv_sub hl [0] rfl) hP hS
def p_X11_token (M : Mem) (Q : Mem → Prop) : Prop := (∃ n0 : Nat, b_X11_token_0 Q n0  M)
set_option maxRecDepth 100000 in
set_option maxHeartbeats 4000000 in
theorem c_X11_token (l : Launch) (g : Geo) (gi : GI g) (M : Mem) (Q : Mem → Prop) (hw : p_X11_token  M Q) : Met l yX11_token (Cond.code yX11_token cX11_token 1 none :: bg) ({ frames := 1, cells := 0, slots := 0, locals := 27 } : Room) (va_Pc [.ref (g.2.1 (138 + 0))] (PW g (yw g M))) (va_Qv Q (PB g (yw g)) (Af 1 g)) 0 0 (Af 1 g) := by
  refine Met.ofW (cc := cX11_token) (maxL := 1) (ret := none) (by decide +kernel) rfl ?_
  intro p e s m args below meth c s₁ B hml hv
  obtain ⟨rfl, hv⟩ := hv
  have C := CX.start (own := RX11) B hml rfl gi hv
  have hP := hv.1
  have hS : va_S (Af 1 g) s.heap s.heap [] := va_S.rf
  have hl := lv_entry ([.ref (g.2.1 (138 + 0))]) (n := 1) (Nat.le_of_ble_eq_true rfl)
  rw [lg_entry_eq]
  generalize (lg_sl ([.ref (g.2.1 (138 + 0))]) ++ List.replicate (1 - (lg_sl ([.ref (g.2.1 (138 + 0))])).length) Slot.unset).toArray = ls at hl ⊢
  have hl : lv_has ls 1 [(0, .ref (g.2.1 (138 + 0)))] := hl
  unfold p_X11_token at hw
  obtain ⟨n9, hw⟩ := hw
  exact k_X11_token_0 (Q := Q) C n9   _ hw (lv_sub hl [0] rfl) hP hS
def b_X11_plain_77 (Q : Mem → Prop) : Nat → Int32 → Mem → Prop
  | 0, _, _ => False
  | n + 1, v1, M => ((12 ≤ v1 → (Q M)) ∧ (¬ 12 ≤ v1 → (vp_in v1 12 ∧ (∀ M10 : Mem, M10 = sI M 46 0 (v1 : Int32).toNatClampNeg (vp_nar .boolean 0) → (∀ x11 : Int32, x11 = (v1 + 1) → (b_X11_plain_77 Q n x11 M10))))))
set_option maxRecDepth 100000 in
set_option maxHeartbeats 4000000 in
theorem k_X11_plain_77 {p : Program} {l : Launch} {e : Env} {s : State} {m : MethodId} {args : Array Value} {below : List Frame} {meth : Method} {c : Code} {g : Geo} (C : CX g p s m args meth c cX11_plain 2 none RX11) {Q : Mem → Prop} : ∀ (n : Nat) (v1 : Int32) (M : Mem) (hw : b_X11_plain_77 Q n v1 M) {H : Heap} {locs : List Loc} {ls : Array Slot} (hl : lv_has ls 2 [(0, .ref (g.2.1 (138 + 0))), (1, .int v1)]) (hP : va_P g.1 clz (yw g M) H) (hS : va_S (Af 1 g) s.heap H locs), W p l e ({ frames := 0, cells := 0, slots := 0, locals := 0 } : Room) s m args below meth c H locs 0 0 (MQ below (va_Qv Q (PB g (yw g)) (Af 1 g)) args s 0 0 (Af 1 g)) (F0 m 77 ls []) := by
  intro n
  induction n with
  | zero => intro v1 M hw H locs ls hl hP hS; exact absurd hw (by rw [b_X11_plain_77]; exact fun h => h)
  | succ n ih =>
    intro v1 M hw H locs ls hl hP hS
    rw [b_X11_plain_77] at hw
    refine lv_iload_n C.1 C.2.1 dX11_plain_77 rfl (lv_at hl 1 rfl) ?_
    refine lv_bipush (v := 12) C.1 C.2.1 dX11_plain_78 (by decide) ?_
    refine lv_icmp_ge (tgt := 96) C.1 C.2.1 dX11_plain_80 (by decide) (fun h9 => ?_) (fun h9 => ?_)
    · have hw := hw.1 h9
      exact retV (wf := (yw g)) C hP hS hw dX11_plain_96
    · have hw := hw.2 h9
      refine lv_aload_n C.1 C.2.1 dX11_plain_83 rfl (lv_at hl 0 rfl) ?_
      refine gX11_29 C hP Nat.zero_lt_one dX11_plain_84 ?_
      refine lv_iload_n C.1 C.2.1 dX11_plain_87 rfl (lv_at hl 1 rfl) ?_
      refine lv_iconst (v := 0) C.1 C.2.1 dX11_plain_88 (by decide) ?_
      obtain ⟨h10, hw⟩ := hw
      refine as_46 C hP hS Nat.zero_lt_one h10 dX11_plain_89 (fun M10 e10 H locs hP hS => ?_)
      have hw := hw M10 e10
      obtain ⟨x11, e11⟩ : ∃ y : Int32, y = (v1 + 1) := ⟨_, rfl⟩
      have hw := hw x11 e11
      refine lv_iinc (v := x11) (lv' := [(1, .int x11), (0, .ref (g.2.1 (138 + 0)))]) C.1 C.2.1 dX11_plain_90 hl (k := 1) rfl (by rw [e11]; rfl) (by decide) rfl (fun ls hl => ?_)
      refine lv_goto (tgt := 77) C.1 C.2.1 dX11_plain_93 (by decide) ?_
      exact ih x11  _ hw (lv_sub hl [1, 0] rfl) hP hS
def b_X11_plain_33 (Q : Mem → Prop) (M : Mem) : Prop := (vp_in 24 34 ∧ (∀ M4 : Mem, M4 = sI M 45 0 (24 : Int32).toNatClampNeg 5 → (vp_in 25 34 ∧ (∀ M5 : Mem, M5 = sI M4 45 0 (25 : Int32).toNatClampNeg 29 → (vp_in 26 34 ∧ (∀ M6 : Mem, M6 = sI M5 45 0 (26 : Int32).toNatClampNeg 0 → (vp_in 27 34 ∧ (∀ M7 : Mem, M7 = sI M6 45 0 (27 : Int32).toNatClampNeg 0 → (vp_in 28 34 ∧ (∀ M8 : Mem, M8 = sI M7 45 0 (28 : Int32).toNatClampNeg 15 → (∃ n77 : Nat, b_X11_plain_77 Q n77 0 M8)))))))))))
set_option maxRecDepth 100000 in
set_option maxHeartbeats 4000000 in
theorem k_X11_plain_33 {p : Program} {l : Launch} {e : Env} {s : State} {m : MethodId} {args : Array Value} {below : List Frame} {meth : Method} {c : Code} {g : Geo} (C : CX g p s m args meth c cX11_plain 2 none RX11) {Q : Mem → Prop} (M : Mem) (hw : b_X11_plain_33 Q M) {H : Heap} {locs : List Loc} {ls : Array Slot} (hl : lv_has ls 2 [(0, .ref (g.2.1 (138 + 0)))]) (hP : va_P g.1 clz (yw g M) H) (hS : va_S (Af 1 g) s.heap H locs) : W p l e ({ frames := 0, cells := 0, slots := 0, locals := 0 } : Room) s m args below meth c H locs 0 0 (MQ below (va_Qv Q (PB g (yw g)) (Af 1 g)) args s 0 0 (Af 1 g)) (F0 m 33 ls []) := by
  unfold b_X11_plain_33 at hw
  refine lv_aload_n C.1 C.2.1 dX11_plain_33 rfl (lv_at hl 0 rfl) ?_
  refine gX11_26 C hP Nat.zero_lt_one dX11_plain_34 ?_
  refine lv_bipush (v := 24) C.1 C.2.1 dX11_plain_37 (by decide) ?_
  refine lv_iconst (v := 5) C.1 C.2.1 dX11_plain_39 (by decide) ?_
  obtain ⟨h4, hw⟩ := hw
  refine as_45 C hP hS Nat.zero_lt_one h4 dX11_plain_40 (fun M4 e4 H locs hP hS => ?_)
  have hw := hw M4 e4
  refine lv_aload_n C.1 C.2.1 dX11_plain_41 rfl (lv_at hl 0 rfl) ?_
  refine gX11_26 C hP Nat.zero_lt_one dX11_plain_42 ?_
  refine lv_bipush (v := 25) C.1 C.2.1 dX11_plain_45 (by decide) ?_
  refine lv_bipush (v := 29) C.1 C.2.1 dX11_plain_47 (by decide) ?_
  obtain ⟨h5, hw⟩ := hw
  refine as_45 C hP hS Nat.zero_lt_one h5 dX11_plain_49 (fun M5 e5 H locs hP hS => ?_)
  have hw := hw M5 e5
  refine lv_aload_n C.1 C.2.1 dX11_plain_50 rfl (lv_at hl 0 rfl) ?_
  refine gX11_26 C hP Nat.zero_lt_one dX11_plain_51 ?_
  refine lv_bipush (v := 26) C.1 C.2.1 dX11_plain_54 (by decide) ?_
  refine lv_iconst (v := 0) C.1 C.2.1 dX11_plain_56 (by decide) ?_
  obtain ⟨h6, hw⟩ := hw
  refine as_45 C hP hS Nat.zero_lt_one h6 dX11_plain_57 (fun M6 e6 H locs hP hS => ?_)
  have hw := hw M6 e6
  refine lv_aload_n C.1 C.2.1 dX11_plain_58 rfl (lv_at hl 0 rfl) ?_
  refine gX11_26 C hP Nat.zero_lt_one dX11_plain_59 ?_
  refine lv_bipush (v := 27) C.1 C.2.1 dX11_plain_62 (by decide) ?_
  refine lv_iconst (v := 0) C.1 C.2.1 dX11_plain_64 (by decide) ?_
  obtain ⟨h7, hw⟩ := hw
  refine as_45 C hP hS Nat.zero_lt_one h7 dX11_plain_65 (fun M7 e7 H locs hP hS => ?_)
  have hw := hw M7 e7
  refine lv_aload_n C.1 C.2.1 dX11_plain_66 rfl (lv_at hl 0 rfl) ?_
  refine gX11_26 C hP Nat.zero_lt_one dX11_plain_67 ?_
  refine lv_bipush (v := 28) C.1 C.2.1 dX11_plain_70 (by decide) ?_
  refine lv_bipush (v := 15) C.1 C.2.1 dX11_plain_72 (by decide) ?_
  obtain ⟨h8, hw⟩ := hw
  refine as_45 C hP hS Nat.zero_lt_one h8 dX11_plain_74 (fun M8 e8 H locs hP hS => ?_)
  have hw := hw M8 e8
  refine lv_iconst (v := 0) C.1 C.2.1 dX11_plain_75 (by decide) ?_
  refine lv_istore_n (lv' := [(1, .int 0), (0, .ref (g.2.1 (138 + 0)))]) C.1 C.2.1 dX11_plain_76 rfl hl (by decide) rfl (fun ls hl => ?_)
  obtain ⟨n9, hw⟩ := hw
  exact k_X11_plain_77 (Q := Q) C n9 0  _ hw (lv_sub hl [1, 0] rfl) hP hS
def b_X11_plain_12 (Q : Mem → Prop) : Nat → Int32 → Mem → Prop
  | 0, _, _ => False
  | n + 1, v1, M => ((5 ≤ v1 → (b_X11_plain_33 Q  M)) ∧ (¬ 5 ≤ v1 → (vp_in ((29 : Int32) + v1) 34 ∧ (∀ M12 : Mem, M12 = sI M 45 0 (((29 : Int32) + v1) : Int32).toNatClampNeg 0 → (∀ x13 : Int32, x13 = (v1 + 1) → (b_X11_plain_12 Q n x13 M12))))))
set_option maxRecDepth 100000 in
set_option maxHeartbeats 4000000 in
theorem k_X11_plain_12 {p : Program} {l : Launch} {e : Env} {s : State} {m : MethodId} {args : Array Value} {below : List Frame} {meth : Method} {c : Code} {g : Geo} (C : CX g p s m args meth c cX11_plain 2 none RX11) {Q : Mem → Prop} : ∀ (n : Nat) (v1 : Int32) (M : Mem) (hw : b_X11_plain_12 Q n v1 M) {H : Heap} {locs : List Loc} {ls : Array Slot} (hl : lv_has ls 2 [(0, .ref (g.2.1 (138 + 0))), (1, .int v1)]) (hP : va_P g.1 clz (yw g M) H) (hS : va_S (Af 1 g) s.heap H locs), W p l e ({ frames := 0, cells := 0, slots := 0, locals := 0 } : Room) s m args below meth c H locs 0 0 (MQ below (va_Qv Q (PB g (yw g)) (Af 1 g)) args s 0 0 (Af 1 g)) (F0 m 12 ls []) := by
  intro n
  induction n with
  | zero => intro v1 M hw H locs ls hl hP hS; exact absurd hw (by rw [b_X11_plain_12]; exact fun h => h)
  | succ n ih =>
    intro v1 M hw H locs ls hl hP hS
    rw [b_X11_plain_12] at hw
    refine lv_iload_n C.1 C.2.1 dX11_plain_12 rfl (lv_at hl 1 rfl) ?_
    refine lv_iconst (v := 5) C.1 C.2.1 dX11_plain_13 (by decide) ?_
    refine lv_icmp_ge (tgt := 33) C.1 C.2.1 dX11_plain_14 (by decide) (fun h3 => ?_) (fun h3 => ?_)
    · have hw := hw.1 h3
      exact k_X11_plain_33 (Q := Q) C   _ hw (lv_sub hl [0] rfl) hP hS
    · have hw := hw.2 h3
      refine lv_aload_n C.1 C.2.1 dX11_plain_17 rfl (lv_at hl 0 rfl) ?_
      refine gX11_26 C hP Nat.zero_lt_one dX11_plain_18 ?_
      refine lv_bipush (v := 29) C.1 C.2.1 dX11_plain_21 (by decide) ?_
      refine lv_iload_n C.1 C.2.1 dX11_plain_23 rfl (lv_at hl 1 rfl) ?_
      refine lv_iadd C.1 C.2.1 dX11_plain_24 ?_
      refine lv_iconst (v := 0) C.1 C.2.1 dX11_plain_25 (by decide) ?_
      obtain ⟨h12, hw⟩ := hw
      refine as_45 C hP hS Nat.zero_lt_one h12 dX11_plain_26 (fun M12 e12 H locs hP hS => ?_)
      have hw := hw M12 e12
      obtain ⟨x13, e13⟩ : ∃ y : Int32, y = (v1 + 1) := ⟨_, rfl⟩
      have hw := hw x13 e13
      refine lv_iinc (v := x13) (lv' := [(1, .int x13), (0, .ref (g.2.1 (138 + 0)))]) C.1 C.2.1 dX11_plain_27 hl (k := 1) rfl (by rw [e13]; rfl) (by decide) rfl (fun ls hl => ?_)
      refine lv_goto (tgt := 12) C.1 C.2.1 dX11_plain_30 (by decide) ?_
      exact ih x13  _ hw (lv_sub hl [1, 0] rfl) hP hS
def p_X11_plain (M : Mem) (Q : Mem → Prop) : Prop := (∀ M1 : Mem, M1 = sI M 40 0 12 0 → (∀ M2 : Mem, M2 = sI M1 40 0 15 0 → (∃ n12 : Nat, b_X11_plain_12 Q n12 0 M2)))
set_option maxRecDepth 100000 in
set_option maxHeartbeats 4000000 in
theorem c_X11_plain (l : Launch) (g : Geo) (gi : GI g) (M : Mem) (Q : Mem → Prop) (hw : p_X11_plain  M Q) : Met l yX11_plain (Cond.code yX11_plain cX11_plain 2 none :: bg) ({ frames := 0, cells := 0, slots := 0, locals := 0 } : Room) (va_Pc [.ref (g.2.1 (138 + 0))] (PW g (yw g M))) (va_Qv Q (PB g (yw g)) (Af 1 g)) 0 0 (Af 1 g) := by
  refine Met.ofW (cc := cX11_plain) (maxL := 2) (ret := none) (by decide +kernel) rfl ?_
  intro p e s m args below meth c s₁ B hml hv
  obtain ⟨rfl, hv⟩ := hv
  have C := CX.start (own := RX11) B hml rfl gi hv
  have hP := hv.1
  have hS : va_S (Af 1 g) s.heap s.heap [] := va_S.rf
  have hl := lv_entry ([.ref (g.2.1 (138 + 0))]) (n := 2) (Nat.le_of_ble_eq_true rfl)
  rw [lg_entry_eq]
  generalize (lg_sl ([.ref (g.2.1 (138 + 0))]) ++ List.replicate (2 - (lg_sl ([.ref (g.2.1 (138 + 0))])).length) Slot.unset).toArray = ls at hl ⊢
  have hl : lv_has ls 2 [(0, .ref (g.2.1 (138 + 0)))] := hl
  unfold p_X11_plain at hw
  refine lv_aload_n C.1 C.2.1 dX11_plain_0 rfl (lv_at hl 0 rfl) ?_
  refine lv_iconst (v := 0) C.1 C.2.1 dX11_plain_1 (by decide) ?_
  refine pX11_115 C hP hS Nat.zero_lt_one dX11_plain_2 (fun M1 e1 H locs hP hS => ?_)
  have hw := hw M1 e1
  refine lv_aload_n C.1 C.2.1 dX11_plain_5 rfl (lv_at hl 0 rfl) ?_
  refine lv_iconst (v := 0) C.1 C.2.1 dX11_plain_6 (by decide) ?_
  refine pX11_118 C hP hS Nat.zero_lt_one dX11_plain_7 (fun M2 e2 H locs hP hS => ?_)
  have hw := hw M2 e2
  refine lv_iconst (v := 0) C.1 C.2.1 dX11_plain_10 (by decide) ?_
  refine lv_istore_n (lv' := [(1, .int 0), (0, .ref (g.2.1 (138 + 0)))]) C.1 C.2.1 dX11_plain_11 rfl hl (by decide) rfl (fun ls hl => ?_)
  obtain ⟨n9, hw⟩ := hw
  exact k_X11_plain_12 (Q := Q) C n9 0  _ hw (lv_sub hl [1, 0] rfl) hP hS
def b_X11_copies_43_2 (Q : Mem → Prop) : Nat → Int32 → Int32 → Mem → Prop
  | 0, _, _, _ => False
  | n + 1, v1, v2, M => ((v1 ≤ v2 → (Q M)) ∧ (¬ v1 ≤ v2 → (vp_in (v1 + v2) 140 ∧ (vp_in v2 140 ∧ (∀ M3 : Mem, M3 = sI M 43 0 (v2 : Int32).toNatClampNeg (M.1 43 0 ((v1 + v2) : Int32).toNatClampNeg) → (∀ x4 : Int32, x4 = (v2 + 1) → (b_X11_copies_43_2 Q n v1 x4 M3)))))))
set_option maxRecDepth 100000 in
set_option maxHeartbeats 4000000 in
theorem k_X11_copies_43_2 {p : Program} {l : Launch} {e : Env} {s : State} {m : MethodId} {args : Array Value} {below : List Frame} {meth : Method} {c : Code} {g : Geo} (C : CX g p s m args meth c cX11_copies 3 none RX11) {Q : Mem → Prop} : ∀ (n : Nat) (v1 : Int32) (v2 : Int32) (M : Mem) (hw : b_X11_copies_43_2 Q n v1 v2 M) {H : Heap} {locs : List Loc} {ls : Array Slot} (hl : lv_has ls 3 [(0, .ref (g.2.1 (141 + 0))), (1, .int v1), (2, .int v2)]) (hP : va_P g.1 clz (yw g M) H) (hS : va_S (Af 1 g) s.heap H locs), W p l e ({ frames := 0, cells := 0, slots := 0, locals := 0 } : Room) s m args below meth c H locs 0 0 (MQ below (va_Qv Q (PB g (yw g)) (Af 1 g)) args s 0 0 (Af 1 g)) (F0 m 2 ls []) := by
  intro n
  induction n with
  | zero => intro v1 v2 M hw H locs ls hl hP hS; exact absurd hw (by rw [b_X11_copies_43_2]; exact fun h => h)
  | succ n ih =>
    intro v1 v2 M hw H locs ls hl hP hS
    rw [b_X11_copies_43_2] at hw
    refine lv_iload_n C.1 C.2.1 dX11_copies_2 rfl (lv_at hl 2 rfl) ?_
    refine lv_iload_n C.1 C.2.1 dX11_copies_3 rfl (lv_at hl 1 rfl) ?_
    refine lv_icmp_ge (tgt := 21) C.1 C.2.1 dX11_copies_4 (by decide) (fun h1 => ?_) (fun h1 => ?_)
    · have hw := hw.1 h1
      exact retV (wf := (yw g)) C hP hS hw dX11_copies_21
    · have hw := hw.2 h1
      refine lv_aload_n C.1 C.2.1 dX11_copies_7 rfl (lv_at hl 0 rfl) ?_
      refine lv_iload_n C.1 C.2.1 dX11_copies_8 rfl (lv_at hl 2 rfl) ?_
      refine lv_aload_n C.1 C.2.1 dX11_copies_9 rfl (lv_at hl 0 rfl) ?_
      refine lv_iload_n C.1 C.2.1 dX11_copies_10 rfl (lv_at hl 1 rfl) ?_
      refine lv_iload_n C.1 C.2.1 dX11_copies_11 rfl (lv_at hl 2 rfl) ?_
      refine lv_iadd C.1 C.2.1 dX11_copies_12 ?_
      obtain ⟨h2, hw⟩ := hw
      refine al_43 C hP Nat.zero_lt_one h2 dX11_copies_13 ?_
      obtain ⟨h3, hw⟩ := hw
      refine as_43 C hP hS Nat.zero_lt_one h3 dX11_copies_14 (fun M3 e3 H locs hP hS => ?_)
      have hw := hw M3 e3
      obtain ⟨x4, e4⟩ : ∃ y : Int32, y = (v2 + 1) := ⟨_, rfl⟩
      have hw := hw x4 e4
      refine lv_iinc (v := x4) (lv' := [(2, .int x4), (0, .ref (g.2.1 (141 + 0))), (1, .int v1)]) C.1 C.2.1 dX11_copies_15 hl (k := 2) rfl (by rw [e4]; rfl) (by decide) rfl (fun ls hl => ?_)
      refine lv_goto (tgt := 2) C.1 C.2.1 dX11_copies_18 (by decide) ?_
      exact ih v1 x4  _ hw (lv_sub hl [1, 2, 0] rfl) hP hS
def p_X11_copies_43 (a1 : Int32) (M : Mem) (Q : Mem → Prop) : Prop := (∃ n2 : Nat, b_X11_copies_43_2 Q n2 a1 0 M)
set_option maxRecDepth 100000 in
set_option maxHeartbeats 4000000 in
theorem c_X11_copies_43 (l : Launch) (g : Geo) (gi : GI g) (a1 : Int32) (M : Mem) (Q : Mem → Prop) (hw : p_X11_copies_43 a1 M Q) : Met l yX11_copies (Cond.code yX11_copies cX11_copies 3 none :: bg) ({ frames := 0, cells := 0, slots := 0, locals := 0 } : Room) (va_Pc [.ref (g.2.1 (141 + 0)), .int a1] (PW g (yw g M))) (va_Qv Q (PB g (yw g)) (Af 1 g)) 0 0 (Af 1 g) := by
  refine Met.ofW (cc := cX11_copies) (maxL := 3) (ret := none) (by decide +kernel) rfl ?_
  intro p e s m args below meth c s₁ B hml hv
  obtain ⟨rfl, hv⟩ := hv
  have C := CX.start (own := RX11) B hml rfl gi hv
  have hP := hv.1
  have hS : va_S (Af 1 g) s.heap s.heap [] := va_S.rf
  have hl := lv_entry ([.ref (g.2.1 (141 + 0)), .int a1]) (n := 3) (Nat.le_of_ble_eq_true rfl)
  rw [lg_entry_eq]
  generalize (lg_sl ([.ref (g.2.1 (141 + 0)), .int a1]) ++ List.replicate (3 - (lg_sl ([.ref (g.2.1 (141 + 0)), .int a1])).length) Slot.unset).toArray = ls at hl ⊢
  have hl : lv_has ls 3 [(0, .ref (g.2.1 (141 + 0))), (1, .int a1)] := hl
  unfold p_X11_copies_43 at hw
  refine lv_iconst (v := 0) C.1 C.2.1 dX11_copies_0 (by decide) ?_
  refine lv_istore_n (lv' := [(2, .int 0), (0, .ref (g.2.1 (141 + 0))), (1, .int a1)]) C.1 C.2.1 dX11_copies_1 rfl hl (by decide) rfl (fun ls hl => ?_)
  obtain ⟨n9, hw⟩ := hw
  exact k_X11_copies_43_2 (Q := Q) C n9 a1 0  _ hw (lv_sub hl [1, 2, 0] rfl) hP hS
def b_X11_copies_44_2 (Q : Mem → Prop) : Nat → Int32 → Int32 → Mem → Prop
  | 0, _, _, _ => False
  | n + 1, v1, v2, M => ((v1 ≤ v2 → (Q M)) ∧ (¬ v1 ≤ v2 → (vp_in (v1 + v2) 60 ∧ (vp_in v2 60 ∧ (∀ M3 : Mem, M3 = sI M 44 0 (v2 : Int32).toNatClampNeg (M.1 44 0 ((v1 + v2) : Int32).toNatClampNeg) → (∀ x4 : Int32, x4 = (v2 + 1) → (b_X11_copies_44_2 Q n v1 x4 M3)))))))
set_option maxRecDepth 100000 in
set_option maxHeartbeats 4000000 in
theorem k_X11_copies_44_2 {p : Program} {l : Launch} {e : Env} {s : State} {m : MethodId} {args : Array Value} {below : List Frame} {meth : Method} {c : Code} {g : Geo} (C : CX g p s m args meth c cX11_copies 3 none RX11) {Q : Mem → Prop} : ∀ (n : Nat) (v1 : Int32) (v2 : Int32) (M : Mem) (hw : b_X11_copies_44_2 Q n v1 v2 M) {H : Heap} {locs : List Loc} {ls : Array Slot} (hl : lv_has ls 3 [(0, .ref (g.2.1 (142 + 0))), (1, .int v1), (2, .int v2)]) (hP : va_P g.1 clz (yw g M) H) (hS : va_S (Af 1 g) s.heap H locs), W p l e ({ frames := 0, cells := 0, slots := 0, locals := 0 } : Room) s m args below meth c H locs 0 0 (MQ below (va_Qv Q (PB g (yw g)) (Af 1 g)) args s 0 0 (Af 1 g)) (F0 m 2 ls []) := by
  intro n
  induction n with
  | zero => intro v1 v2 M hw H locs ls hl hP hS; exact absurd hw (by rw [b_X11_copies_44_2]; exact fun h => h)
  | succ n ih =>
    intro v1 v2 M hw H locs ls hl hP hS
    rw [b_X11_copies_44_2] at hw
    refine lv_iload_n C.1 C.2.1 dX11_copies_2 rfl (lv_at hl 2 rfl) ?_
    refine lv_iload_n C.1 C.2.1 dX11_copies_3 rfl (lv_at hl 1 rfl) ?_
    refine lv_icmp_ge (tgt := 21) C.1 C.2.1 dX11_copies_4 (by decide) (fun h1 => ?_) (fun h1 => ?_)
    · have hw := hw.1 h1
      exact retV (wf := (yw g)) C hP hS hw dX11_copies_21
    · have hw := hw.2 h1
      refine lv_aload_n C.1 C.2.1 dX11_copies_7 rfl (lv_at hl 0 rfl) ?_
      refine lv_iload_n C.1 C.2.1 dX11_copies_8 rfl (lv_at hl 2 rfl) ?_
      refine lv_aload_n C.1 C.2.1 dX11_copies_9 rfl (lv_at hl 0 rfl) ?_
      refine lv_iload_n C.1 C.2.1 dX11_copies_10 rfl (lv_at hl 1 rfl) ?_
      refine lv_iload_n C.1 C.2.1 dX11_copies_11 rfl (lv_at hl 2 rfl) ?_
      refine lv_iadd C.1 C.2.1 dX11_copies_12 ?_
      obtain ⟨h2, hw⟩ := hw
      refine al_44 C hP Nat.zero_lt_one h2 dX11_copies_13 ?_
      obtain ⟨h3, hw⟩ := hw
      refine as_44 C hP hS Nat.zero_lt_one h3 dX11_copies_14 (fun M3 e3 H locs hP hS => ?_)
      have hw := hw M3 e3
      obtain ⟨x4, e4⟩ : ∃ y : Int32, y = (v2 + 1) := ⟨_, rfl⟩
      have hw := hw x4 e4
      refine lv_iinc (v := x4) (lv' := [(2, .int x4), (0, .ref (g.2.1 (142 + 0))), (1, .int v1)]) C.1 C.2.1 dX11_copies_15 hl (k := 2) rfl (by rw [e4]; rfl) (by decide) rfl (fun ls hl => ?_)
      refine lv_goto (tgt := 2) C.1 C.2.1 dX11_copies_18 (by decide) ?_
      exact ih v1 x4  _ hw (lv_sub hl [1, 2, 0] rfl) hP hS
def p_X11_copies_44 (a1 : Int32) (M : Mem) (Q : Mem → Prop) : Prop := (∃ n2 : Nat, b_X11_copies_44_2 Q n2 a1 0 M)
set_option maxRecDepth 100000 in
set_option maxHeartbeats 4000000 in
theorem c_X11_copies_44 (l : Launch) (g : Geo) (gi : GI g) (a1 : Int32) (M : Mem) (Q : Mem → Prop) (hw : p_X11_copies_44 a1 M Q) : Met l yX11_copies (Cond.code yX11_copies cX11_copies 3 none :: bg) ({ frames := 0, cells := 0, slots := 0, locals := 0 } : Room) (va_Pc [.ref (g.2.1 (142 + 0)), .int a1] (PW g (yw g M))) (va_Qv Q (PB g (yw g)) (Af 1 g)) 0 0 (Af 1 g) := by
  refine Met.ofW (cc := cX11_copies) (maxL := 3) (ret := none) (by decide +kernel) rfl ?_
  intro p e s m args below meth c s₁ B hml hv
  obtain ⟨rfl, hv⟩ := hv
  have C := CX.start (own := RX11) B hml rfl gi hv
  have hP := hv.1
  have hS : va_S (Af 1 g) s.heap s.heap [] := va_S.rf
  have hl := lv_entry ([.ref (g.2.1 (142 + 0)), .int a1]) (n := 3) (Nat.le_of_ble_eq_true rfl)
  rw [lg_entry_eq]
  generalize (lg_sl ([.ref (g.2.1 (142 + 0)), .int a1]) ++ List.replicate (3 - (lg_sl ([.ref (g.2.1 (142 + 0)), .int a1])).length) Slot.unset).toArray = ls at hl ⊢
  have hl : lv_has ls 3 [(0, .ref (g.2.1 (142 + 0))), (1, .int a1)] := hl
  unfold p_X11_copies_44 at hw
  refine lv_iconst (v := 0) C.1 C.2.1 dX11_copies_0 (by decide) ?_
  refine lv_istore_n (lv' := [(2, .int 0), (0, .ref (g.2.1 (142 + 0))), (1, .int a1)]) C.1 C.2.1 dX11_copies_1 rfl hl (by decide) rfl (fun ls hl => ?_)
  obtain ⟨n9, hw⟩ := hw
  exact k_X11_copies_44_2 (Q := Q) C n9 a1 0  _ hw (lv_sub hl [1, 2, 0] rfl) hP hS
def b_X11_copies_45_2 (Q : Mem → Prop) : Nat → Int32 → Int32 → Mem → Prop
  | 0, _, _, _ => False
  | n + 1, v1, v2, M => ((v1 ≤ v2 → (Q M)) ∧ (¬ v1 ≤ v2 → (vp_in (v1 + v2) 34 ∧ (vp_in v2 34 ∧ (∀ M3 : Mem, M3 = sI M 45 0 (v2 : Int32).toNatClampNeg (M.1 45 0 ((v1 + v2) : Int32).toNatClampNeg) → (∀ x4 : Int32, x4 = (v2 + 1) → (b_X11_copies_45_2 Q n v1 x4 M3)))))))
set_option maxRecDepth 100000 in
set_option maxHeartbeats 4000000 in
theorem k_X11_copies_45_2 {p : Program} {l : Launch} {e : Env} {s : State} {m : MethodId} {args : Array Value} {below : List Frame} {meth : Method} {c : Code} {g : Geo} (C : CX g p s m args meth c cX11_copies 3 none RX11) {Q : Mem → Prop} : ∀ (n : Nat) (v1 : Int32) (v2 : Int32) (M : Mem) (hw : b_X11_copies_45_2 Q n v1 v2 M) {H : Heap} {locs : List Loc} {ls : Array Slot} (hl : lv_has ls 3 [(0, .ref (g.2.1 (143 + 0))), (1, .int v1), (2, .int v2)]) (hP : va_P g.1 clz (yw g M) H) (hS : va_S (Af 1 g) s.heap H locs), W p l e ({ frames := 0, cells := 0, slots := 0, locals := 0 } : Room) s m args below meth c H locs 0 0 (MQ below (va_Qv Q (PB g (yw g)) (Af 1 g)) args s 0 0 (Af 1 g)) (F0 m 2 ls []) := by
  intro n
  induction n with
  | zero => intro v1 v2 M hw H locs ls hl hP hS; exact absurd hw (by rw [b_X11_copies_45_2]; exact fun h => h)
  | succ n ih =>
    intro v1 v2 M hw H locs ls hl hP hS
    rw [b_X11_copies_45_2] at hw
    refine lv_iload_n C.1 C.2.1 dX11_copies_2 rfl (lv_at hl 2 rfl) ?_
    refine lv_iload_n C.1 C.2.1 dX11_copies_3 rfl (lv_at hl 1 rfl) ?_
    refine lv_icmp_ge (tgt := 21) C.1 C.2.1 dX11_copies_4 (by decide) (fun h1 => ?_) (fun h1 => ?_)
    · have hw := hw.1 h1
      exact retV (wf := (yw g)) C hP hS hw dX11_copies_21
    · have hw := hw.2 h1
      refine lv_aload_n C.1 C.2.1 dX11_copies_7 rfl (lv_at hl 0 rfl) ?_
      refine lv_iload_n C.1 C.2.1 dX11_copies_8 rfl (lv_at hl 2 rfl) ?_
      refine lv_aload_n C.1 C.2.1 dX11_copies_9 rfl (lv_at hl 0 rfl) ?_
      refine lv_iload_n C.1 C.2.1 dX11_copies_10 rfl (lv_at hl 1 rfl) ?_
      refine lv_iload_n C.1 C.2.1 dX11_copies_11 rfl (lv_at hl 2 rfl) ?_
      refine lv_iadd C.1 C.2.1 dX11_copies_12 ?_
      obtain ⟨h2, hw⟩ := hw
      refine al_45 C hP Nat.zero_lt_one h2 dX11_copies_13 ?_
      obtain ⟨h3, hw⟩ := hw
      refine as_45 C hP hS Nat.zero_lt_one h3 dX11_copies_14 (fun M3 e3 H locs hP hS => ?_)
      have hw := hw M3 e3
      obtain ⟨x4, e4⟩ : ∃ y : Int32, y = (v2 + 1) := ⟨_, rfl⟩
      have hw := hw x4 e4
      refine lv_iinc (v := x4) (lv' := [(2, .int x4), (0, .ref (g.2.1 (143 + 0))), (1, .int v1)]) C.1 C.2.1 dX11_copies_15 hl (k := 2) rfl (by rw [e4]; rfl) (by decide) rfl (fun ls hl => ?_)
      refine lv_goto (tgt := 2) C.1 C.2.1 dX11_copies_18 (by decide) ?_
      exact ih v1 x4  _ hw (lv_sub hl [1, 2, 0] rfl) hP hS
def p_X11_copies_45 (a1 : Int32) (M : Mem) (Q : Mem → Prop) : Prop := (∃ n2 : Nat, b_X11_copies_45_2 Q n2 a1 0 M)
set_option maxRecDepth 100000 in
set_option maxHeartbeats 4000000 in
theorem c_X11_copies_45 (l : Launch) (g : Geo) (gi : GI g) (a1 : Int32) (M : Mem) (Q : Mem → Prop) (hw : p_X11_copies_45 a1 M Q) : Met l yX11_copies (Cond.code yX11_copies cX11_copies 3 none :: bg) ({ frames := 0, cells := 0, slots := 0, locals := 0 } : Room) (va_Pc [.ref (g.2.1 (143 + 0)), .int a1] (PW g (yw g M))) (va_Qv Q (PB g (yw g)) (Af 1 g)) 0 0 (Af 1 g) := by
  refine Met.ofW (cc := cX11_copies) (maxL := 3) (ret := none) (by decide +kernel) rfl ?_
  intro p e s m args below meth c s₁ B hml hv
  obtain ⟨rfl, hv⟩ := hv
  have C := CX.start (own := RX11) B hml rfl gi hv
  have hP := hv.1
  have hS : va_S (Af 1 g) s.heap s.heap [] := va_S.rf
  have hl := lv_entry ([.ref (g.2.1 (143 + 0)), .int a1]) (n := 3) (Nat.le_of_ble_eq_true rfl)
  rw [lg_entry_eq]
  generalize (lg_sl ([.ref (g.2.1 (143 + 0)), .int a1]) ++ List.replicate (3 - (lg_sl ([.ref (g.2.1 (143 + 0)), .int a1])).length) Slot.unset).toArray = ls at hl ⊢
  have hl : lv_has ls 3 [(0, .ref (g.2.1 (143 + 0))), (1, .int a1)] := hl
  unfold p_X11_copies_45 at hw
  refine lv_iconst (v := 0) C.1 C.2.1 dX11_copies_0 (by decide) ?_
  refine lv_istore_n (lv' := [(2, .int 0), (0, .ref (g.2.1 (143 + 0))), (1, .int a1)]) C.1 C.2.1 dX11_copies_1 rfl hl (by decide) rfl (fun ls hl => ?_)
  obtain ⟨n9, hw⟩ := hw
  exact k_X11_copies_45_2 (Q := Q) C n9 a1 0  _ hw (lv_sub hl [1, 2, 0] rfl) hP hS
def b_X11_isOdd_4 (Q : Int32 → Mem → Prop) : Nat → Int32 → Int32 → Int32 → Mem → Prop
  | 0, _, _, _, _ => False
  | n + 1, v0, v1, v2, M => ((8 ≤ v2 → (Q v1 M)) ∧ (¬ 8 ≤ v2 → (∀ x2 : Int32, x2 = (v1 ^^^ ((v0 >>> (v2 &&& 31)) &&& 1)) → (∀ x3 : Int32, x3 = (v2 + 1) → (b_X11_isOdd_4 Q n v0 x2 x3 M)))))
set_option maxRecDepth 100000 in
set_option maxHeartbeats 4000000 in
theorem k_X11_isOdd_4 {p : Program} {l : Launch} {e : Env} {s : State} {m : MethodId} {args : Array Value} {below : List Frame} {meth : Method} {c : Code} {g : Geo} (C : CX g p s m args meth c cX11_isOdd 3 (some .int) RX11) {Q : Int32 → Mem → Prop} : ∀ (n : Nat) (v0 : Int32) (v1 : Int32) (v2 : Int32) (M : Mem) (hw : b_X11_isOdd_4 Q n v0 v1 v2 M) {H : Heap} {locs : List Loc} {ls : Array Slot} (hl : lv_has ls 3 [(0, .int v0), (1, .int v1), (2, .int v2)]) (hP : va_P g.1 clz (yw g M) H) (hS : va_S (Af 1 g) s.heap H locs), W p l e ({ frames := 0, cells := 0, slots := 0, locals := 0 } : Room) s m args below meth c H locs 0 0 (MQ below (va_Qi Q (PB g (yw g)) (Af 1 g)) args s 0 0 (Af 1 g)) (F0 m 4 ls []) := by
  intro n
  induction n with
  | zero => intro v0 v1 v2 M hw H locs ls hl hP hS; exact absurd hw (by rw [b_X11_isOdd_4]; exact fun h => h)
  | succ n ih =>
    intro v0 v1 v2 M hw H locs ls hl hP hS
    rw [b_X11_isOdd_4] at hw
    refine lv_iload_n C.1 C.2.1 dX11_isOdd_4 rfl (lv_at hl 2 rfl) ?_
    refine lv_bipush (v := 8) C.1 C.2.1 dX11_isOdd_5 (by decide) ?_
    refine lv_icmp_ge (tgt := 24) C.1 C.2.1 dX11_isOdd_7 (by decide) (fun h1 => ?_) (fun h1 => ?_)
    · have hw := hw.1 h1
      refine lv_iload_n C.1 C.2.1 dX11_isOdd_24 rfl (lv_at hl 1 rfl) ?_
      exact retI (wf := (yw g)) C hP hS hw dX11_isOdd_25
    · have hw := hw.2 h1
      refine lv_iload_n C.1 C.2.1 dX11_isOdd_10 rfl (lv_at hl 1 rfl) ?_
      refine lv_iload_n C.1 C.2.1 dX11_isOdd_11 rfl (lv_at hl 0 rfl) ?_
      refine lv_iload_n C.1 C.2.1 dX11_isOdd_12 rfl (lv_at hl 2 rfl) ?_
      refine lv_ishr C.1 C.2.1 dX11_isOdd_13 ?_
      refine lv_iconst (v := 1) C.1 C.2.1 dX11_isOdd_14 (by decide) ?_
      refine lv_iand C.1 C.2.1 dX11_isOdd_15 ?_
      refine lv_ixor C.1 C.2.1 dX11_isOdd_16 ?_
      refine lv_topi (fun x2 e2 => ?_)
      have hw := hw x2 e2
      refine lv_istore_n (lv' := [(1, .int x2), (0, .int v0), (2, .int v2)]) C.1 C.2.1 dX11_isOdd_17 rfl hl (by decide) rfl (fun ls hl => ?_)
      obtain ⟨x3, e3⟩ : ∃ y : Int32, y = (v2 + 1) := ⟨_, rfl⟩
      have hw := hw x3 e3
      refine lv_iinc (v := x3) (lv' := [(2, .int x3), (1, .int x2), (0, .int v0)]) C.1 C.2.1 dX11_isOdd_18 hl (k := 2) rfl (by rw [e3]; rfl) (by decide) rfl (fun ls hl => ?_)
      refine lv_goto (tgt := 4) C.1 C.2.1 dX11_isOdd_21 (by decide) ?_
      exact ih v0 x2 x3  _ hw (lv_sub hl [2, 1, 0] rfl) hP hS
def p_X11_isOdd (a0 : Int32) (M : Mem) (Q : Int32 → Mem → Prop) : Prop := (∃ n4 : Nat, b_X11_isOdd_4 Q n4 a0 0 0 M)
set_option maxRecDepth 100000 in
set_option maxHeartbeats 4000000 in
theorem c_X11_isOdd (l : Launch) (g : Geo) (gi : GI g) (a0 : Int32) (M : Mem) (Q : Int32 → Mem → Prop) (hw : p_X11_isOdd a0 M Q) : Met l yX11_isOdd (Cond.code yX11_isOdd cX11_isOdd 3 (some .int) :: bg) ({ frames := 0, cells := 0, slots := 0, locals := 0 } : Room) (va_Pc [.int a0] (PW g (yw g M))) (va_Qi Q (PB g (yw g)) (Af 1 g)) 0 0 (Af 1 g) := by
  refine Met.ofW (cc := cX11_isOdd) (maxL := 3) (ret := (some .int)) (by decide +kernel) rfl ?_
  intro p e s m args below meth c s₁ B hml hv
  obtain ⟨rfl, hv⟩ := hv
  have C := CX.start (own := RX11) B hml rfl gi hv
  have hP := hv.1
  have hS : va_S (Af 1 g) s.heap s.heap [] := va_S.rf
  have hl := lv_entry ([.int a0]) (n := 3) (Nat.le_of_ble_eq_true rfl)
  rw [lg_entry_eq]
  generalize (lg_sl ([.int a0]) ++ List.replicate (3 - (lg_sl ([.int a0])).length) Slot.unset).toArray = ls at hl ⊢
  have hl : lv_has ls 3 [(0, .int a0)] := hl
  unfold p_X11_isOdd at hw
  refine lv_iconst (v := 0) C.1 C.2.1 dX11_isOdd_0 (by decide) ?_
  refine lv_istore_n (lv' := [(1, .int 0), (0, .int a0)]) C.1 C.2.1 dX11_isOdd_1 rfl hl (by decide) rfl (fun ls hl => ?_)
  refine lv_iconst (v := 0) C.1 C.2.1 dX11_isOdd_2 (by decide) ?_
  refine lv_istore_n (lv' := [(2, .int 0), (1, .int 0), (0, .int a0)]) C.1 C.2.1 dX11_isOdd_3 rfl hl (by decide) rfl (fun ls hl => ?_)
  obtain ⟨n9, hw⟩ := hw
  exact k_X11_isOdd_4 (Q := Q) C n9 a0 0 0  _ hw (lv_sub hl [2, 1, 0] rfl) hP hS
def p_X11_stepped (a0 : Int32) (a1 : Int32) (M : Mem) (Q : Int32 → Mem → Prop) : Prop := (p_X11_isOdd ((a0 &&& a1)) M (fun r1 M1 => (Q ((a0 >>> (1 &&& 31)) ||| (r1 <<< (4 &&& 31))) M1)))
set_option maxRecDepth 100000 in
set_option maxHeartbeats 4000000 in
theorem c_X11_stepped (l : Launch) (g : Geo) (gi : GI g) (a0 : Int32) (a1 : Int32) (M : Mem) (Q : Int32 → Mem → Prop) (hw : p_X11_stepped a0 a1 M Q) : Met l yX11_stepped (Cond.code yX11_stepped cX11_stepped 2 (some .int) :: bg) ({ frames := 1, cells := 0, slots := 0, locals := 22 } : Room) (va_Pc [.int a0, .int a1] (PW g (yw g M))) (va_Qi Q (PB g (yw g)) (Af 1 g)) 0 0 (Af 1 g) := by
  refine Met.ofW (cc := cX11_stepped) (maxL := 2) (ret := (some .int)) (by decide +kernel) rfl ?_
  intro p e s m args below meth c s₁ B hml hv
  obtain ⟨rfl, hv⟩ := hv
  have C := CX.start (own := RX11) B hml rfl gi hv
  have hP := hv.1
  have hS : va_S (Af 1 g) s.heap s.heap [] := va_S.rf
  have hl := lv_entry ([.int a0, .int a1]) (n := 2) (Nat.le_of_ble_eq_true rfl)
  rw [lg_entry_eq]
  generalize (lg_sl ([.int a0, .int a1]) ++ List.replicate (2 - (lg_sl ([.int a0, .int a1])).length) Slot.unset).toArray = ls at hl ⊢
  have hl : lv_has ls 2 [(0, .int a0), (1, .int a1)] := hl
  unfold p_X11_stepped at hw
  refine lv_iload_n C.1 C.2.1 dX11_stepped_0 rfl (lv_at hl 0 rfl) ?_
  refine lv_iconst (v := 1) C.1 C.2.1 dX11_stepped_1 (by decide) ?_
  refine lv_ishr C.1 C.2.1 dX11_stepped_2 ?_
  refine lv_iload_n C.1 C.2.1 dX11_stepped_3 rfl (lv_at hl 0 rfl) ?_
  refine lv_iload_n C.1 C.2.1 dX11_stepped_4 rfl (lv_at hl 1 rfl) ?_
  refine lv_iand C.1 C.2.1 dX11_stepped_5 ?_
  refine goI (wf := (yw g)) (runS (w := yw g M) (As := [.int (a0 &&& a1)]) (rest := [.int (a0 >>> (1 &&& 31))]) C lkX11_223 (c_X11_isOdd l g C.2.2.2.2.2.2.2.2.2.2 ((a0 &&& a1))  M _ hw) hP hS rfl rfl ⟨Nat.le_of_ble_eq_true rfl, Nat.le_of_ble_eq_true rfl⟩ hl.1 rfl (Nat.le_of_ble_eq_true rfl) dX11_stepped_6) hS (fun r1 M1 hw H locs hP hS => ?_)
  refine lv_iconst (v := 4) C.1 C.2.1 dX11_stepped_9 (by decide) ?_
  refine lv_ishl C.1 C.2.1 dX11_stepped_10 ?_
  refine lv_ior C.1 C.2.1 dX11_stepped_11 ?_
  exact retI (wf := (yw g)) C hP hS hw dX11_stepped_12
def b_X11_layCodes_52 (Q : Mem → Prop) (k2 : Int32 → Mem → Prop) (v1 : Int32) (M : Mem) : Prop := (∀ x3 : Int32, x3 = (v1 + 1) → (k2 x3 M))
set_option maxRecDepth 100000 in
set_option maxHeartbeats 4000000 in
theorem k_X11_layCodes_52 {p : Program} {l : Launch} {e : Env} {s : State} {m : MethodId} {args : Array Value} {below : List Frame} {meth : Method} {c : Code} {g : Geo} (C : CX g p s m args meth c cX11_layCodes 4 none RX11) {Q : Mem → Prop} {k2 : Int32 → Mem → Prop} (hk2 : ∀ (v1 : Int32) (M : Mem), k2 v1 M → ∀ (H : Heap) (locs : List Loc) (ls : Array Slot), lv_has ls 4 [(0, .ref (g.2.1 (138 + 0))), (1, .int v1)] → va_P g.1 clz (yw g M) H → va_S (Af 1 g) s.heap H locs → W p l e ({ frames := 2, cells := 0, slots := 0, locals := 43 } : Room) s m args below meth c H locs 0 0 (MQ below (va_Qv Q (PB g (yw g)) (Af 1 g)) args s 0 0 (Af 1 g)) (F0 m 2 ls [])) (v1 : Int32) (M : Mem) (hw : b_X11_layCodes_52 Q k2 v1 M) {H : Heap} {locs : List Loc} {ls : Array Slot} (hl : lv_has ls 4 [(0, .ref (g.2.1 (138 + 0))), (1, .int v1)]) (hP : va_P g.1 clz (yw g M) H) (hS : va_S (Af 1 g) s.heap H locs) : W p l e ({ frames := 2, cells := 0, slots := 0, locals := 43 } : Room) s m args below meth c H locs 0 0 (MQ below (va_Qv Q (PB g (yw g)) (Af 1 g)) args s 0 0 (Af 1 g)) (F0 m 52 ls []) := by
  unfold b_X11_layCodes_52 at hw
  obtain ⟨x3, e3⟩ : ∃ y : Int32, y = (v1 + 1) := ⟨_, rfl⟩
  have hw := hw x3 e3
  refine lv_iinc (v := x3) (lv' := [(1, .int x3), (0, .ref (g.2.1 (138 + 0)))]) C.1 C.2.1 dX11_layCodes_52 hl (k := 1) rfl (by rw [e3]; rfl) (by decide) rfl (fun ls hl => ?_)
  refine lv_goto (tgt := 2) C.1 C.2.1 dX11_layCodes_55 (by decide) ?_
  exact hk2 x3  _ hw _ _ _ (lv_sub hl [1, 0] rfl) hP hS
def b_X11_layCodes_12 (Q : Mem → Prop) (k2 : Int32 → Mem → Prop) : Nat → Int32 → Int32 → Int32 → Mem → Prop
  | 0, _, _, _, _ => False
  | n + 1, v1, v2, v3, M => ((31 ≤ v3 → (b_X11_layCodes_52 Q k2 v1 M)) ∧ (¬ 31 ≤ v3 → (vp_in (((31 : Int32) * v1) + v3) 62 ∧ (∀ M4 : Mem, M4 = sI M 47 0 ((((31 : Int32) * v1) + v3) : Int32).toNatClampNeg (v2 &&& 1) → (vp_in ((7 : Int32) + v1) 34 ∧ (p_X11_stepped v2 ((M4.1 45 0 (((7 : Int32) + v1) : Int32).toNatClampNeg)) M4 (fun r6 M6 => (∀ x7 : Int32, x7 = (v3 + 1) → (b_X11_layCodes_12 Q k2 n v1 r6 x7 M6)))))))))
set_option maxRecDepth 100000 in
set_option maxHeartbeats 4000000 in
theorem k_X11_layCodes_12 {p : Program} {l : Launch} {e : Env} {s : State} {m : MethodId} {args : Array Value} {below : List Frame} {meth : Method} {c : Code} {g : Geo} (C : CX g p s m args meth c cX11_layCodes 4 none RX11) {Q : Mem → Prop} {k2 : Int32 → Mem → Prop} (hk2 : ∀ (v1 : Int32) (M : Mem), k2 v1 M → ∀ (H : Heap) (locs : List Loc) (ls : Array Slot), lv_has ls 4 [(0, .ref (g.2.1 (138 + 0))), (1, .int v1)] → va_P g.1 clz (yw g M) H → va_S (Af 1 g) s.heap H locs → W p l e ({ frames := 2, cells := 0, slots := 0, locals := 43 } : Room) s m args below meth c H locs 0 0 (MQ below (va_Qv Q (PB g (yw g)) (Af 1 g)) args s 0 0 (Af 1 g)) (F0 m 2 ls [])) : ∀ (n : Nat) (v1 : Int32) (v2 : Int32) (v3 : Int32) (M : Mem) (hw : b_X11_layCodes_12 Q k2 n v1 v2 v3 M) {H : Heap} {locs : List Loc} {ls : Array Slot} (hl : lv_has ls 4 [(0, .ref (g.2.1 (138 + 0))), (1, .int v1), (2, .int v2), (3, .int v3)]) (hP : va_P g.1 clz (yw g M) H) (hS : va_S (Af 1 g) s.heap H locs), W p l e ({ frames := 2, cells := 0, slots := 0, locals := 43 } : Room) s m args below meth c H locs 0 0 (MQ below (va_Qv Q (PB g (yw g)) (Af 1 g)) args s 0 0 (Af 1 g)) (F0 m 12 ls []) := by
  intro n
  induction n with
  | zero => intro v1 v2 v3 M hw H locs ls hl hP hS; exact absurd hw (by rw [b_X11_layCodes_12]; exact fun h => h)
  | succ n ih =>
    intro v1 v2 v3 M hw H locs ls hl hP hS
    rw [b_X11_layCodes_12] at hw
    refine lv_iload_n C.1 C.2.1 dX11_layCodes_12 rfl (lv_at hl 3 rfl) ?_
    refine lv_bipush (v := 31) C.1 C.2.1 dX11_layCodes_13 (by decide) ?_
    refine lv_icmp_ge (tgt := 52) C.1 C.2.1 dX11_layCodes_15 (by decide) (fun h2 => ?_) (fun h2 => ?_)
    · have hw := hw.1 h2
      exact k_X11_layCodes_52 (Q := Q) C hk2 v1  _ hw (lv_sub hl [0, 1] rfl) hP hS
    · have hw := hw.2 h2
      refine lv_aload_n C.1 C.2.1 dX11_layCodes_18 rfl (lv_at hl 0 rfl) ?_
      refine gX11_33 C hP Nat.zero_lt_one dX11_layCodes_19 ?_
      refine lv_bipush (v := 31) C.1 C.2.1 dX11_layCodes_22 (by decide) ?_
      refine lv_iload_n C.1 C.2.1 dX11_layCodes_24 rfl (lv_at hl 1 rfl) ?_
      refine lv_imul C.1 C.2.1 dX11_layCodes_25 ?_
      refine lv_iload_n C.1 C.2.1 dX11_layCodes_26 rfl (lv_at hl 3 rfl) ?_
      refine lv_iadd C.1 C.2.1 dX11_layCodes_27 ?_
      refine lv_iload_n C.1 C.2.1 dX11_layCodes_28 rfl (lv_at hl 2 rfl) ?_
      refine lv_iconst (v := 1) C.1 C.2.1 dX11_layCodes_29 (by decide) ?_
      refine lv_iand C.1 C.2.1 dX11_layCodes_30 ?_
      obtain ⟨h4, hw⟩ := hw
      refine as_47 C hP hS Nat.zero_lt_one h4 dX11_layCodes_31 (fun M4 e4 H locs hP hS => ?_)
      have hw := hw M4 e4
      refine lv_iload_n C.1 C.2.1 dX11_layCodes_32 rfl (lv_at hl 2 rfl) ?_
      refine lv_aload_n C.1 C.2.1 dX11_layCodes_33 rfl (lv_at hl 0 rfl) ?_
      refine gX11_26 C hP Nat.zero_lt_one dX11_layCodes_34 ?_
      refine lv_bipush (v := 7) C.1 C.2.1 dX11_layCodes_37 (by decide) ?_
      refine lv_iload_n C.1 C.2.1 dX11_layCodes_39 rfl (lv_at hl 1 rfl) ?_
      refine lv_iadd C.1 C.2.1 dX11_layCodes_40 ?_
      obtain ⟨h5, hw⟩ := hw
      refine al_45 C hP Nat.zero_lt_one h5 dX11_layCodes_41 ?_
      refine goI (wf := (yw g)) (runS (w := yw g M4) (As := [.int v2, .int (M4.1 45 0 (((7 : Int32) + v1) : Int32).toNatClampNeg)]) (rest := []) C lkX11_226 (c_X11_stepped l g C.2.2.2.2.2.2.2.2.2.2 v2 ((M4.1 45 0 (((7 : Int32) + v1) : Int32).toNatClampNeg))  M4 _ hw) hP hS rfl rfl ⟨Nat.le_of_ble_eq_true rfl, Nat.le_of_ble_eq_true rfl⟩ hl.1 rfl (Nat.le_of_ble_eq_true rfl) dX11_layCodes_42) hS (fun r6 M6 hw H locs hP hS => ?_)
      refine lv_istore_n (lv' := [(2, .int r6), (0, .ref (g.2.1 (138 + 0))), (1, .int v1), (3, .int v3)]) C.1 C.2.1 dX11_layCodes_45 rfl hl (by decide) rfl (fun ls hl => ?_)
      obtain ⟨x7, e7⟩ : ∃ y : Int32, y = (v3 + 1) := ⟨_, rfl⟩
      have hw := hw x7 e7
      refine lv_iinc (v := x7) (lv' := [(3, .int x7), (2, .int r6), (0, .ref (g.2.1 (138 + 0))), (1, .int v1)]) C.1 C.2.1 dX11_layCodes_46 hl (k := 3) rfl (by rw [e7]; rfl) (by decide) rfl (fun ls hl => ?_)
      refine lv_goto (tgt := 12) C.1 C.2.1 dX11_layCodes_49 (by decide) ?_
      exact ih v1 r6 x7  _ hw (lv_sub hl [2, 3, 1, 0] rfl) hP hS
def b_X11_layCodes_2 (Q : Mem → Prop) : Nat → Int32 → Mem → Prop
  | 0, _, _ => False
  | n + 1, v1, M => ((2 ≤ v1 → (Q M)) ∧ (¬ 2 ≤ v1 → (∃ n12 : Nat, b_X11_layCodes_12 Q (fun v1 M => b_X11_layCodes_2 Q n v1 M) n12 v1 31 0 M)))
set_option maxRecDepth 100000 in
set_option maxHeartbeats 4000000 in
theorem k_X11_layCodes_2 {p : Program} {l : Launch} {e : Env} {s : State} {m : MethodId} {args : Array Value} {below : List Frame} {meth : Method} {c : Code} {g : Geo} (C : CX g p s m args meth c cX11_layCodes 4 none RX11) {Q : Mem → Prop} : ∀ (n : Nat) (v1 : Int32) (M : Mem) (hw : b_X11_layCodes_2 Q n v1 M) {H : Heap} {locs : List Loc} {ls : Array Slot} (hl : lv_has ls 4 [(0, .ref (g.2.1 (138 + 0))), (1, .int v1)]) (hP : va_P g.1 clz (yw g M) H) (hS : va_S (Af 1 g) s.heap H locs), W p l e ({ frames := 2, cells := 0, slots := 0, locals := 43 } : Room) s m args below meth c H locs 0 0 (MQ below (va_Qv Q (PB g (yw g)) (Af 1 g)) args s 0 0 (Af 1 g)) (F0 m 2 ls []) := by
  intro n
  induction n with
  | zero => intro v1 M hw H locs ls hl hP hS; exact absurd hw (by rw [b_X11_layCodes_2]; exact fun h => h)
  | succ n ih =>
    intro v1 M hw H locs ls hl hP hS
    rw [b_X11_layCodes_2] at hw
    refine lv_iload_n C.1 C.2.1 dX11_layCodes_2 rfl (lv_at hl 1 rfl) ?_
    refine lv_iconst (v := 2) C.1 C.2.1 dX11_layCodes_3 (by decide) ?_
    refine lv_icmp_ge (tgt := 58) C.1 C.2.1 dX11_layCodes_4 (by decide) (fun h1 => ?_) (fun h1 => ?_)
    · have hw := hw.1 h1
      exact retV (wf := (yw g)) C hP hS hw dX11_layCodes_58
    · have hw := hw.2 h1
      refine lv_bipush (v := 31) C.1 C.2.1 dX11_layCodes_7 (by decide) ?_
      refine lv_istore_n (lv' := [(2, .int 31), (0, .ref (g.2.1 (138 + 0))), (1, .int v1)]) C.1 C.2.1 dX11_layCodes_9 rfl hl (by decide) rfl (fun ls hl => ?_)
      refine lv_iconst (v := 0) C.1 C.2.1 dX11_layCodes_10 (by decide) ?_
      refine lv_istore_n (lv' := [(3, .int 0), (2, .int 31), (0, .ref (g.2.1 (138 + 0))), (1, .int v1)]) C.1 C.2.1 dX11_layCodes_11 rfl hl (by decide) rfl (fun ls hl => ?_)
      obtain ⟨n9, hw⟩ := hw
      exact k_X11_layCodes_12 (Q := Q) C (fun v1  M hw H locs ls hl hP hS => ih v1  M hw hl hP hS) n9 v1 31 0  _ hw (lv_sub hl [2, 3, 1, 0] rfl) hP hS
def p_X11_layCodes (M : Mem) (Q : Mem → Prop) : Prop := (∃ n2 : Nat, b_X11_layCodes_2 Q n2 0 M)
set_option maxRecDepth 100000 in
set_option maxHeartbeats 4000000 in
theorem c_X11_layCodes (l : Launch) (g : Geo) (gi : GI g) (M : Mem) (Q : Mem → Prop) (hw : p_X11_layCodes  M Q) : Met l yX11_layCodes (Cond.code yX11_layCodes cX11_layCodes 4 none :: bg) ({ frames := 2, cells := 0, slots := 0, locals := 43 } : Room) (va_Pc [.ref (g.2.1 (138 + 0))] (PW g (yw g M))) (va_Qv Q (PB g (yw g)) (Af 1 g)) 0 0 (Af 1 g) := by
  refine Met.ofW (cc := cX11_layCodes) (maxL := 4) (ret := none) (by decide +kernel) rfl ?_
  intro p e s m args below meth c s₁ B hml hv
  obtain ⟨rfl, hv⟩ := hv
  have C := CX.start (own := RX11) B hml rfl gi hv
  have hP := hv.1
  have hS : va_S (Af 1 g) s.heap s.heap [] := va_S.rf
  have hl := lv_entry ([.ref (g.2.1 (138 + 0))]) (n := 4) (Nat.le_of_ble_eq_true rfl)
  rw [lg_entry_eq]
  generalize (lg_sl ([.ref (g.2.1 (138 + 0))]) ++ List.replicate (4 - (lg_sl ([.ref (g.2.1 (138 + 0))])).length) Slot.unset).toArray = ls at hl ⊢
  have hl : lv_has ls 4 [(0, .ref (g.2.1 (138 + 0)))] := hl
  unfold p_X11_layCodes at hw
  refine lv_iconst (v := 0) C.1 C.2.1 dX11_layCodes_0 (by decide) ?_
  refine lv_istore_n (lv' := [(1, .int 0), (0, .ref (g.2.1 (138 + 0)))]) C.1 C.2.1 dX11_layCodes_1 rfl hl (by decide) rfl (fun ls hl => ?_)
  obtain ⟨n9, hw⟩ := hw
  exact k_X11_layCodes_2 (Q := Q) C n9 0  _ hw (lv_sub hl [1, 0] rfl) hP hS
def p_X11_lay (a1 : Int32) (a2 : Int32) (M : Mem) (Q : Mem → Prop) : Prop := (vp_in (((298 : Int32) * (M.1 40 0 35)) + a1) 3874 ∧ (∀ M1 : Mem, M1 = sI M 54 0 ((((298 : Int32) * (M.1 40 0 35)) + a1) : Int32).toNatClampNeg a2 → (Q M1)))
set_option maxRecDepth 100000 in
set_option maxHeartbeats 4000000 in
theorem c_X11_lay (l : Launch) (g : Geo) (gi : GI g) (a1 : Int32) (a2 : Int32) (M : Mem) (Q : Mem → Prop) (hw : p_X11_lay a1 a2 M Q) : Met l yX11_lay (Cond.code yX11_lay cX11_lay 3 none :: bg) ({ frames := 0, cells := 0, slots := 0, locals := 0 } : Room) (va_Pc [.ref (g.2.1 (138 + 0)), .int a1, .int a2] (PW g (yw g M))) (va_Qv Q (PB g (yw g)) (Af 1 g)) 0 0 (Af 1 g) := by
  refine Met.ofW (cc := cX11_lay) (maxL := 3) (ret := none) (by decide +kernel) rfl ?_
  intro p e s m args below meth c s₁ B hml hv
  obtain ⟨rfl, hv⟩ := hv
  have C := CX.start (own := RX11) B hml rfl gi hv
  have hP := hv.1
  have hS : va_S (Af 1 g) s.heap s.heap [] := va_S.rf
  have hl := lv_entry ([.ref (g.2.1 (138 + 0)), .int a1, .int a2]) (n := 3) (Nat.le_of_ble_eq_true rfl)
  rw [lg_entry_eq]
  generalize (lg_sl ([.ref (g.2.1 (138 + 0)), .int a1, .int a2]) ++ List.replicate (3 - (lg_sl ([.ref (g.2.1 (138 + 0)), .int a1, .int a2])).length) Slot.unset).toArray = ls at hl ⊢
  have hl : lv_has ls 3 [(0, .ref (g.2.1 (138 + 0))), (1, .int a1), (2, .int a2)] := hl
  unfold p_X11_lay at hw
  refine lv_aload_n C.1 C.2.1 dX11_lay_0 rfl (lv_at hl 0 rfl) ?_
  refine gX11_55 C hP Nat.zero_lt_one dX11_lay_1 ?_
  refine lv_sipush (v := 298) C.1 C.2.1 dX11_lay_4 (by decide) ?_
  refine lv_aload_n C.1 C.2.1 dX11_lay_7 rfl (lv_at hl 0 rfl) ?_
  refine gX11_143 C hP Nat.zero_lt_one dX11_lay_8 ?_
  refine lv_imul C.1 C.2.1 dX11_lay_11 ?_
  refine lv_iload_n C.1 C.2.1 dX11_lay_12 rfl (lv_at hl 1 rfl) ?_
  refine lv_iadd C.1 C.2.1 dX11_lay_13 ?_
  refine lv_iload_n C.1 C.2.1 dX11_lay_14 rfl (lv_at hl 2 rfl) ?_
  obtain ⟨h1, hw⟩ := hw
  refine as_54 C hP hS Nat.zero_lt_one h1 dX11_lay_15 (fun M1 e1 H locs hP hS => ?_)
  have hw := hw M1 e1
  exact retV (wf := (yw g)) C hP hS hw dX11_lay_16
def b_X11_keepText_112 (Q : Mem → Prop) : Nat → Int32 → Mem → Prop
  | 0, _, _ => False
  | n + 1, v1, M => ((5 ≤ v1 → (Q M)) ∧ (¬ 5 ≤ v1 → (p_X11_lay (((293 : Int32) + v1)) (-1) M (fun M17 => (∀ x18 : Int32, x18 = (v1 + 1) → (b_X11_keepText_112 Q n x18 M17))))))
set_option maxRecDepth 100000 in
set_option maxHeartbeats 4000000 in
theorem k_X11_keepText_112 {p : Program} {l : Launch} {e : Env} {s : State} {m : MethodId} {args : Array Value} {below : List Frame} {meth : Method} {c : Code} {g : Geo} (C : CX g p s m args meth c cX11_keepText 2 none RX11) {Q : Mem → Prop} : ∀ (n : Nat) (v1 : Int32) (M : Mem) (hw : b_X11_keepText_112 Q n v1 M) {H : Heap} {locs : List Loc} {ls : Array Slot} (hl : lv_has ls 2 [(0, .ref (g.2.1 (138 + 0))), (1, .int v1)]) (hP : va_P g.1 clz (yw g M) H) (hS : va_S (Af 1 g) s.heap H locs), W p l e ({ frames := 3, cells := 0, slots := 0, locals := 66 } : Room) s m args below meth c H locs 0 0 (MQ below (va_Qv Q (PB g (yw g)) (Af 1 g)) args s 0 0 (Af 1 g)) (F0 m 112 ls []) := by
  intro n
  induction n with
  | zero => intro v1 M hw H locs ls hl hP hS; exact absurd hw (by rw [b_X11_keepText_112]; exact fun h => h)
  | succ n ih =>
    intro v1 M hw H locs ls hl hP hS
    rw [b_X11_keepText_112] at hw
    refine lv_iload_n C.1 C.2.1 dX11_keepText_112 rfl (lv_at hl 1 rfl) ?_
    refine lv_iconst (v := 5) C.1 C.2.1 dX11_keepText_113 (by decide) ?_
    refine lv_icmp_ge (tgt := 133) C.1 C.2.1 dX11_keepText_114 (by decide) (fun h16 => ?_) (fun h16 => ?_)
    · have hw := hw.1 h16
      exact retV (wf := (yw g)) C hP hS hw dX11_keepText_133
    · have hw := hw.2 h16
      refine lv_aload_n C.1 C.2.1 dX11_keepText_117 rfl (lv_at hl 0 rfl) ?_
      refine lv_sipush (v := 293) C.1 C.2.1 dX11_keepText_118 (by decide) ?_
      refine lv_iload_n C.1 C.2.1 dX11_keepText_121 rfl (lv_at hl 1 rfl) ?_
      refine lv_iadd C.1 C.2.1 dX11_keepText_122 ?_
      refine lv_iconst (v := (-1)) C.1 C.2.1 dX11_keepText_123 (by decide) ?_
      refine goV (wf := (yw g)) (runV (w := yw g M) (As := [.int ((293 : Int32) + v1), .int (-1)]) (rest := []) C lkX11_153 (c_X11_lay l g C.2.2.2.2.2.2.2.2.2.2 (((293 : Int32) + v1)) (-1)  M _ hw) hP hS rfl rfl ⟨Nat.le_of_ble_eq_true rfl, Nat.le_of_ble_eq_true rfl⟩ (xx_40 Nat.zero_lt_one) rfl rfl hl.1 rfl (Nat.le_of_ble_eq_true rfl) dX11_keepText_124) hS (fun M17 hw H locs hP hS => ?_)
      obtain ⟨x18, e18⟩ : ∃ y : Int32, y = (v1 + 1) := ⟨_, rfl⟩
      have hw := hw x18 e18
      refine lv_iinc (v := x18) (lv' := [(1, .int x18), (0, .ref (g.2.1 (138 + 0)))]) C.1 C.2.1 dX11_keepText_127 hl (k := 1) rfl (by rw [e18]; rfl) (by decide) rfl (fun ls hl => ?_)
      refine lv_goto (tgt := 112) C.1 C.2.1 dX11_keepText_130 (by decide) ?_
      exact ih x18  _ hw (lv_sub hl [1, 0] rfl) hP hS
def b_X11_keepText_110 (Q : Mem → Prop) (M : Mem) : Prop := (∃ n112 : Nat, b_X11_keepText_112 Q n112 0 M)
set_option maxRecDepth 100000 in
set_option maxHeartbeats 4000000 in
theorem k_X11_keepText_110 {p : Program} {l : Launch} {e : Env} {s : State} {m : MethodId} {args : Array Value} {below : List Frame} {meth : Method} {c : Code} {g : Geo} (C : CX g p s m args meth c cX11_keepText 2 none RX11) {Q : Mem → Prop} (M : Mem) (hw : b_X11_keepText_110 Q M) {H : Heap} {locs : List Loc} {ls : Array Slot} (hl : lv_has ls 2 [(0, .ref (g.2.1 (138 + 0)))]) (hP : va_P g.1 clz (yw g M) H) (hS : va_S (Af 1 g) s.heap H locs) : W p l e ({ frames := 3, cells := 0, slots := 0, locals := 66 } : Room) s m args below meth c H locs 0 0 (MQ below (va_Qv Q (PB g (yw g)) (Af 1 g)) args s 0 0 (Af 1 g)) (F0 m 110 ls []) := by
  unfold b_X11_keepText_110 at hw
  refine lv_iconst (v := 0) C.1 C.2.1 dX11_keepText_110 (by decide) ?_
  refine lv_istore_n (lv' := [(1, .int 0), (0, .ref (g.2.1 (138 + 0)))]) C.1 C.2.1 dX11_keepText_111 rfl hl (by decide) rfl (fun ls hl => ?_)
  obtain ⟨n9, hw⟩ := hw
  exact k_X11_keepText_112 (Q := Q) C n9 0  _ hw (lv_sub hl [1, 0] rfl) hP hS
def b_X11_keepText_91 (Q : Mem → Prop) : Nat → Int32 → Mem → Prop
  | 0, _, _ => False
  | n + 1, v1, M => ((298 ≤ v1 → (b_X11_keepText_110 Q  M)) ∧ (¬ 298 ≤ v1 → (p_X11_lay v1 0 M (fun M19 => (∀ x20 : Int32, x20 = (v1 + 1) → (b_X11_keepText_91 Q n x20 M19))))))
set_option maxRecDepth 100000 in
set_option maxHeartbeats 4000000 in
theorem k_X11_keepText_91 {p : Program} {l : Launch} {e : Env} {s : State} {m : MethodId} {args : Array Value} {below : List Frame} {meth : Method} {c : Code} {g : Geo} (C : CX g p s m args meth c cX11_keepText 2 none RX11) {Q : Mem → Prop} : ∀ (n : Nat) (v1 : Int32) (M : Mem) (hw : b_X11_keepText_91 Q n v1 M) {H : Heap} {locs : List Loc} {ls : Array Slot} (hl : lv_has ls 2 [(0, .ref (g.2.1 (138 + 0))), (1, .int v1)]) (hP : va_P g.1 clz (yw g M) H) (hS : va_S (Af 1 g) s.heap H locs), W p l e ({ frames := 3, cells := 0, slots := 0, locals := 66 } : Room) s m args below meth c H locs 0 0 (MQ below (va_Qv Q (PB g (yw g)) (Af 1 g)) args s 0 0 (Af 1 g)) (F0 m 91 ls []) := by
  intro n
  induction n with
  | zero => intro v1 M hw H locs ls hl hP hS; exact absurd hw (by rw [b_X11_keepText_91]; exact fun h => h)
  | succ n ih =>
    intro v1 M hw H locs ls hl hP hS
    rw [b_X11_keepText_91] at hw
    refine lv_iload_n C.1 C.2.1 dX11_keepText_91 rfl (lv_at hl 1 rfl) ?_
    refine lv_sipush (v := 298) C.1 C.2.1 dX11_keepText_92 (by decide) ?_
    refine lv_icmp_ge (tgt := 110) C.1 C.2.1 dX11_keepText_95 (by decide) (fun h15 => ?_) (fun h15 => ?_)
    · have hw := hw.1 h15
      exact k_X11_keepText_110 (Q := Q) C   _ hw (lv_sub hl [0] rfl) hP hS
    · have hw := hw.2 h15
      refine lv_aload_n C.1 C.2.1 dX11_keepText_98 rfl (lv_at hl 0 rfl) ?_
      refine lv_iload_n C.1 C.2.1 dX11_keepText_99 rfl (lv_at hl 1 rfl) ?_
      refine lv_iconst (v := 0) C.1 C.2.1 dX11_keepText_100 (by decide) ?_
      refine goV (wf := (yw g)) (runV (w := yw g M) (As := [.int v1, .int 0]) (rest := []) C lkX11_153 (c_X11_lay l g C.2.2.2.2.2.2.2.2.2.2 v1 0  M _ hw) hP hS rfl rfl ⟨Nat.le_of_ble_eq_true rfl, Nat.le_of_ble_eq_true rfl⟩ (xx_40 Nat.zero_lt_one) rfl rfl hl.1 rfl (Nat.le_of_ble_eq_true rfl) dX11_keepText_101) hS (fun M19 hw H locs hP hS => ?_)
      obtain ⟨x20, e20⟩ : ∃ y : Int32, y = (v1 + 1) := ⟨_, rfl⟩
      have hw := hw x20 e20
      refine lv_iinc (v := x20) (lv' := [(1, .int x20), (0, .ref (g.2.1 (138 + 0)))]) C.1 C.2.1 dX11_keepText_104 hl (k := 1) rfl (by rw [e20]; rfl) (by decide) rfl (fun ls hl => ?_)
      refine lv_goto (tgt := 91) C.1 C.2.1 dX11_keepText_107 (by decide) ?_
      exact ih x20  _ hw (lv_sub hl [1, 0] rfl) hP hS
def p_X11_keepText (M : Mem) (Q : Mem → Prop) : Prop := (∀ M1 : Mem, M1 = sI M 40 0 11 (M.1 40 0 12) → (∀ M2 : Mem, M2 = sI M1 40 0 14 (M1.1 40 0 15) → (p_X11_copies_43 70 M2 (fun M3 => (p_X11_copies_44 30 M3 (fun M4 => (p_X11_copies_45 17 M4 (fun M5 => (p_X11_layCodes  M5 (fun M6 => (vp_in 9 34 ∧ (∀ M8 : Mem, M8 = sI M6 40 0 22 (M6.1 45 0 (9 : Int32).toNatClampNeg) → (vp_in 10 34 ∧ (∀ M10 : Mem, M10 = sI M8 40 0 23 (M8.1 45 0 (10 : Int32).toNatClampNeg) → (∀ M11 : Mem, M11 = sI M10 40 0 24 (-1) → (∀ M12 : Mem, M12 = sI M11 40 0 35 0 → (∀ M13 : Mem, M13 = sI M12 40 0 36 0 → (∀ M14 : Mem, M14 = sI M13 40 0 37 0 → (∃ n91 : Nat, b_X11_keepText_91 Q n91 0 M14)))))))))))))))))))
set_option maxRecDepth 100000 in
set_option maxHeartbeats 4000000 in
theorem c_X11_keepText (l : Launch) (g : Geo) (gi : GI g) (M : Mem) (Q : Mem → Prop) (hw : p_X11_keepText  M Q) : Met l yX11_keepText (Cond.code yX11_keepText cX11_keepText 2 none :: bg) ({ frames := 3, cells := 0, slots := 0, locals := 66 } : Room) (va_Pc [.ref (g.2.1 (138 + 0))] (PW g (yw g M))) (va_Qv Q (PB g (yw g)) (Af 1 g)) 0 0 (Af 1 g) := by
  refine Met.ofW (cc := cX11_keepText) (maxL := 2) (ret := none) (by decide +kernel) rfl ?_
  intro p e s m args below meth c s₁ B hml hv
  obtain ⟨rfl, hv⟩ := hv
  have C := CX.start (own := RX11) B hml rfl gi hv
  have hP := hv.1
  have hS : va_S (Af 1 g) s.heap s.heap [] := va_S.rf
  have hl := lv_entry ([.ref (g.2.1 (138 + 0))]) (n := 2) (Nat.le_of_ble_eq_true rfl)
  rw [lg_entry_eq]
  generalize (lg_sl ([.ref (g.2.1 (138 + 0))]) ++ List.replicate (2 - (lg_sl ([.ref (g.2.1 (138 + 0))])).length) Slot.unset).toArray = ls at hl ⊢
  have hl : lv_has ls 2 [(0, .ref (g.2.1 (138 + 0)))] := hl
  unfold p_X11_keepText at hw
  refine lv_aload_n C.1 C.2.1 dX11_keepText_0 rfl (lv_at hl 0 rfl) ?_
  refine lv_aload_n C.1 C.2.1 dX11_keepText_1 rfl (lv_at hl 0 rfl) ?_
  refine gX11_115 C hP Nat.zero_lt_one dX11_keepText_2 ?_
  refine pX11_121 C hP hS Nat.zero_lt_one dX11_keepText_5 (fun M1 e1 H locs hP hS => ?_)
  have hw := hw M1 e1
  refine lv_aload_n C.1 C.2.1 dX11_keepText_8 rfl (lv_at hl 0 rfl) ?_
  refine lv_aload_n C.1 C.2.1 dX11_keepText_9 rfl (lv_at hl 0 rfl) ?_
  refine gX11_118 C hP Nat.zero_lt_one dX11_keepText_10 ?_
  refine pX11_124 C hP hS Nat.zero_lt_one dX11_keepText_13 (fun M2 e2 H locs hP hS => ?_)
  have hw := hw M2 e2
  refine lv_aload_n C.1 C.2.1 dX11_keepText_16 rfl (lv_at hl 0 rfl) ?_
  refine gX11_20 C hP Nat.zero_lt_one dX11_keepText_17 ?_
  refine lv_bipush (v := 70) C.1 C.2.1 dX11_keepText_20 (by decide) ?_
  refine goV (wf := (yw g)) (runS (w := yw g M2) (As := [.ref (g.2.1 (141 + 0)), .int 70]) (rest := []) C lkX11_127 (c_X11_copies_43 l g C.2.2.2.2.2.2.2.2.2.2 70  M2 _ hw) hP hS rfl rfl ⟨Nat.le_of_ble_eq_true rfl, Nat.le_of_ble_eq_true rfl⟩ hl.1 rfl (Nat.le_of_ble_eq_true rfl) dX11_keepText_22) hS (fun M3 hw H locs hP hS => ?_)
  refine lv_aload_n C.1 C.2.1 dX11_keepText_25 rfl (lv_at hl 0 rfl) ?_
  refine gX11_23 C hP Nat.zero_lt_one dX11_keepText_26 ?_
  refine lv_bipush (v := 30) C.1 C.2.1 dX11_keepText_29 (by decide) ?_
  refine goV (wf := (yw g)) (runS (w := yw g M3) (As := [.ref (g.2.1 (142 + 0)), .int 30]) (rest := []) C lkX11_127 (c_X11_copies_44 l g C.2.2.2.2.2.2.2.2.2.2 30  M3 _ hw) hP hS rfl rfl ⟨Nat.le_of_ble_eq_true rfl, Nat.le_of_ble_eq_true rfl⟩ hl.1 rfl (Nat.le_of_ble_eq_true rfl) dX11_keepText_31) hS (fun M4 hw H locs hP hS => ?_)
  refine lv_aload_n C.1 C.2.1 dX11_keepText_34 rfl (lv_at hl 0 rfl) ?_
  refine gX11_26 C hP Nat.zero_lt_one dX11_keepText_35 ?_
  refine lv_bipush (v := 17) C.1 C.2.1 dX11_keepText_38 (by decide) ?_
  refine goV (wf := (yw g)) (runS (w := yw g M4) (As := [.ref (g.2.1 (143 + 0)), .int 17]) (rest := []) C lkX11_127 (c_X11_copies_45 l g C.2.2.2.2.2.2.2.2.2.2 17  M4 _ hw) hP hS rfl rfl ⟨Nat.le_of_ble_eq_true rfl, Nat.le_of_ble_eq_true rfl⟩ hl.1 rfl (Nat.le_of_ble_eq_true rfl) dX11_keepText_40) hS (fun M5 hw H locs hP hS => ?_)
  refine lv_aload_n C.1 C.2.1 dX11_keepText_43 rfl (lv_at hl 0 rfl) ?_
  refine goV (wf := (yw g)) (runV (w := yw g M5) (As := []) (rest := []) C lkX11_131 (c_X11_layCodes l g C.2.2.2.2.2.2.2.2.2.2   M5 _ hw) hP hS rfl rfl ⟨Nat.le_of_ble_eq_true rfl, Nat.le_of_ble_eq_true rfl⟩ (xx_40 Nat.zero_lt_one) rfl rfl hl.1 rfl (Nat.le_of_ble_eq_true rfl) dX11_keepText_44) hS (fun M6 hw H locs hP hS => ?_)
  refine lv_aload_n C.1 C.2.1 dX11_keepText_47 rfl (lv_at hl 0 rfl) ?_
  refine lv_aload_n C.1 C.2.1 dX11_keepText_48 rfl (lv_at hl 0 rfl) ?_
  refine gX11_26 C hP Nat.zero_lt_one dX11_keepText_49 ?_
  refine lv_bipush (v := 9) C.1 C.2.1 dX11_keepText_52 (by decide) ?_
  obtain ⟨h7, hw⟩ := hw
  refine al_45 C hP Nat.zero_lt_one h7 dX11_keepText_54 ?_
  refine pX11_134 C hP hS Nat.zero_lt_one dX11_keepText_55 (fun M8 e8 H locs hP hS => ?_)
  have hw := hw M8 e8
  refine lv_aload_n C.1 C.2.1 dX11_keepText_58 rfl (lv_at hl 0 rfl) ?_
  refine lv_aload_n C.1 C.2.1 dX11_keepText_59 rfl (lv_at hl 0 rfl) ?_
  refine gX11_26 C hP Nat.zero_lt_one dX11_keepText_60 ?_
  refine lv_bipush (v := 10) C.1 C.2.1 dX11_keepText_63 (by decide) ?_
  obtain ⟨h9, hw⟩ := hw
  refine al_45 C hP Nat.zero_lt_one h9 dX11_keepText_65 ?_
  refine pX11_137 C hP hS Nat.zero_lt_one dX11_keepText_66 (fun M10 e10 H locs hP hS => ?_)
  have hw := hw M10 e10
  refine lv_aload_n C.1 C.2.1 dX11_keepText_69 rfl (lv_at hl 0 rfl) ?_
  refine lv_iconst (v := (-1)) C.1 C.2.1 dX11_keepText_70 (by decide) ?_
  refine pX11_140 C hP hS Nat.zero_lt_one dX11_keepText_71 (fun M11 e11 H locs hP hS => ?_)
  have hw := hw M11 e11
  refine lv_aload_n C.1 C.2.1 dX11_keepText_74 rfl (lv_at hl 0 rfl) ?_
  refine lv_iconst (v := 0) C.1 C.2.1 dX11_keepText_75 (by decide) ?_
  refine pX11_143 C hP hS Nat.zero_lt_one dX11_keepText_76 (fun M12 e12 H locs hP hS => ?_)
  have hw := hw M12 e12
  refine lv_aload_n C.1 C.2.1 dX11_keepText_79 rfl (lv_at hl 0 rfl) ?_
  refine lv_iconst (v := 0) C.1 C.2.1 dX11_keepText_80 (by decide) ?_
  refine pX11_146 C hP hS Nat.zero_lt_one dX11_keepText_81 (fun M13 e13 H locs hP hS => ?_)
  have hw := hw M13 e13
  refine lv_aload_n C.1 C.2.1 dX11_keepText_84 rfl (lv_at hl 0 rfl) ?_
  refine lv_iconst (v := 0) C.1 C.2.1 dX11_keepText_85 (by decide) ?_
  refine pX11_149 C hP hS Nat.zero_lt_one rfl rfl dX11_keepText_86 (fun M14 e14 H locs hP hS => ?_)
  have hw := hw M14 e14
  refine lv_iconst (v := 0) C.1 C.2.1 dX11_keepText_89 (by decide) ?_
  refine lv_istore_n (lv' := [(1, .int 0), (0, .ref (g.2.1 (138 + 0)))]) C.1 C.2.1 dX11_keepText_90 rfl hl (by decide) rfl (fun ls hl => ?_)
  obtain ⟨n9, hw⟩ := hw
  exact k_X11_keepText_91 (Q := Q) C n9 0  _ hw (lv_sub hl [1, 0] rfl) hP hS
def p_X11_birdOf (a1 : Int32) (a2 : Int32) (M : Mem) (Q : Int32 → Mem → Prop) : Prop := (vp_in (((14 : Int32) * a1) + a2) 140 ∧ (Q (M.1 43 0 ((((14 : Int32) * a1) + a2) : Int32).toNatClampNeg) M))
set_option maxRecDepth 100000 in
set_option maxHeartbeats 4000000 in
theorem c_X11_birdOf (l : Launch) (g : Geo) (gi : GI g) (a1 : Int32) (a2 : Int32) (M : Mem) (Q : Int32 → Mem → Prop) (hw : p_X11_birdOf a1 a2 M Q) : Met l yX11_birdOf (Cond.code yX11_birdOf cX11_birdOf 3 (some .int) :: bg) ({ frames := 0, cells := 0, slots := 0, locals := 0 } : Room) (va_Pc [.ref (g.2.1 (138 + 0)), .int a1, .int a2] (PW g (yw g M))) (va_Qi Q (PB g (yw g)) (Af 1 g)) 0 0 (Af 1 g) := by
  refine Met.ofW (cc := cX11_birdOf) (maxL := 3) (ret := (some .int)) (by decide +kernel) rfl ?_
  intro p e s m args below meth c s₁ B hml hv
  obtain ⟨rfl, hv⟩ := hv
  have C := CX.start (own := RX11) B hml rfl gi hv
  have hP := hv.1
  have hS : va_S (Af 1 g) s.heap s.heap [] := va_S.rf
  have hl := lv_entry ([.ref (g.2.1 (138 + 0)), .int a1, .int a2]) (n := 3) (Nat.le_of_ble_eq_true rfl)
  rw [lg_entry_eq]
  generalize (lg_sl ([.ref (g.2.1 (138 + 0)), .int a1, .int a2]) ++ List.replicate (3 - (lg_sl ([.ref (g.2.1 (138 + 0)), .int a1, .int a2])).length) Slot.unset).toArray = ls at hl ⊢
  have hl : lv_has ls 3 [(0, .ref (g.2.1 (138 + 0))), (1, .int a1), (2, .int a2)] := hl
  unfold p_X11_birdOf at hw
  refine lv_aload_n C.1 C.2.1 dX11_birdOf_0 rfl (lv_at hl 0 rfl) ?_
  refine gX11_20 C hP Nat.zero_lt_one dX11_birdOf_1 ?_
  refine lv_bipush (v := 14) C.1 C.2.1 dX11_birdOf_4 (by decide) ?_
  refine lv_iload_n C.1 C.2.1 dX11_birdOf_6 rfl (lv_at hl 1 rfl) ?_
  refine lv_imul C.1 C.2.1 dX11_birdOf_7 ?_
  refine lv_iload_n C.1 C.2.1 dX11_birdOf_8 rfl (lv_at hl 2 rfl) ?_
  refine lv_iadd C.1 C.2.1 dX11_birdOf_9 ?_
  obtain ⟨h1, hw⟩ := hw
  refine al_43 C hP Nat.zero_lt_one h1 dX11_birdOf_10 ?_
  exact retI (wf := (yw g)) C hP hS hw dX11_birdOf_11
def p_X11_readOf (a1 : Int32) (a2 : Int32) (M : Mem) (Q : Int32 → Mem → Prop) : Prop := (vp_in (((70 : Int32) + ((14 : Int32) * a1)) + a2) 140 ∧ (Q (M.1 43 0 ((((70 : Int32) + ((14 : Int32) * a1)) + a2) : Int32).toNatClampNeg) M))
set_option maxRecDepth 100000 in
set_option maxHeartbeats 4000000 in
theorem c_X11_readOf (l : Launch) (g : Geo) (gi : GI g) (a1 : Int32) (a2 : Int32) (M : Mem) (Q : Int32 → Mem → Prop) (hw : p_X11_readOf a1 a2 M Q) : Met l yX11_readOf (Cond.code yX11_readOf cX11_readOf 3 (some .int) :: bg) ({ frames := 0, cells := 0, slots := 0, locals := 0 } : Room) (va_Pc [.ref (g.2.1 (138 + 0)), .int a1, .int a2] (PW g (yw g M))) (va_Qi Q (PB g (yw g)) (Af 1 g)) 0 0 (Af 1 g) := by
  refine Met.ofW (cc := cX11_readOf) (maxL := 3) (ret := (some .int)) (by decide +kernel) rfl ?_
  intro p e s m args below meth c s₁ B hml hv
  obtain ⟨rfl, hv⟩ := hv
  have C := CX.start (own := RX11) B hml rfl gi hv
  have hP := hv.1
  have hS : va_S (Af 1 g) s.heap s.heap [] := va_S.rf
  have hl := lv_entry ([.ref (g.2.1 (138 + 0)), .int a1, .int a2]) (n := 3) (Nat.le_of_ble_eq_true rfl)
  rw [lg_entry_eq]
  generalize (lg_sl ([.ref (g.2.1 (138 + 0)), .int a1, .int a2]) ++ List.replicate (3 - (lg_sl ([.ref (g.2.1 (138 + 0)), .int a1, .int a2])).length) Slot.unset).toArray = ls at hl ⊢
  have hl : lv_has ls 3 [(0, .ref (g.2.1 (138 + 0))), (1, .int a1), (2, .int a2)] := hl
  unfold p_X11_readOf at hw
  refine lv_aload_n C.1 C.2.1 dX11_readOf_0 rfl (lv_at hl 0 rfl) ?_
  refine gX11_20 C hP Nat.zero_lt_one dX11_readOf_1 ?_
  refine lv_bipush (v := 70) C.1 C.2.1 dX11_readOf_4 (by decide) ?_
  refine lv_bipush (v := 14) C.1 C.2.1 dX11_readOf_6 (by decide) ?_
  refine lv_iload_n C.1 C.2.1 dX11_readOf_8 rfl (lv_at hl 1 rfl) ?_
  refine lv_imul C.1 C.2.1 dX11_readOf_9 ?_
  refine lv_iadd C.1 C.2.1 dX11_readOf_10 ?_
  refine lv_iload_n C.1 C.2.1 dX11_readOf_11 rfl (lv_at hl 2 rfl) ?_
  refine lv_iadd C.1 C.2.1 dX11_readOf_12 ?_
  obtain ⟨h1, hw⟩ := hw
  refine al_43 C hP Nat.zero_lt_one h1 dX11_readOf_13 ?_
  exact retI (wf := (yw g)) C hP hS hw dX11_readOf_14
def p_X11_read (a1 : Int32) (a2 : Int32) (a3 : Int32) (M : Mem) (Q : Mem → Prop) : Prop := (vp_in (((70 : Int32) + ((14 : Int32) * a1)) + a2) 140 ∧ (∀ M1 : Mem, M1 = sI M 43 0 ((((70 : Int32) + ((14 : Int32) * a1)) + a2) : Int32).toNatClampNeg a3 → (Q M1)))
set_option maxRecDepth 100000 in
set_option maxHeartbeats 4000000 in
theorem c_X11_read (l : Launch) (g : Geo) (gi : GI g) (a1 : Int32) (a2 : Int32) (a3 : Int32) (M : Mem) (Q : Mem → Prop) (hw : p_X11_read a1 a2 a3 M Q) : Met l yX11_read (Cond.code yX11_read cX11_read 4 none :: bg) ({ frames := 0, cells := 0, slots := 0, locals := 0 } : Room) (va_Pc [.ref (g.2.1 (138 + 0)), .int a1, .int a2, .int a3] (PW g (yw g M))) (va_Qv Q (PB g (yw g)) (Af 1 g)) 0 0 (Af 1 g) := by
  refine Met.ofW (cc := cX11_read) (maxL := 4) (ret := none) (by decide +kernel) rfl ?_
  intro p e s m args below meth c s₁ B hml hv
  obtain ⟨rfl, hv⟩ := hv
  have C := CX.start (own := RX11) B hml rfl gi hv
  have hP := hv.1
  have hS : va_S (Af 1 g) s.heap s.heap [] := va_S.rf
  have hl := lv_entry ([.ref (g.2.1 (138 + 0)), .int a1, .int a2, .int a3]) (n := 4) (Nat.le_of_ble_eq_true rfl)
  rw [lg_entry_eq]
  generalize (lg_sl ([.ref (g.2.1 (138 + 0)), .int a1, .int a2, .int a3]) ++ List.replicate (4 - (lg_sl ([.ref (g.2.1 (138 + 0)), .int a1, .int a2, .int a3])).length) Slot.unset).toArray = ls at hl ⊢
  have hl : lv_has ls 4 [(0, .ref (g.2.1 (138 + 0))), (1, .int a1), (2, .int a2), (3, .int a3)] := hl
  unfold p_X11_read at hw
  refine lv_aload_n C.1 C.2.1 dX11_read_0 rfl (lv_at hl 0 rfl) ?_
  refine gX11_20 C hP Nat.zero_lt_one dX11_read_1 ?_
  refine lv_bipush (v := 70) C.1 C.2.1 dX11_read_4 (by decide) ?_
  refine lv_bipush (v := 14) C.1 C.2.1 dX11_read_6 (by decide) ?_
  refine lv_iload_n C.1 C.2.1 dX11_read_8 rfl (lv_at hl 1 rfl) ?_
  refine lv_imul C.1 C.2.1 dX11_read_9 ?_
  refine lv_iadd C.1 C.2.1 dX11_read_10 ?_
  refine lv_iload_n C.1 C.2.1 dX11_read_11 rfl (lv_at hl 2 rfl) ?_
  refine lv_iadd C.1 C.2.1 dX11_read_12 ?_
  refine lv_iload_n C.1 C.2.1 dX11_read_13 rfl (lv_at hl 3 rfl) ?_
  obtain ⟨h1, hw⟩ := hw
  refine as_43 C hP hS Nat.zero_lt_one h1 dX11_read_14 (fun M1 e1 H locs hP hS => ?_)
  have hw := hw M1 e1
  exact retV (wf := (yw g)) C hP hS hw dX11_read_15
def b_X11_nameAt_46 (Q : Int32 → Mem → Prop) (k19 : Int32 → Int32 → Int32 → Int32 → Mem → Prop) (v1 : Int32) (v2 : Int32) (v3 : Int32) (v4 : Int32) (s0 : Int32) (M : Mem) : Prop := ((¬ s0 = v1 → (∀ x6 : Int32, x6 = (v4 + 1) → (k19 v1 v2 v3 x6 M))) ∧ (s0 = v1 → (Q v4 M)))
set_option maxRecDepth 100000 in
set_option maxHeartbeats 4000000 in
theorem k_X11_nameAt_46 {p : Program} {l : Launch} {e : Env} {s : State} {m : MethodId} {args : Array Value} {below : List Frame} {meth : Method} {c : Code} {g : Geo} (C : CX g p s m args meth c cX11_nameAt 5 (some .int) RX11) {Q : Int32 → Mem → Prop} {k19 : Int32 → Int32 → Int32 → Int32 → Mem → Prop} (hk19 : ∀ (v1 : Int32) (v2 : Int32) (v3 : Int32) (v4 : Int32) (M : Mem), k19 v1 v2 v3 v4 M → ∀ (H : Heap) (locs : List Loc) (ls : Array Slot), lv_has ls 5 [(0, .ref (g.2.1 (138 + 0))), (1, .int v1), (2, .int v2), (3, .int v3), (4, .int v4)] → va_P g.1 clz (yw g M) H → va_S (Af 1 g) s.heap H locs → W p l e ({ frames := 1, cells := 0, slots := 0, locals := 22 } : Room) s m args below meth c H locs 0 0 (MQ below (va_Qi Q (PB g (yw g)) (Af 1 g)) args s 0 0 (Af 1 g)) (F0 m 19 ls [])) (v1 : Int32) (v2 : Int32) (v3 : Int32) (v4 : Int32) (s0 : Int32) (M : Mem) (hw : b_X11_nameAt_46 Q k19 v1 v2 v3 v4 s0 M) {H : Heap} {locs : List Loc} {ls : Array Slot} (hl : lv_has ls 5 [(0, .ref (g.2.1 (138 + 0))), (1, .int v1), (2, .int v2), (3, .int v3), (4, .int v4)]) (hP : va_P g.1 clz (yw g M) H) (hS : va_S (Af 1 g) s.heap H locs) : W p l e ({ frames := 1, cells := 0, slots := 0, locals := 22 } : Room) s m args below meth c H locs 0 0 (MQ below (va_Qi Q (PB g (yw g)) (Af 1 g)) args s 0 0 (Af 1 g)) (F0 m 46 ls [.int s0]) := by
  unfold b_X11_nameAt_46 at hw
  refine lv_iload_n C.1 C.2.1 dX11_nameAt_46 rfl (lv_at hl 1 rfl) ?_
  refine lv_icmp_ne (tgt := 53) C.1 C.2.1 dX11_nameAt_47 (by decide) (fun h5 => ?_) (fun h5 => ?_)
  · have hw := hw.1 h5
    obtain ⟨x6, e6⟩ : ∃ y : Int32, y = (v4 + 1) := ⟨_, rfl⟩
    have hw := hw x6 e6
    refine lv_iinc (v := x6) (lv' := [(4, .int x6), (0, .ref (g.2.1 (138 + 0))), (1, .int v1), (2, .int v2), (3, .int v3)]) C.1 C.2.1 dX11_nameAt_53 hl (k := 4) rfl (by rw [e6]; rfl) (by decide) rfl (fun ls hl => ?_)
    refine lv_goto (tgt := 19) C.1 C.2.1 dX11_nameAt_56 (by decide) ?_
    exact hk19 v1 v2 v3 x6  _ hw _ _ _ (lv_sub hl [1, 2, 3, 4, 0] rfl) hP hS
  · have hw := hw.2 h5
    refine lv_iload C.1 C.2.1 dX11_nameAt_50 (lv_at hl 4 rfl) ?_
    exact retI (wf := (yw g)) C hP hS hw dX11_nameAt_52
def b_X11_nameAt_19 (Q : Int32 → Mem → Prop) : Nat → Int32 → Int32 → Int32 → Int32 → Mem → Prop
  | 0, _, _, _, _, _ => False
  | n + 1, v1, v2, v3, v4, M => ((v3 ≤ v4 → (Q (-1) M)) ∧ (¬ v3 ≤ v4 → ((v2 = 0 → (p_X11_birdOf v4 0 M (fun r4 M4 => (b_X11_nameAt_46 Q (fun v1 v2 v3 v4 M => b_X11_nameAt_19 Q n v1 v2 v3 v4 M) v1 v2 v3 v4 r4 M4)))) ∧ (¬ v2 = 0 → (p_X11_readOf v4 0 M (fun r7 M7 => (b_X11_nameAt_46 Q (fun v1 v2 v3 v4 M => b_X11_nameAt_19 Q n v1 v2 v3 v4 M) v1 v2 v3 v4 r7 M7)))))))
set_option maxRecDepth 100000 in
set_option maxHeartbeats 4000000 in
theorem k_X11_nameAt_19 {p : Program} {l : Launch} {e : Env} {s : State} {m : MethodId} {args : Array Value} {below : List Frame} {meth : Method} {c : Code} {g : Geo} (C : CX g p s m args meth c cX11_nameAt 5 (some .int) RX11) {Q : Int32 → Mem → Prop} : ∀ (n : Nat) (v1 : Int32) (v2 : Int32) (v3 : Int32) (v4 : Int32) (M : Mem) (hw : b_X11_nameAt_19 Q n v1 v2 v3 v4 M) {H : Heap} {locs : List Loc} {ls : Array Slot} (hl : lv_has ls 5 [(0, .ref (g.2.1 (138 + 0))), (1, .int v1), (2, .int v2), (3, .int v3), (4, .int v4)]) (hP : va_P g.1 clz (yw g M) H) (hS : va_S (Af 1 g) s.heap H locs), W p l e ({ frames := 1, cells := 0, slots := 0, locals := 22 } : Room) s m args below meth c H locs 0 0 (MQ below (va_Qi Q (PB g (yw g)) (Af 1 g)) args s 0 0 (Af 1 g)) (F0 m 19 ls []) := by
  intro n
  induction n with
  | zero => intro v1 v2 v3 v4 M hw H locs ls hl hP hS; exact absurd hw (by rw [b_X11_nameAt_19]; exact fun h => h)
  | succ n ih =>
    intro v1 v2 v3 v4 M hw H locs ls hl hP hS
    rw [b_X11_nameAt_19] at hw
    refine lv_iload C.1 C.2.1 dX11_nameAt_19 (lv_at hl 4 rfl) ?_
    refine lv_iload_n C.1 C.2.1 dX11_nameAt_21 rfl (lv_at hl 3 rfl) ?_
    refine lv_icmp_ge (tgt := 59) C.1 C.2.1 dX11_nameAt_22 (by decide) (fun h2 => ?_) (fun h2 => ?_)
    · have hw := hw.1 h2
      refine lv_iconst (v := (-1)) C.1 C.2.1 dX11_nameAt_59 (by decide) ?_
      exact retI (wf := (yw g)) C hP hS hw dX11_nameAt_60
    · have hw := hw.2 h2
      refine lv_iload_n C.1 C.2.1 dX11_nameAt_25 rfl (lv_at hl 2 rfl) ?_
      refine lv_if_eq (tgt := 39) C.1 C.2.1 dX11_nameAt_26 (by decide) (fun h3 => ?_) (fun h3 => ?_)
      · have hw := hw.1 h3
        refine lv_aload_n C.1 C.2.1 dX11_nameAt_39 rfl (lv_at hl 0 rfl) ?_
        refine lv_iload C.1 C.2.1 dX11_nameAt_40 (lv_at hl 4 rfl) ?_
        refine lv_iconst (v := 0) C.1 C.2.1 dX11_nameAt_42 (by decide) ?_
        refine goI (wf := (yw g)) (runV (w := yw g M) (As := [.int v4, .int 0]) (rest := []) C lkX11_160 (c_X11_birdOf l g C.2.2.2.2.2.2.2.2.2.2 v4 0  M _ hw) hP hS rfl rfl ⟨Nat.le_of_ble_eq_true rfl, Nat.le_of_ble_eq_true rfl⟩ (xx_40 Nat.zero_lt_one) rfl rfl hl.1 rfl (Nat.le_of_ble_eq_true rfl) dX11_nameAt_43) hS (fun r4 M4 hw H locs hP hS => ?_)
        exact k_X11_nameAt_46 (Q := Q) C (fun v1 v2 v3 v4  M hw H locs ls hl hP hS => ih v1 v2 v3 v4  M hw hl hP hS) v1 v2 v3 v4 r4  _ hw (lv_sub hl [0, 1, 2, 3, 4] rfl) hP hS
      · have hw := hw.2 h3
        refine lv_aload_n C.1 C.2.1 dX11_nameAt_29 rfl (lv_at hl 0 rfl) ?_
        refine lv_iload C.1 C.2.1 dX11_nameAt_30 (lv_at hl 4 rfl) ?_
        refine lv_iconst (v := 0) C.1 C.2.1 dX11_nameAt_32 (by decide) ?_
        refine goI (wf := (yw g)) (runV (w := yw g M) (As := [.int v4, .int 0]) (rest := []) C lkX11_157 (c_X11_readOf l g C.2.2.2.2.2.2.2.2.2.2 v4 0  M _ hw) hP hS rfl rfl ⟨Nat.le_of_ble_eq_true rfl, Nat.le_of_ble_eq_true rfl⟩ (xx_40 Nat.zero_lt_one) rfl rfl hl.1 rfl (Nat.le_of_ble_eq_true rfl) dX11_nameAt_33) hS (fun r7 M7 hw H locs hP hS => ?_)
        refine lv_goto (tgt := 46) C.1 C.2.1 dX11_nameAt_36 (by decide) ?_
        exact k_X11_nameAt_46 (Q := Q) C (fun v1 v2 v3 v4  M hw H locs ls hl hP hS => ih v1 v2 v3 v4  M hw hl hP hS) v1 v2 v3 v4 r7  _ hw (lv_sub hl [0, 1, 2, 3, 4] rfl) hP hS
def b_X11_nameAt_15 (Q : Int32 → Mem → Prop) (v1 : Int32) (v2 : Int32) (s0 : Int32) (M : Mem) : Prop := (∃ n19 : Nat, b_X11_nameAt_19 Q n19 v1 v2 s0 0 M)
set_option maxRecDepth 100000 in
set_option maxHeartbeats 4000000 in
theorem k_X11_nameAt_15 {p : Program} {l : Launch} {e : Env} {s : State} {m : MethodId} {args : Array Value} {below : List Frame} {meth : Method} {c : Code} {g : Geo} (C : CX g p s m args meth c cX11_nameAt 5 (some .int) RX11) {Q : Int32 → Mem → Prop} (v1 : Int32) (v2 : Int32) (s0 : Int32) (M : Mem) (hw : b_X11_nameAt_15 Q v1 v2 s0 M) {H : Heap} {locs : List Loc} {ls : Array Slot} (hl : lv_has ls 5 [(0, .ref (g.2.1 (138 + 0))), (1, .int v1), (2, .int v2)]) (hP : va_P g.1 clz (yw g M) H) (hS : va_S (Af 1 g) s.heap H locs) : W p l e ({ frames := 1, cells := 0, slots := 0, locals := 22 } : Room) s m args below meth c H locs 0 0 (MQ below (va_Qi Q (PB g (yw g)) (Af 1 g)) args s 0 0 (Af 1 g)) (F0 m 15 ls [.int s0]) := by
  unfold b_X11_nameAt_15 at hw
  refine lv_istore_n (lv' := [(3, .int s0), (0, .ref (g.2.1 (138 + 0))), (1, .int v1), (2, .int v2)]) C.1 C.2.1 dX11_nameAt_15 rfl hl (by decide) rfl (fun ls hl => ?_)
  refine lv_iconst (v := 0) C.1 C.2.1 dX11_nameAt_16 (by decide) ?_
  refine lv_istore (lv' := [(4, .int 0), (3, .int s0), (0, .ref (g.2.1 (138 + 0))), (1, .int v1), (2, .int v2)]) C.1 C.2.1 dX11_nameAt_17 hl (by decide) rfl (fun ls hl => ?_)
  obtain ⟨n9, hw⟩ := hw
  exact k_X11_nameAt_19 (Q := Q) C n9 v1 v2 s0 0  _ hw (lv_sub hl [2, 3, 4, 1, 0] rfl) hP hS
def p_X11_nameAt (a1 : Int32) (a2 : Int32) (M : Mem) (Q : Int32 → Mem → Prop) : Prop := ((a2 = 0 → (b_X11_nameAt_15 Q a1 a2 ((M.1 40 0 11)) M)) ∧ (¬ a2 = 0 → (b_X11_nameAt_15 Q a1 a2 ((M.1 40 0 12)) M)))
set_option maxRecDepth 100000 in
set_option maxHeartbeats 4000000 in
theorem c_X11_nameAt (l : Launch) (g : Geo) (gi : GI g) (a1 : Int32) (a2 : Int32) (M : Mem) (Q : Int32 → Mem → Prop) (hw : p_X11_nameAt a1 a2 M Q) : Met l yX11_nameAt (Cond.code yX11_nameAt cX11_nameAt 5 (some .int) :: bg) ({ frames := 1, cells := 0, slots := 0, locals := 22 } : Room) (va_Pc [.ref (g.2.1 (138 + 0)), .int a1, .int a2] (PW g (yw g M))) (va_Qi Q (PB g (yw g)) (Af 1 g)) 0 0 (Af 1 g) := by
  refine Met.ofW (cc := cX11_nameAt) (maxL := 5) (ret := (some .int)) (by decide +kernel) rfl ?_
  intro p e s m args below meth c s₁ B hml hv
  obtain ⟨rfl, hv⟩ := hv
  have C := CX.start (own := RX11) B hml rfl gi hv
  have hP := hv.1
  have hS : va_S (Af 1 g) s.heap s.heap [] := va_S.rf
  have hl := lv_entry ([.ref (g.2.1 (138 + 0)), .int a1, .int a2]) (n := 5) (Nat.le_of_ble_eq_true rfl)
  rw [lg_entry_eq]
  generalize (lg_sl ([.ref (g.2.1 (138 + 0)), .int a1, .int a2]) ++ List.replicate (5 - (lg_sl ([.ref (g.2.1 (138 + 0)), .int a1, .int a2])).length) Slot.unset).toArray = ls at hl ⊢
  have hl : lv_has ls 5 [(0, .ref (g.2.1 (138 + 0))), (1, .int a1), (2, .int a2)] := hl
  unfold p_X11_nameAt at hw
  refine lv_iload_n C.1 C.2.1 dX11_nameAt_0 rfl (lv_at hl 2 rfl) ?_
  refine lv_if_eq (tgt := 11) C.1 C.2.1 dX11_nameAt_1 (by decide) (fun h1 => ?_) (fun h1 => ?_)
  · have hw := hw.1 h1
    refine lv_aload_n C.1 C.2.1 dX11_nameAt_11 rfl (lv_at hl 0 rfl) ?_
    refine gX11_121 C hP Nat.zero_lt_one dX11_nameAt_12 ?_
    exact k_X11_nameAt_15 (Q := Q) C a1 a2 ((M.1 40 0 11))  _ hw (lv_sub hl [0, 1, 2] rfl) hP hS
  · have hw := hw.2 h1
    refine lv_aload_n C.1 C.2.1 dX11_nameAt_4 rfl (lv_at hl 0 rfl) ?_
    refine gX11_115 C hP Nat.zero_lt_one dX11_nameAt_5 ?_
    refine lv_goto (tgt := 15) C.1 C.2.1 dX11_nameAt_8 (by decide) ?_
    exact k_X11_nameAt_15 (Q := Q) C a1 a2 ((M.1 40 0 12))  _ hw (lv_sub hl [0, 1, 2] rfl) hP hS
def p_X11_number (a1 : Int32) (a2 : Int32) (M : Mem) (Q : Int32 → Mem → Prop) : Prop := (((M.1 40 0 8) = 3 → (p_X11_isIn ((M.1 40 0 9)) a1 a2 M (fun r2 M2 => ((¬ r2 = 0 → (∀ M4 : Mem, M4 = sI M2 40 0 19 (M2.1 40 0 9) → (p_X11_token  M4 (fun M5 => (Q 1 M5))))) ∧ (r2 = 0 → (p_X11_wrong 2 M2 (fun r6 M6 => (Q r6 M6)))))))) ∧ (¬ (M.1 40 0 8) = 3 → (p_X11_wrong 1 M (fun r7 M7 => (Q r7 M7)))))
set_option maxRecDepth 100000 in
set_option maxHeartbeats 4000000 in
theorem c_X11_number (l : Launch) (g : Geo) (gi : GI g) (a1 : Int32) (a2 : Int32) (M : Mem) (Q : Int32 → Mem → Prop) (hw : p_X11_number a1 a2 M Q) : Met l yX11_number (Cond.code yX11_number cX11_number 3 (some .boolean) :: bg) ({ frames := 2, cells := 0, slots := 0, locals := 47 } : Room) (va_Pc [.ref (g.2.1 (138 + 0)), .int a1, .int a2] (PW g (yw g M))) (va_Qi (fun r M => Q r M ∧ narrow .boolean (.int r) = .int r) (PB g (yw g)) (Af 1 g)) 0 0 (Af 1 g) := by
  refine Met.ofW (cc := cX11_number) (maxL := 3) (ret := (some .boolean)) (by decide +kernel) rfl ?_
  intro p e s m args below meth c s₁ B hml hv
  obtain ⟨rfl, hv⟩ := hv
  have C := CX.start (own := RX11) B hml rfl gi hv
  have hP := hv.1
  have hS : va_S (Af 1 g) s.heap s.heap [] := va_S.rf
  have hl := lv_entry ([.ref (g.2.1 (138 + 0)), .int a1, .int a2]) (n := 3) (Nat.le_of_ble_eq_true rfl)
  rw [lg_entry_eq]
  generalize (lg_sl ([.ref (g.2.1 (138 + 0)), .int a1, .int a2]) ++ List.replicate (3 - (lg_sl ([.ref (g.2.1 (138 + 0)), .int a1, .int a2])).length) Slot.unset).toArray = ls at hl ⊢
  have hl : lv_has ls 3 [(0, .ref (g.2.1 (138 + 0))), (1, .int a1), (2, .int a2)] := hl
  unfold p_X11_number at hw
  refine lv_aload_n C.1 C.2.1 dX11_number_0 rfl (lv_at hl 0 rfl) ?_
  refine gX11_94 C hP Nat.zero_lt_one dX11_number_1 ?_
  refine lv_iconst (v := 3) C.1 C.2.1 dX11_number_4 (by decide) ?_
  refine lv_icmp_eq (tgt := 14) C.1 C.2.1 dX11_number_5 (by decide) (fun h1 => ?_) (fun h1 => ?_)
  · have hw := hw.1 h1
    refine lv_aload_n C.1 C.2.1 dX11_number_14 rfl (lv_at hl 0 rfl) ?_
    refine gX11_105 C hP Nat.zero_lt_one dX11_number_15 ?_
    refine lv_iload_n C.1 C.2.1 dX11_number_18 rfl (lv_at hl 1 rfl) ?_
    refine lv_iload_n C.1 C.2.1 dX11_number_19 rfl (lv_at hl 2 rfl) ?_
    refine goI (wf := (yw g)) (runS (w := yw g M) (As := [.int (M.1 40 0 9), .int a1, .int a2]) (rest := []) C lkX11_166 (c_X11_isIn l g C.2.2.2.2.2.2.2.2.2.2 ((M.1 40 0 9)) a1 a2  M _ hw) hP hS rfl rfl ⟨Nat.le_of_ble_eq_true rfl, Nat.le_of_ble_eq_true rfl⟩ hl.1 rfl (Nat.le_of_ble_eq_true rfl) dX11_number_20) hS (fun r2 M2 hw H locs hP hS => ?_)
    obtain ⟨hw, hz2⟩ := hw
    refine lv_if_ne (tgt := 32) C.1 C.2.1 dX11_number_23 (by decide) (fun h3 => ?_) (fun h3 => ?_)
    · have hw := hw.1 h3
      refine lv_aload_n C.1 C.2.1 dX11_number_32 rfl (lv_at hl 0 rfl) ?_
      refine lv_aload_n C.1 C.2.1 dX11_number_33 rfl (lv_at hl 0 rfl) ?_
      refine gX11_105 C hP Nat.zero_lt_one dX11_number_34 ?_
      refine pX11_170 C hP hS Nat.zero_lt_one dX11_number_37 (fun M4 e4 H locs hP hS => ?_)
      have hw := hw M4 e4
      refine lv_aload_n C.1 C.2.1 dX11_number_40 rfl (lv_at hl 0 rfl) ?_
      refine goV (wf := (yw g)) (runV (w := yw g M4) (As := []) (rest := []) C lkX11_173 (c_X11_token l g C.2.2.2.2.2.2.2.2.2.2   M4 _ hw) hP hS rfl rfl ⟨Nat.le_of_ble_eq_true rfl, Nat.le_of_ble_eq_true rfl⟩ (xx_40 Nat.zero_lt_one) rfl rfl hl.1 rfl (Nat.le_of_ble_eq_true rfl) dX11_number_41) hS (fun M5 hw H locs hP hS => ?_)
      refine lv_iconst (v := 1) C.1 C.2.1 dX11_number_44 (by decide) ?_
      exact retZ (wf := (yw g)) C hP hS rfl hw dX11_number_45
    · have hw := hw.2 h3
      refine lv_aload_n C.1 C.2.1 dX11_number_26 rfl (lv_at hl 0 rfl) ?_
      refine lv_iconst (v := 2) C.1 C.2.1 dX11_number_27 (by decide) ?_
      refine goI (wf := (yw g)) (runV (w := yw g M2) (As := [.int 2]) (rest := []) C lkX11_163 (c_X11_wrong l g C.2.2.2.2.2.2.2.2.2.2 2  M2 _ hw) hP hS rfl rfl ⟨Nat.le_of_ble_eq_true rfl, Nat.le_of_ble_eq_true rfl⟩ (xx_40 Nat.zero_lt_one) rfl rfl hl.1 rfl (Nat.le_of_ble_eq_true rfl) dX11_number_28) hS (fun r6 M6 hw H locs hP hS => ?_)
      obtain ⟨hw, hz6⟩ := hw
      exact retZ (wf := (yw g)) C hP hS hz6 hw dX11_number_31
  · have hw := hw.2 h1
    refine lv_aload_n C.1 C.2.1 dX11_number_8 rfl (lv_at hl 0 rfl) ?_
    refine lv_iconst (v := 1) C.1 C.2.1 dX11_number_9 (by decide) ?_
    refine goI (wf := (yw g)) (runV (w := yw g M) (As := [.int 1]) (rest := []) C lkX11_163 (c_X11_wrong l g C.2.2.2.2.2.2.2.2.2.2 1  M _ hw) hP hS rfl rfl ⟨Nat.le_of_ble_eq_true rfl, Nat.le_of_ble_eq_true rfl⟩ (xx_40 Nat.zero_lt_one) rfl rfl hl.1 rfl (Nat.le_of_ble_eq_true rfl) dX11_number_10) hS (fun r7 M7 hw H locs hP hS => ?_)
    obtain ⟨hw, hz7⟩ := hw
    exact retZ (wf := (yw g)) C hP hS hz7 hw dX11_number_13
def b_X11_birdRead_66 (Q : Int32 → Mem → Prop) (M : Mem) : Prop := (p_X11_token  M (fun M7 => (Q 1 M7)))
set_option maxRecDepth 100000 in
set_option maxHeartbeats 4000000 in
theorem k_X11_birdRead_66 {p : Program} {l : Launch} {e : Env} {s : State} {m : MethodId} {args : Array Value} {below : List Frame} {meth : Method} {c : Code} {g : Geo} (C : CX g p s m args meth c cX11_birdRead 2 (some .boolean) RX11) {Q : Int32 → Mem → Prop} (M : Mem) (hw : b_X11_birdRead_66 Q M) {H : Heap} {locs : List Loc} {ls : Array Slot} (hl : lv_has ls 2 [(0, .ref (g.2.1 (138 + 0)))]) (hP : va_P g.1 clz (yw g M) H) (hS : va_S (Af 1 g) s.heap H locs) : W p l e ({ frames := 2, cells := 0, slots := 0, locals := 47 } : Room) s m args below meth c H locs 0 0 (MQ below (va_Qi (fun r M => Q r M ∧ narrow .boolean (.int r) = .int r) (PB g (yw g)) (Af 1 g)) args s 0 0 (Af 1 g)) (F0 m 66 ls []) := by
  unfold b_X11_birdRead_66 at hw
  refine lv_aload_n C.1 C.2.1 dX11_birdRead_66 rfl (lv_at hl 0 rfl) ?_
  refine goV (wf := (yw g)) (runV (w := yw g M) (As := []) (rest := []) C lkX11_173 (c_X11_token l g C.2.2.2.2.2.2.2.2.2.2   M _ hw) hP hS rfl rfl ⟨Nat.le_of_ble_eq_true rfl, Nat.le_of_ble_eq_true rfl⟩ (xx_40 Nat.zero_lt_one) rfl rfl hl.1 rfl (Nat.le_of_ble_eq_true rfl) dX11_birdRead_67) hS (fun M7 hw H locs hP hS => ?_)
  refine lv_iconst (v := 1) C.1 C.2.1 dX11_birdRead_70 (by decide) ?_
  exact retZ (wf := (yw g)) C hP hS rfl hw dX11_birdRead_71
def p_X11_birdRead (a1 : Int32) (M : Mem) (Q : Int32 → Mem → Prop) : Prop := (p_X11_token  M (fun M1 => (((M1.1 40 0 8) = 2 → (p_X11_nameAt ((M1.1 40 0 9)) 1 M1 (fun r3 M3 => (∀ M4 : Mem, M4 = sI M3 40 0 19 r3 → ((0 ≤ (M4.1 40 0 19) → ((a1 < 0 → (b_X11_birdRead_66 Q  M4)) ∧ (¬ a1 < 0 → (p_X11_readOf ((M4.1 40 0 19)) a1 M4 (fun r8 M8 => ((r8 ≤ 0 → (b_X11_birdRead_66 Q  M8)) ∧ (¬ r8 ≤ 0 → (p_X11_wrong 3 M8 (fun r10 M10 => (Q r10 M10)))))))))) ∧ (¬ 0 ≤ (M4.1 40 0 19) → (p_X11_wrong 4 M4 (fun r11 M11 => (Q r11 M11))))))))) ∧ (¬ (M1.1 40 0 8) = 2 → (p_X11_wrong 1 M1 (fun r12 M12 => (Q r12 M12)))))))
set_option maxRecDepth 100000 in
set_option maxHeartbeats 4000000 in
theorem c_X11_birdRead (l : Launch) (g : Geo) (gi : GI g) (a1 : Int32) (M : Mem) (Q : Int32 → Mem → Prop) (hw : p_X11_birdRead a1 M Q) : Met l yX11_birdRead (Cond.code yX11_birdRead cX11_birdRead 2 (some .boolean) :: bg) ({ frames := 2, cells := 0, slots := 0, locals := 47 } : Room) (va_Pc [.ref (g.2.1 (138 + 0)), .int a1] (PW g (yw g M))) (va_Qi (fun r M => Q r M ∧ narrow .boolean (.int r) = .int r) (PB g (yw g)) (Af 1 g)) 0 0 (Af 1 g) := by
  refine Met.ofW (cc := cX11_birdRead) (maxL := 2) (ret := (some .boolean)) (by decide +kernel) rfl ?_
  intro p e s m args below meth c s₁ B hml hv
  obtain ⟨rfl, hv⟩ := hv
  have C := CX.start (own := RX11) B hml rfl gi hv
  have hP := hv.1
  have hS : va_S (Af 1 g) s.heap s.heap [] := va_S.rf
  have hl := lv_entry ([.ref (g.2.1 (138 + 0)), .int a1]) (n := 2) (Nat.le_of_ble_eq_true rfl)
  rw [lg_entry_eq]
  generalize (lg_sl ([.ref (g.2.1 (138 + 0)), .int a1]) ++ List.replicate (2 - (lg_sl ([.ref (g.2.1 (138 + 0)), .int a1])).length) Slot.unset).toArray = ls at hl ⊢
  have hl : lv_has ls 2 [(0, .ref (g.2.1 (138 + 0))), (1, .int a1)] := hl
  unfold p_X11_birdRead at hw
  refine lv_aload_n C.1 C.2.1 dX11_birdRead_0 rfl (lv_at hl 0 rfl) ?_
  refine goV (wf := (yw g)) (runV (w := yw g M) (As := []) (rest := []) C lkX11_173 (c_X11_token l g C.2.2.2.2.2.2.2.2.2.2   M _ hw) hP hS rfl rfl ⟨Nat.le_of_ble_eq_true rfl, Nat.le_of_ble_eq_true rfl⟩ (xx_40 Nat.zero_lt_one) rfl rfl hl.1 rfl (Nat.le_of_ble_eq_true rfl) dX11_birdRead_1) hS (fun M1 hw H locs hP hS => ?_)
  refine lv_aload_n C.1 C.2.1 dX11_birdRead_4 rfl (lv_at hl 0 rfl) ?_
  refine gX11_94 C hP Nat.zero_lt_one dX11_birdRead_5 ?_
  refine lv_iconst (v := 2) C.1 C.2.1 dX11_birdRead_8 (by decide) ?_
  refine lv_icmp_eq (tgt := 18) C.1 C.2.1 dX11_birdRead_9 (by decide) (fun h2 => ?_) (fun h2 => ?_)
  · have hw := hw.1 h2
    refine lv_aload_n C.1 C.2.1 dX11_birdRead_18 rfl (lv_at hl 0 rfl) ?_
    refine lv_aload_n C.1 C.2.1 dX11_birdRead_19 rfl (lv_at hl 0 rfl) ?_
    refine lv_aload_n C.1 C.2.1 dX11_birdRead_20 rfl (lv_at hl 0 rfl) ?_
    refine gX11_105 C hP Nat.zero_lt_one dX11_birdRead_21 ?_
    refine lv_iconst (v := 1) C.1 C.2.1 dX11_birdRead_24 (by decide) ?_
    refine goI (wf := (yw g)) (runV (w := yw g M1) (As := [.int (M1.1 40 0 9), .int 1]) (rest := [.ref (g.2.1 (138 + 0))]) C lkX11_176 (c_X11_nameAt l g C.2.2.2.2.2.2.2.2.2.2 ((M1.1 40 0 9)) 1  M1 _ hw) hP hS rfl rfl ⟨Nat.le_of_ble_eq_true rfl, Nat.le_of_ble_eq_true rfl⟩ (xx_40 Nat.zero_lt_one) rfl rfl hl.1 rfl (Nat.le_of_ble_eq_true rfl) dX11_birdRead_25) hS (fun r3 M3 hw H locs hP hS => ?_)
    refine pX11_170 C hP hS Nat.zero_lt_one dX11_birdRead_28 (fun M4 e4 H locs hP hS => ?_)
    have hw := hw M4 e4
    refine lv_aload_n C.1 C.2.1 dX11_birdRead_31 rfl (lv_at hl 0 rfl) ?_
    refine gX11_170 C hP Nat.zero_lt_one dX11_birdRead_32 ?_
    refine lv_if_ge (tgt := 44) C.1 C.2.1 dX11_birdRead_35 (by decide) (fun h5 => ?_) (fun h5 => ?_)
    · have hw := hw.1 h5
      refine lv_iload_n C.1 C.2.1 dX11_birdRead_44 rfl (lv_at hl 1 rfl) ?_
      refine lv_if_lt (tgt := 66) C.1 C.2.1 dX11_birdRead_45 (by decide) (fun h6 => ?_) (fun h6 => ?_)
      · have hw := hw.1 h6
        exact k_X11_birdRead_66 (Q := Q) C   _ hw (lv_sub hl [0] rfl) hP hS
      · have hw := hw.2 h6
        refine lv_aload_n C.1 C.2.1 dX11_birdRead_48 rfl (lv_at hl 0 rfl) ?_
        refine lv_aload_n C.1 C.2.1 dX11_birdRead_49 rfl (lv_at hl 0 rfl) ?_
        refine gX11_170 C hP Nat.zero_lt_one dX11_birdRead_50 ?_
        refine lv_iload_n C.1 C.2.1 dX11_birdRead_53 rfl (lv_at hl 1 rfl) ?_
        refine goI (wf := (yw g)) (runV (w := yw g M4) (As := [.int (M4.1 40 0 19), .int a1]) (rest := []) C lkX11_157 (c_X11_readOf l g C.2.2.2.2.2.2.2.2.2.2 ((M4.1 40 0 19)) a1  M4 _ hw) hP hS rfl rfl ⟨Nat.le_of_ble_eq_true rfl, Nat.le_of_ble_eq_true rfl⟩ (xx_40 Nat.zero_lt_one) rfl rfl hl.1 rfl (Nat.le_of_ble_eq_true rfl) dX11_birdRead_54) hS (fun r8 M8 hw H locs hP hS => ?_)
        refine lv_if_le (tgt := 66) C.1 C.2.1 dX11_birdRead_57 (by decide) (fun h9 => ?_) (fun h9 => ?_)
        · have hw := hw.1 h9
          exact k_X11_birdRead_66 (Q := Q) C   _ hw (lv_sub hl [0] rfl) hP hS
        · have hw := hw.2 h9
          refine lv_aload_n C.1 C.2.1 dX11_birdRead_60 rfl (lv_at hl 0 rfl) ?_
          refine lv_iconst (v := 3) C.1 C.2.1 dX11_birdRead_61 (by decide) ?_
          refine goI (wf := (yw g)) (runV (w := yw g M8) (As := [.int 3]) (rest := []) C lkX11_163 (c_X11_wrong l g C.2.2.2.2.2.2.2.2.2.2 3  M8 _ hw) hP hS rfl rfl ⟨Nat.le_of_ble_eq_true rfl, Nat.le_of_ble_eq_true rfl⟩ (xx_40 Nat.zero_lt_one) rfl rfl hl.1 rfl (Nat.le_of_ble_eq_true rfl) dX11_birdRead_62) hS (fun r10 M10 hw H locs hP hS => ?_)
          obtain ⟨hw, hz10⟩ := hw
          exact retZ (wf := (yw g)) C hP hS hz10 hw dX11_birdRead_65
    · have hw := hw.2 h5
      refine lv_aload_n C.1 C.2.1 dX11_birdRead_38 rfl (lv_at hl 0 rfl) ?_
      refine lv_iconst (v := 4) C.1 C.2.1 dX11_birdRead_39 (by decide) ?_
      refine goI (wf := (yw g)) (runV (w := yw g M4) (As := [.int 4]) (rest := []) C lkX11_163 (c_X11_wrong l g C.2.2.2.2.2.2.2.2.2.2 4  M4 _ hw) hP hS rfl rfl ⟨Nat.le_of_ble_eq_true rfl, Nat.le_of_ble_eq_true rfl⟩ (xx_40 Nat.zero_lt_one) rfl rfl hl.1 rfl (Nat.le_of_ble_eq_true rfl) dX11_birdRead_40) hS (fun r11 M11 hw H locs hP hS => ?_)
      obtain ⟨hw, hz11⟩ := hw
      exact retZ (wf := (yw g)) C hP hS hz11 hw dX11_birdRead_43
  · have hw := hw.2 h2
    refine lv_aload_n C.1 C.2.1 dX11_birdRead_12 rfl (lv_at hl 0 rfl) ?_
    refine lv_iconst (v := 1) C.1 C.2.1 dX11_birdRead_13 (by decide) ?_
    refine goI (wf := (yw g)) (runV (w := yw g M1) (As := [.int 1]) (rest := []) C lkX11_163 (c_X11_wrong l g C.2.2.2.2.2.2.2.2.2.2 1  M1 _ hw) hP hS rfl rfl ⟨Nat.le_of_ble_eq_true rfl, Nat.le_of_ble_eq_true rfl⟩ (xx_40 Nat.zero_lt_one) rfl rfl hl.1 rfl (Nat.le_of_ble_eq_true rfl) dX11_birdRead_14) hS (fun r12 M12 hw H locs hP hS => ?_)
    obtain ⟨hw, hz12⟩ := hw
    exact retZ (wf := (yw g)) C hP hS hz12 hw dX11_birdRead_17
