def b_X11_birdLine_74 (Q : Int32 → Mem → Prop) (M : Mem) : Prop := (p_X11_read ((M.1 40 0 12)) 0 ((M.1 40 0 9)) M (fun M7 => (p_X11_token  M7 (fun M8 => (p_X11_number 0 30 M8 (fun r9 M9 => ((¬ r9 = 0 → (p_X11_read ((M9.1 40 0 12)) 1 ((M9.1 40 0 19)) M9 (fun M11 => (∀ M12 : Mem, M12 = sI M11 40 0 12 ((M11.1 40 0 12) + 1) → (Q 1 M12))))) ∧ (r9 = 0 → (Q 0 M9)))))))))
set_option maxRecDepth 100000 in
set_option maxHeartbeats 4000000 in
theorem k_X11_birdLine_74 {p : Program} {l : Launch} {e : Env} {s : State} {m : MethodId} {args : Array Value} {below : List Frame} {meth : Method} {c : Code} {g : Geo} (C : CX g p s m args meth c cX11_birdLine 2 (some .boolean) RX11) {Q : Int32 → Mem → Prop} (M : Mem) (hw : b_X11_birdLine_74 Q M) {H : Heap} {locs : List Loc} {ls : Array Slot} (hl : lv_has ls 2 [(0, .ref (g.2.1 (138 + 0)))]) (hP : va_P g.1 clz (yw g M) H) (hS : va_S (Af 1 g) s.heap H locs) : W p l e ({ frames := 3, cells := 0, slots := 0, locals := 69 } : Room) s m args below meth c H locs 0 0 (MQ below (va_Qi (fun r M => Q r M ∧ narrow .boolean (.int r) = .int r) (PB g (yw g)) (Af 1 g)) args s 0 0 (Af 1 g)) (F0 m 74 ls []) := by
  unfold b_X11_birdLine_74 at hw
  refine lv_aload_n C.1 C.2.1 dX11_birdLine_74 rfl (lv_at hl 0 rfl) ?_
  refine lv_aload_n C.1 C.2.1 dX11_birdLine_75 rfl (lv_at hl 0 rfl) ?_
  refine gX11_115 C hP Nat.zero_lt_one dX11_birdLine_76 ?_
  refine lv_iconst (v := 0) C.1 C.2.1 dX11_birdLine_79 (by decide) ?_
  refine lv_aload_n C.1 C.2.1 dX11_birdLine_80 rfl (lv_at hl 0 rfl) ?_
  refine gX11_105 C hP Nat.zero_lt_one dX11_birdLine_81 ?_
  refine goV (wf := (yw g)) (runV (w := yw g M) (As := [.int (M.1 40 0 12), .int 0, .int (M.1 40 0 9)]) (rest := []) C lkX11_180 (c_X11_read l g C.2.2.2.2.2.2.2.2.2.2 ((M.1 40 0 12)) 0 ((M.1 40 0 9))  M _ hw) hP hS rfl rfl ⟨Nat.le_of_ble_eq_true rfl, Nat.le_of_ble_eq_true rfl⟩ (xx_40 Nat.zero_lt_one) rfl rfl hl.1 rfl (Nat.le_of_ble_eq_true rfl) dX11_birdLine_84) hS (fun M7 hw H locs hP hS => ?_)
  refine lv_aload_n C.1 C.2.1 dX11_birdLine_87 rfl (lv_at hl 0 rfl) ?_
  refine goV (wf := (yw g)) (runV (w := yw g M7) (As := []) (rest := []) C lkX11_173 (c_X11_token l g C.2.2.2.2.2.2.2.2.2.2   M7 _ hw) hP hS rfl rfl ⟨Nat.le_of_ble_eq_true rfl, Nat.le_of_ble_eq_true rfl⟩ (xx_40 Nat.zero_lt_one) rfl rfl hl.1 rfl (Nat.le_of_ble_eq_true rfl) dX11_birdLine_88) hS (fun M8 hw H locs hP hS => ?_)
  refine lv_aload_n C.1 C.2.1 dX11_birdLine_91 rfl (lv_at hl 0 rfl) ?_
  refine lv_iconst (v := 0) C.1 C.2.1 dX11_birdLine_92 (by decide) ?_
  refine lv_bipush (v := 30) C.1 C.2.1 dX11_birdLine_93 (by decide) ?_
  refine goI (wf := (yw g)) (runV (w := yw g M8) (As := [.int 0, .int 30]) (rest := []) C lkX11_184 (c_X11_number l g C.2.2.2.2.2.2.2.2.2.2 0 30  M8 _ hw) hP hS rfl rfl ⟨Nat.le_of_ble_eq_true rfl, Nat.le_of_ble_eq_true rfl⟩ (xx_40 Nat.zero_lt_one) rfl rfl hl.1 rfl (Nat.le_of_ble_eq_true rfl) dX11_birdLine_95) hS (fun r9 M9 hw H locs hP hS => ?_)
  obtain ⟨hw, hz9⟩ := hw
  refine lv_if_ne (tgt := 103) C.1 C.2.1 dX11_birdLine_98 (by decide) (fun h10 => ?_) (fun h10 => ?_)
  · have hw := hw.1 h10
    refine lv_aload_n C.1 C.2.1 dX11_birdLine_103 rfl (lv_at hl 0 rfl) ?_
    refine lv_aload_n C.1 C.2.1 dX11_birdLine_104 rfl (lv_at hl 0 rfl) ?_
    refine gX11_115 C hP Nat.zero_lt_one dX11_birdLine_105 ?_
    refine lv_iconst (v := 1) C.1 C.2.1 dX11_birdLine_108 (by decide) ?_
    refine lv_aload_n C.1 C.2.1 dX11_birdLine_109 rfl (lv_at hl 0 rfl) ?_
    refine gX11_170 C hP Nat.zero_lt_one dX11_birdLine_110 ?_
    refine goV (wf := (yw g)) (runV (w := yw g M9) (As := [.int (M9.1 40 0 12), .int 1, .int (M9.1 40 0 19)]) (rest := []) C lkX11_180 (c_X11_read l g C.2.2.2.2.2.2.2.2.2.2 ((M9.1 40 0 12)) 1 ((M9.1 40 0 19))  M9 _ hw) hP hS rfl rfl ⟨Nat.le_of_ble_eq_true rfl, Nat.le_of_ble_eq_true rfl⟩ (xx_40 Nat.zero_lt_one) rfl rfl hl.1 rfl (Nat.le_of_ble_eq_true rfl) dX11_birdLine_113) hS (fun M11 hw H locs hP hS => ?_)
    refine lv_aload_n C.1 C.2.1 dX11_birdLine_116 rfl (lv_at hl 0 rfl) ?_
    refine lv_dup C.1 C.2.1 dX11_birdLine_117 rfl ?_
    refine gX11_115 C hP Nat.zero_lt_one dX11_birdLine_118 ?_
    refine lv_iconst (v := 1) C.1 C.2.1 dX11_birdLine_121 (by decide) ?_
    refine lv_iadd C.1 C.2.1 dX11_birdLine_122 ?_
    refine pX11_115 C hP hS Nat.zero_lt_one dX11_birdLine_123 (fun M12 e12 H locs hP hS => ?_)
    have hw := hw M12 e12
    refine lv_iconst (v := 1) C.1 C.2.1 dX11_birdLine_126 (by decide) ?_
    exact retZ (wf := (yw g)) C hP hS rfl hw dX11_birdLine_127
  · have hw := hw.2 h10
    refine lv_iconst (v := 0) C.1 C.2.1 dX11_birdLine_101 (by decide) ?_
    exact retZ (wf := (yw g)) C hP hS rfl hw dX11_birdLine_102
def b_X11_birdLine_52 (Q : Int32 → Mem → Prop) : Nat → Int32 → Mem → Prop
  | 0, _, _ => False
  | n + 1, v1, M => ((14 ≤ v1 → (b_X11_birdLine_74 Q  M)) ∧ (¬ 14 ≤ v1 → (p_X11_read ((M.1 40 0 12)) v1 0 M (fun M13 => (∀ x14 : Int32, x14 = (v1 + 1) → (b_X11_birdLine_52 Q n x14 M13))))))
set_option maxRecDepth 100000 in
set_option maxHeartbeats 4000000 in
theorem k_X11_birdLine_52 {p : Program} {l : Launch} {e : Env} {s : State} {m : MethodId} {args : Array Value} {below : List Frame} {meth : Method} {c : Code} {g : Geo} (C : CX g p s m args meth c cX11_birdLine 2 (some .boolean) RX11) {Q : Int32 → Mem → Prop} : ∀ (n : Nat) (v1 : Int32) (M : Mem) (hw : b_X11_birdLine_52 Q n v1 M) {H : Heap} {locs : List Loc} {ls : Array Slot} (hl : lv_has ls 2 [(0, .ref (g.2.1 (138 + 0))), (1, .int v1)]) (hP : va_P g.1 clz (yw g M) H) (hS : va_S (Af 1 g) s.heap H locs), W p l e ({ frames := 3, cells := 0, slots := 0, locals := 69 } : Room) s m args below meth c H locs 0 0 (MQ below (va_Qi (fun r M => Q r M ∧ narrow .boolean (.int r) = .int r) (PB g (yw g)) (Af 1 g)) args s 0 0 (Af 1 g)) (F0 m 52 ls []) := by
  intro n
  induction n with
  | zero => intro v1 M hw H locs ls hl hP hS; exact absurd hw (by rw [b_X11_birdLine_52]; exact fun h => h)
  | succ n ih =>
    intro v1 M hw H locs ls hl hP hS
    rw [b_X11_birdLine_52] at hw
    refine lv_iload_n C.1 C.2.1 dX11_birdLine_52 rfl (lv_at hl 1 rfl) ?_
    refine lv_bipush (v := 14) C.1 C.2.1 dX11_birdLine_53 (by decide) ?_
    refine lv_icmp_ge (tgt := 74) C.1 C.2.1 dX11_birdLine_55 (by decide) (fun h6 => ?_) (fun h6 => ?_)
    · have hw := hw.1 h6
      exact k_X11_birdLine_74 (Q := Q) C   _ hw (lv_sub hl [0] rfl) hP hS
    · have hw := hw.2 h6
      refine lv_aload_n C.1 C.2.1 dX11_birdLine_58 rfl (lv_at hl 0 rfl) ?_
      refine lv_aload_n C.1 C.2.1 dX11_birdLine_59 rfl (lv_at hl 0 rfl) ?_
      refine gX11_115 C hP Nat.zero_lt_one dX11_birdLine_60 ?_
      refine lv_iload_n C.1 C.2.1 dX11_birdLine_63 rfl (lv_at hl 1 rfl) ?_
      refine lv_iconst (v := 0) C.1 C.2.1 dX11_birdLine_64 (by decide) ?_
      refine goV (wf := (yw g)) (runV (w := yw g M) (As := [.int (M.1 40 0 12), .int v1, .int 0]) (rest := []) C lkX11_180 (c_X11_read l g C.2.2.2.2.2.2.2.2.2.2 ((M.1 40 0 12)) v1 0  M _ hw) hP hS rfl rfl ⟨Nat.le_of_ble_eq_true rfl, Nat.le_of_ble_eq_true rfl⟩ (xx_40 Nat.zero_lt_one) rfl rfl hl.1 rfl (Nat.le_of_ble_eq_true rfl) dX11_birdLine_65) hS (fun M13 hw H locs hP hS => ?_)
      obtain ⟨x14, e14⟩ : ∃ y : Int32, y = (v1 + 1) := ⟨_, rfl⟩
      have hw := hw x14 e14
      refine lv_iinc (v := x14) (lv' := [(1, .int x14), (0, .ref (g.2.1 (138 + 0)))]) C.1 C.2.1 dX11_birdLine_68 hl (k := 1) rfl (by rw [e14]; rfl) (by decide) rfl (fun ls hl => ?_)
      refine lv_goto (tgt := 52) C.1 C.2.1 dX11_birdLine_71 (by decide) ?_
      exact ih x14  _ hw (lv_sub hl [1, 0] rfl) hP hS
def p_X11_birdLine (M : Mem) (Q : Int32 → Mem → Prop) : Prop := ((¬ (M.1 40 0 12) = 5 → (p_X11_token  M (fun M2 => (((M2.1 40 0 8) = 2 → (p_X11_nameAt ((M2.1 40 0 9)) 1 M2 (fun r4 M4 => ((r4 < 0 → (∃ n52 : Nat, b_X11_birdLine_52 Q n52 0 M4)) ∧ (¬ r4 < 0 → (p_X11_wrong 3 M4 (fun r15 M15 => (Q r15 M15)))))))) ∧ (¬ (M2.1 40 0 8) = 2 → (p_X11_wrong 1 M2 (fun r16 M16 => (Q r16 M16)))))))) ∧ ((M.1 40 0 12) = 5 → (p_X11_wrong 2 M (fun r17 M17 => (Q r17 M17)))))
set_option maxRecDepth 100000 in
set_option maxHeartbeats 4000000 in
theorem c_X11_birdLine (l : Launch) (g : Geo) (gi : GI g) (M : Mem) (Q : Int32 → Mem → Prop) (hw : p_X11_birdLine  M Q) : Met l yX11_birdLine (Cond.code yX11_birdLine cX11_birdLine 2 (some .boolean) :: bg) ({ frames := 3, cells := 0, slots := 0, locals := 69 } : Room) (va_Pc [.ref (g.2.1 (138 + 0))] (PW g (yw g M))) (va_Qi (fun r M => Q r M ∧ narrow .boolean (.int r) = .int r) (PB g (yw g)) (Af 1 g)) 0 0 (Af 1 g) := by
  refine Met.ofW (cc := cX11_birdLine) (maxL := 2) (ret := (some .boolean)) (by decide +kernel) rfl ?_
  intro p e s m args below meth c s₁ B hml hv
  obtain ⟨rfl, hv⟩ := hv
  have C := CX.start (own := RX11) B hml rfl gi hv
  have hP := hv.1
  have hS : va_S (Af 1 g) s.heap s.heap [] := va_S.rf
  have hl := lv_entry ([.ref (g.2.1 (138 + 0))]) (n := 2) (Nat.le_of_ble_eq_true rfl)
  rw [lg_entry_eq]
  generalize (lg_sl ([.ref (g.2.1 (138 + 0))]) ++ List.replicate (2 - (lg_sl ([.ref (g.2.1 (138 + 0))])).length) Slot.unset).toArray = ls at hl ⊢
  have hl : lv_has ls 2 [(0, .ref (g.2.1 (138 + 0)))] := hl
  unfold p_X11_birdLine at hw
  refine lv_aload_n C.1 C.2.1 dX11_birdLine_0 rfl (lv_at hl 0 rfl) ?_
  refine gX11_115 C hP Nat.zero_lt_one dX11_birdLine_1 ?_
  refine lv_iconst (v := 5) C.1 C.2.1 dX11_birdLine_4 (by decide) ?_
  refine lv_icmp_ne (tgt := 14) C.1 C.2.1 dX11_birdLine_5 (by decide) (fun h1 => ?_) (fun h1 => ?_)
  · have hw := hw.1 h1
    refine lv_aload_n C.1 C.2.1 dX11_birdLine_14 rfl (lv_at hl 0 rfl) ?_
    refine goV (wf := (yw g)) (runV (w := yw g M) (As := []) (rest := []) C lkX11_173 (c_X11_token l g C.2.2.2.2.2.2.2.2.2.2   M _ hw) hP hS rfl rfl ⟨Nat.le_of_ble_eq_true rfl, Nat.le_of_ble_eq_true rfl⟩ (xx_40 Nat.zero_lt_one) rfl rfl hl.1 rfl (Nat.le_of_ble_eq_true rfl) dX11_birdLine_15) hS (fun M2 hw H locs hP hS => ?_)
    refine lv_aload_n C.1 C.2.1 dX11_birdLine_18 rfl (lv_at hl 0 rfl) ?_
    refine gX11_94 C hP Nat.zero_lt_one dX11_birdLine_19 ?_
    refine lv_iconst (v := 2) C.1 C.2.1 dX11_birdLine_22 (by decide) ?_
    refine lv_icmp_eq (tgt := 32) C.1 C.2.1 dX11_birdLine_23 (by decide) (fun h3 => ?_) (fun h3 => ?_)
    · have hw := hw.1 h3
      refine lv_aload_n C.1 C.2.1 dX11_birdLine_32 rfl (lv_at hl 0 rfl) ?_
      refine lv_aload_n C.1 C.2.1 dX11_birdLine_33 rfl (lv_at hl 0 rfl) ?_
      refine gX11_105 C hP Nat.zero_lt_one dX11_birdLine_34 ?_
      refine lv_iconst (v := 1) C.1 C.2.1 dX11_birdLine_37 (by decide) ?_
      refine goI (wf := (yw g)) (runV (w := yw g M2) (As := [.int (M2.1 40 0 9), .int 1]) (rest := []) C lkX11_176 (c_X11_nameAt l g C.2.2.2.2.2.2.2.2.2.2 ((M2.1 40 0 9)) 1  M2 _ hw) hP hS rfl rfl ⟨Nat.le_of_ble_eq_true rfl, Nat.le_of_ble_eq_true rfl⟩ (xx_40 Nat.zero_lt_one) rfl rfl hl.1 rfl (Nat.le_of_ble_eq_true rfl) dX11_birdLine_38) hS (fun r4 M4 hw H locs hP hS => ?_)
      refine lv_if_lt (tgt := 50) C.1 C.2.1 dX11_birdLine_41 (by decide) (fun h5 => ?_) (fun h5 => ?_)
      · have hw := hw.1 h5
        refine lv_iconst (v := 0) C.1 C.2.1 dX11_birdLine_50 (by decide) ?_
        refine lv_istore_n (lv' := [(1, .int 0), (0, .ref (g.2.1 (138 + 0)))]) C.1 C.2.1 dX11_birdLine_51 rfl hl (by decide) rfl (fun ls hl => ?_)
        obtain ⟨n9, hw⟩ := hw
        exact k_X11_birdLine_52 (Q := Q) C n9 0  _ hw (lv_sub hl [1, 0] rfl) hP hS
      · have hw := hw.2 h5
        refine lv_aload_n C.1 C.2.1 dX11_birdLine_44 rfl (lv_at hl 0 rfl) ?_
        refine lv_iconst (v := 3) C.1 C.2.1 dX11_birdLine_45 (by decide) ?_
        refine goI (wf := (yw g)) (runV (w := yw g M4) (As := [.int 3]) (rest := []) C lkX11_163 (c_X11_wrong l g C.2.2.2.2.2.2.2.2.2.2 3  M4 _ hw) hP hS rfl rfl ⟨Nat.le_of_ble_eq_true rfl, Nat.le_of_ble_eq_true rfl⟩ (xx_40 Nat.zero_lt_one) rfl rfl hl.1 rfl (Nat.le_of_ble_eq_true rfl) dX11_birdLine_46) hS (fun r15 M15 hw H locs hP hS => ?_)
        obtain ⟨hw, hz15⟩ := hw
        exact retZ (wf := (yw g)) C hP hS hz15 hw dX11_birdLine_49
    · have hw := hw.2 h3
      refine lv_aload_n C.1 C.2.1 dX11_birdLine_26 rfl (lv_at hl 0 rfl) ?_
      refine lv_iconst (v := 1) C.1 C.2.1 dX11_birdLine_27 (by decide) ?_
      refine goI (wf := (yw g)) (runV (w := yw g M2) (As := [.int 1]) (rest := []) C lkX11_163 (c_X11_wrong l g C.2.2.2.2.2.2.2.2.2.2 1  M2 _ hw) hP hS rfl rfl ⟨Nat.le_of_ble_eq_true rfl, Nat.le_of_ble_eq_true rfl⟩ (xx_40 Nat.zero_lt_one) rfl rfl hl.1 rfl (Nat.le_of_ble_eq_true rfl) dX11_birdLine_28) hS (fun r16 M16 hw H locs hP hS => ?_)
      obtain ⟨hw, hz16⟩ := hw
      exact retZ (wf := (yw g)) C hP hS hz16 hw dX11_birdLine_31
  · have hw := hw.2 h1
    refine lv_aload_n C.1 C.2.1 dX11_birdLine_8 rfl (lv_at hl 0 rfl) ?_
    refine lv_iconst (v := 2) C.1 C.2.1 dX11_birdLine_9 (by decide) ?_
    refine goI (wf := (yw g)) (runV (w := yw g M) (As := [.int 2]) (rest := []) C lkX11_163 (c_X11_wrong l g C.2.2.2.2.2.2.2.2.2.2 2  M _ hw) hP hS rfl rfl ⟨Nat.le_of_ble_eq_true rfl, Nat.le_of_ble_eq_true rfl⟩ (xx_40 Nat.zero_lt_one) rfl rfl hl.1 rfl (Nat.le_of_ble_eq_true rfl) dX11_birdLine_10) hS (fun r17 M17 hw H locs hP hS => ?_)
    obtain ⟨hw, hz17⟩ := hw
    exact retZ (wf := (yw g)) C hP hS hz17 hw dX11_birdLine_13
def b_X11_heardLine_74 (Q : Int32 → Mem → Prop) (k24 : Int32 → Int32 → Mem → Prop) (v1 : Int32) (v2 : Int32) (s1 : Int32) (s2 : Int32) (M : Mem) : Prop := (p_X11_number s1 s2 M (fun r10 M10 => ((¬ r10 = 0 → (p_X11_read v1 v2 ((M10.1 40 0 19)) M10 (fun M12 => (∀ x13 : Int32, x13 = (v2 + 1) → (k24 v1 x13 M12))))) ∧ (r10 = 0 → (Q 0 M10)))))
set_option maxRecDepth 100000 in
set_option maxHeartbeats 4000000 in
theorem k_X11_heardLine_74 {p : Program} {l : Launch} {e : Env} {s : State} {m : MethodId} {args : Array Value} {below : List Frame} {meth : Method} {c : Code} {g : Geo} (C : CX g p s m args meth c cX11_heardLine 3 (some .boolean) RX11) {Q : Int32 → Mem → Prop} {k24 : Int32 → Int32 → Mem → Prop} (hk24 : ∀ (v1 : Int32) (v2 : Int32) (M : Mem), k24 v1 v2 M → ∀ (H : Heap) (locs : List Loc) (ls : Array Slot), lv_has ls 3 [(0, .ref (g.2.1 (138 + 0))), (1, .int v1), (2, .int v2)] → va_P g.1 clz (yw g M) H → va_S (Af 1 g) s.heap H locs → W p l e ({ frames := 3, cells := 0, slots := 0, locals := 69 } : Room) s m args below meth c H locs 0 0 (MQ below (va_Qi (fun r M => Q r M ∧ narrow .boolean (.int r) = .int r) (PB g (yw g)) (Af 1 g)) args s 0 0 (Af 1 g)) (F0 m 24 ls [])) (v1 : Int32) (v2 : Int32) (s1 : Int32) (s2 : Int32) (M : Mem) (hw : b_X11_heardLine_74 Q k24 v1 v2 s1 s2 M) {H : Heap} {locs : List Loc} {ls : Array Slot} (hl : lv_has ls 3 [(0, .ref (g.2.1 (138 + 0))), (1, .int v1), (2, .int v2)]) (hP : va_P g.1 clz (yw g M) H) (hS : va_S (Af 1 g) s.heap H locs) : W p l e ({ frames := 3, cells := 0, slots := 0, locals := 69 } : Room) s m args below meth c H locs 0 0 (MQ below (va_Qi (fun r M => Q r M ∧ narrow .boolean (.int r) = .int r) (PB g (yw g)) (Af 1 g)) args s 0 0 (Af 1 g)) (F0 m 74 ls [.int s2, .int s1, .ref (g.2.1 (138 + 0))]) := by
  unfold b_X11_heardLine_74 at hw
  refine goI (wf := (yw g)) (runV (w := yw g M) (As := [.int s1, .int s2]) (rest := []) C lkX11_184 (c_X11_number l g C.2.2.2.2.2.2.2.2.2.2 s1 s2  M _ hw) hP hS rfl rfl ⟨Nat.le_of_ble_eq_true rfl, Nat.le_of_ble_eq_true rfl⟩ (xx_40 Nat.zero_lt_one) rfl rfl hl.1 rfl (Nat.le_of_ble_eq_true rfl) dX11_heardLine_74) hS (fun r10 M10 hw H locs hP hS => ?_)
  obtain ⟨hw, hz10⟩ := hw
  refine lv_if_ne (tgt := 82) C.1 C.2.1 dX11_heardLine_77 (by decide) (fun h11 => ?_) (fun h11 => ?_)
  · have hw := hw.1 h11
    refine lv_aload_n C.1 C.2.1 dX11_heardLine_82 rfl (lv_at hl 0 rfl) ?_
    refine lv_iload_n C.1 C.2.1 dX11_heardLine_83 rfl (lv_at hl 1 rfl) ?_
    refine lv_iload_n C.1 C.2.1 dX11_heardLine_84 rfl (lv_at hl 2 rfl) ?_
    refine lv_aload_n C.1 C.2.1 dX11_heardLine_85 rfl (lv_at hl 0 rfl) ?_
    refine gX11_170 C hP Nat.zero_lt_one dX11_heardLine_86 ?_
    refine goV (wf := (yw g)) (runV (w := yw g M10) (As := [.int v1, .int v2, .int (M10.1 40 0 19)]) (rest := []) C lkX11_180 (c_X11_read l g C.2.2.2.2.2.2.2.2.2.2 v1 v2 ((M10.1 40 0 19))  M10 _ hw) hP hS rfl rfl ⟨Nat.le_of_ble_eq_true rfl, Nat.le_of_ble_eq_true rfl⟩ (xx_40 Nat.zero_lt_one) rfl rfl hl.1 rfl (Nat.le_of_ble_eq_true rfl) dX11_heardLine_89) hS (fun M12 hw H locs hP hS => ?_)
    obtain ⟨x13, e13⟩ : ∃ y : Int32, y = (v2 + 1) := ⟨_, rfl⟩
    have hw := hw x13 e13
    refine lv_iinc (v := x13) (lv' := [(2, .int x13), (0, .ref (g.2.1 (138 + 0))), (1, .int v1)]) C.1 C.2.1 dX11_heardLine_92 hl (k := 2) rfl (by rw [e13]; rfl) (by decide) rfl (fun ls hl => ?_)
    refine lv_goto (tgt := 24) C.1 C.2.1 dX11_heardLine_95 (by decide) ?_
    exact hk24 v1 x13  _ hw _ _ _ (lv_sub hl [1, 2, 0] rfl) hP hS
  · have hw := hw.2 h11
    refine lv_iconst (v := 0) C.1 C.2.1 dX11_heardLine_80 (by decide) ?_
    exact retZ (wf := (yw g)) C hP hS rfl hw dX11_heardLine_81
def b_X11_heardLine_42 (Q : Int32 → Mem → Prop) (k24 : Int32 → Int32 → Mem → Prop) (v1 : Int32) (v2 : Int32) (s1 : Int32) (M : Mem) : Prop := ((¬ v2 = 3 → ((¬ v2 = 4 → ((¬ v2 = 5 → (b_X11_heardLine_74 Q k24 v1 v2 s1 9 M)) ∧ (v2 = 5 → (b_X11_heardLine_74 Q k24 v1 v2 s1 15 M)))) ∧ (v2 = 4 → (b_X11_heardLine_74 Q k24 v1 v2 s1 14 M)))) ∧ (v2 = 3 → (b_X11_heardLine_74 Q k24 v1 v2 s1 61 M)))
set_option maxRecDepth 100000 in
set_option maxHeartbeats 4000000 in
theorem k_X11_heardLine_42 {p : Program} {l : Launch} {e : Env} {s : State} {m : MethodId} {args : Array Value} {below : List Frame} {meth : Method} {c : Code} {g : Geo} (C : CX g p s m args meth c cX11_heardLine 3 (some .boolean) RX11) {Q : Int32 → Mem → Prop} {k24 : Int32 → Int32 → Mem → Prop} (hk24 : ∀ (v1 : Int32) (v2 : Int32) (M : Mem), k24 v1 v2 M → ∀ (H : Heap) (locs : List Loc) (ls : Array Slot), lv_has ls 3 [(0, .ref (g.2.1 (138 + 0))), (1, .int v1), (2, .int v2)] → va_P g.1 clz (yw g M) H → va_S (Af 1 g) s.heap H locs → W p l e ({ frames := 3, cells := 0, slots := 0, locals := 69 } : Room) s m args below meth c H locs 0 0 (MQ below (va_Qi (fun r M => Q r M ∧ narrow .boolean (.int r) = .int r) (PB g (yw g)) (Af 1 g)) args s 0 0 (Af 1 g)) (F0 m 24 ls [])) (v1 : Int32) (v2 : Int32) (s1 : Int32) (M : Mem) (hw : b_X11_heardLine_42 Q k24 v1 v2 s1 M) {H : Heap} {locs : List Loc} {ls : Array Slot} (hl : lv_has ls 3 [(0, .ref (g.2.1 (138 + 0))), (1, .int v1), (2, .int v2)]) (hP : va_P g.1 clz (yw g M) H) (hS : va_S (Af 1 g) s.heap H locs) : W p l e ({ frames := 3, cells := 0, slots := 0, locals := 69 } : Room) s m args below meth c H locs 0 0 (MQ below (va_Qi (fun r M => Q r M ∧ narrow .boolean (.int r) = .int r) (PB g (yw g)) (Af 1 g)) args s 0 0 (Af 1 g)) (F0 m 42 ls [.int s1, .ref (g.2.1 (138 + 0))]) := by
  unfold b_X11_heardLine_42 at hw
  refine lv_iload_n C.1 C.2.1 dX11_heardLine_42 rfl (lv_at hl 2 rfl) ?_
  refine lv_iconst (v := 3) C.1 C.2.1 dX11_heardLine_43 (by decide) ?_
  refine lv_icmp_ne (tgt := 52) C.1 C.2.1 dX11_heardLine_44 (by decide) (fun h7 => ?_) (fun h7 => ?_)
  · have hw := hw.1 h7
    refine lv_iload_n C.1 C.2.1 dX11_heardLine_52 rfl (lv_at hl 2 rfl) ?_
    refine lv_iconst (v := 4) C.1 C.2.1 dX11_heardLine_53 (by decide) ?_
    refine lv_icmp_ne (tgt := 62) C.1 C.2.1 dX11_heardLine_54 (by decide) (fun h8 => ?_) (fun h8 => ?_)
    · have hw := hw.1 h8
      refine lv_iload_n C.1 C.2.1 dX11_heardLine_62 rfl (lv_at hl 2 rfl) ?_
      refine lv_iconst (v := 5) C.1 C.2.1 dX11_heardLine_63 (by decide) ?_
      refine lv_icmp_ne (tgt := 72) C.1 C.2.1 dX11_heardLine_64 (by decide) (fun h9 => ?_) (fun h9 => ?_)
      · have hw := hw.1 h9
        refine lv_bipush (v := 9) C.1 C.2.1 dX11_heardLine_72 (by decide) ?_
        exact k_X11_heardLine_74 (Q := Q) C hk24 v1 v2 s1 9  _ hw (lv_sub hl [0, 1, 2] rfl) hP hS
      · have hw := hw.2 h9
        refine lv_bipush (v := 15) C.1 C.2.1 dX11_heardLine_67 (by decide) ?_
        refine lv_goto (tgt := 74) C.1 C.2.1 dX11_heardLine_69 (by decide) ?_
        exact k_X11_heardLine_74 (Q := Q) C hk24 v1 v2 s1 15  _ hw (lv_sub hl [0, 1, 2] rfl) hP hS
    · have hw := hw.2 h8
      refine lv_bipush (v := 14) C.1 C.2.1 dX11_heardLine_57 (by decide) ?_
      refine lv_goto (tgt := 74) C.1 C.2.1 dX11_heardLine_59 (by decide) ?_
      exact k_X11_heardLine_74 (Q := Q) C hk24 v1 v2 s1 14  _ hw (lv_sub hl [0, 1, 2] rfl) hP hS
  · have hw := hw.2 h7
    refine lv_bipush (v := 61) C.1 C.2.1 dX11_heardLine_47 (by decide) ?_
    refine lv_goto (tgt := 74) C.1 C.2.1 dX11_heardLine_49 (by decide) ?_
    exact k_X11_heardLine_74 (Q := Q) C hk24 v1 v2 s1 61  _ hw (lv_sub hl [0, 1, 2] rfl) hP hS
def b_X11_heardLine_24 (Q : Int32 → Mem → Prop) : Nat → Int32 → Int32 → Mem → Prop
  | 0, _, _, _ => False
  | n + 1, v1, v2, M => ((6 < v2 → (Q 1 M)) ∧ (¬ 6 < v2 → ((¬ v2 = 6 → (b_X11_heardLine_42 Q (fun v1 v2 M => b_X11_heardLine_24 Q n v1 v2 M) v1 v2 0 M)) ∧ (v2 = 6 → (b_X11_heardLine_42 Q (fun v1 v2 M => b_X11_heardLine_24 Q n v1 v2 M) v1 v2 1 M)))))
set_option maxRecDepth 100000 in
set_option maxHeartbeats 4000000 in
theorem k_X11_heardLine_24 {p : Program} {l : Launch} {e : Env} {s : State} {m : MethodId} {args : Array Value} {below : List Frame} {meth : Method} {c : Code} {g : Geo} (C : CX g p s m args meth c cX11_heardLine 3 (some .boolean) RX11) {Q : Int32 → Mem → Prop} : ∀ (n : Nat) (v1 : Int32) (v2 : Int32) (M : Mem) (hw : b_X11_heardLine_24 Q n v1 v2 M) {H : Heap} {locs : List Loc} {ls : Array Slot} (hl : lv_has ls 3 [(0, .ref (g.2.1 (138 + 0))), (1, .int v1), (2, .int v2)]) (hP : va_P g.1 clz (yw g M) H) (hS : va_S (Af 1 g) s.heap H locs), W p l e ({ frames := 3, cells := 0, slots := 0, locals := 69 } : Room) s m args below meth c H locs 0 0 (MQ below (va_Qi (fun r M => Q r M ∧ narrow .boolean (.int r) = .int r) (PB g (yw g)) (Af 1 g)) args s 0 0 (Af 1 g)) (F0 m 24 ls []) := by
  intro n
  induction n with
  | zero => intro v1 v2 M hw H locs ls hl hP hS; exact absurd hw (by rw [b_X11_heardLine_24]; exact fun h => h)
  | succ n ih =>
    intro v1 v2 M hw H locs ls hl hP hS
    rw [b_X11_heardLine_24] at hw
    refine lv_iload_n C.1 C.2.1 dX11_heardLine_24 rfl (lv_at hl 2 rfl) ?_
    refine lv_bipush (v := 6) C.1 C.2.1 dX11_heardLine_25 (by decide) ?_
    refine lv_icmp_gt (tgt := 98) C.1 C.2.1 dX11_heardLine_27 (by decide) (fun h5 => ?_) (fun h5 => ?_)
    · have hw := hw.1 h5
      refine lv_iconst (v := 1) C.1 C.2.1 dX11_heardLine_98 (by decide) ?_
      exact retZ (wf := (yw g)) C hP hS rfl hw dX11_heardLine_99
    · have hw := hw.2 h5
      refine lv_aload_n C.1 C.2.1 dX11_heardLine_30 rfl (lv_at hl 0 rfl) ?_
      refine lv_iload_n C.1 C.2.1 dX11_heardLine_31 rfl (lv_at hl 2 rfl) ?_
      refine lv_bipush (v := 6) C.1 C.2.1 dX11_heardLine_32 (by decide) ?_
      refine lv_icmp_ne (tgt := 41) C.1 C.2.1 dX11_heardLine_34 (by decide) (fun h6 => ?_) (fun h6 => ?_)
      · have hw := hw.1 h6
        refine lv_iconst (v := 0) C.1 C.2.1 dX11_heardLine_41 (by decide) ?_
        exact k_X11_heardLine_42 (Q := Q) C (fun v1 v2  M hw H locs ls hl hP hS => ih v1 v2  M hw hl hP hS) v1 v2 0  _ hw (lv_sub hl [0, 1, 2] rfl) hP hS
      · have hw := hw.2 h6
        refine lv_iconst (v := 1) C.1 C.2.1 dX11_heardLine_37 (by decide) ?_
        refine lv_goto (tgt := 42) C.1 C.2.1 dX11_heardLine_38 (by decide) ?_
        exact k_X11_heardLine_42 (Q := Q) C (fun v1 v2  M hw H locs ls hl hP hS => ih v1 v2  M hw hl hP hS) v1 v2 1  _ hw (lv_sub hl [0, 1, 2] rfl) hP hS
def p_X11_heardLine (M : Mem) (Q : Int32 → Mem → Prop) : Prop := (p_X11_birdRead 2 M (fun r1 M1 => ((¬ r1 = 0 → (∀ x3 : Int32, x3 = (M1.1 40 0 19) → (p_X11_read x3 2 1 M1 (fun M4 => (∃ n24 : Nat, b_X11_heardLine_24 Q n24 x3 3 M4))))) ∧ (r1 = 0 → (Q 0 M1)))))
set_option maxRecDepth 100000 in
set_option maxHeartbeats 4000000 in
theorem c_X11_heardLine (l : Launch) (g : Geo) (gi : GI g) (M : Mem) (Q : Int32 → Mem → Prop) (hw : p_X11_heardLine  M Q) : Met l yX11_heardLine (Cond.code yX11_heardLine cX11_heardLine 3 (some .boolean) :: bg) ({ frames := 3, cells := 0, slots := 0, locals := 69 } : Room) (va_Pc [.ref (g.2.1 (138 + 0))] (PW g (yw g M))) (va_Qi (fun r M => Q r M ∧ narrow .boolean (.int r) = .int r) (PB g (yw g)) (Af 1 g)) 0 0 (Af 1 g) := by
  refine Met.ofW (cc := cX11_heardLine) (maxL := 3) (ret := (some .boolean)) (by decide +kernel) rfl ?_
  intro p e s m args below meth c s₁ B hml hv
  obtain ⟨rfl, hv⟩ := hv
  have C := CX.start (own := RX11) B hml rfl gi hv
  have hP := hv.1
  have hS : va_S (Af 1 g) s.heap s.heap [] := va_S.rf
  have hl := lv_entry ([.ref (g.2.1 (138 + 0))]) (n := 3) (Nat.le_of_ble_eq_true rfl)
  rw [lg_entry_eq]
  generalize (lg_sl ([.ref (g.2.1 (138 + 0))]) ++ List.replicate (3 - (lg_sl ([.ref (g.2.1 (138 + 0))])).length) Slot.unset).toArray = ls at hl ⊢
  have hl : lv_has ls 3 [(0, .ref (g.2.1 (138 + 0)))] := hl
  unfold p_X11_heardLine at hw
  refine lv_aload_n C.1 C.2.1 dX11_heardLine_0 rfl (lv_at hl 0 rfl) ?_
  refine lv_iconst (v := 2) C.1 C.2.1 dX11_heardLine_1 (by decide) ?_
  refine goI (wf := (yw g)) (runV (w := yw g M) (As := [.int 2]) (rest := []) C lkX11_188 (c_X11_birdRead l g C.2.2.2.2.2.2.2.2.2.2 2  M _ hw) hP hS rfl rfl ⟨Nat.le_of_ble_eq_true rfl, Nat.le_of_ble_eq_true rfl⟩ (xx_40 Nat.zero_lt_one) rfl rfl hl.1 rfl (Nat.le_of_ble_eq_true rfl) dX11_heardLine_2) hS (fun r1 M1 hw H locs hP hS => ?_)
  obtain ⟨hw, hz1⟩ := hw
  refine lv_if_ne (tgt := 10) C.1 C.2.1 dX11_heardLine_5 (by decide) (fun h2 => ?_) (fun h2 => ?_)
  · have hw := hw.1 h2
    refine lv_aload_n C.1 C.2.1 dX11_heardLine_10 rfl (lv_at hl 0 rfl) ?_
    refine gX11_170 C hP Nat.zero_lt_one dX11_heardLine_11 ?_
    refine lv_topi (fun x3 e3 => ?_)
    have hw := hw x3 e3
    refine lv_istore_n (lv' := [(1, .int x3), (0, .ref (g.2.1 (138 + 0)))]) C.1 C.2.1 dX11_heardLine_14 rfl hl (by decide) rfl (fun ls hl => ?_)
    refine lv_aload_n C.1 C.2.1 dX11_heardLine_15 rfl (lv_at hl 1 rfl) ?_
    refine lv_iload_n C.1 C.2.1 dX11_heardLine_16 rfl (lv_at hl 0 rfl) ?_
    refine lv_iconst (v := 2) C.1 C.2.1 dX11_heardLine_17 (by decide) ?_
    refine lv_iconst (v := 1) C.1 C.2.1 dX11_heardLine_18 (by decide) ?_
    refine goV (wf := (yw g)) (runV (w := yw g M1) (As := [.int x3, .int 2, .int 1]) (rest := []) C lkX11_180 (c_X11_read l g C.2.2.2.2.2.2.2.2.2.2 x3 2 1  M1 _ hw) hP hS rfl rfl ⟨Nat.le_of_ble_eq_true rfl, Nat.le_of_ble_eq_true rfl⟩ (xx_40 Nat.zero_lt_one) rfl rfl hl.1 rfl (Nat.le_of_ble_eq_true rfl) dX11_heardLine_19) hS (fun M4 hw H locs hP hS => ?_)
    refine lv_iconst (v := 3) C.1 C.2.1 dX11_heardLine_22 (by decide) ?_
    refine lv_istore_n (lv' := [(2, .int 3), (1, .int x3), (0, .ref (g.2.1 (138 + 0)))]) C.1 C.2.1 dX11_heardLine_23 rfl hl (by decide) rfl (fun ls hl => ?_)
    obtain ⟨n9, hw⟩ := hw
    exact k_X11_heardLine_24 (Q := Q) C n9 x3 3  _ hw (lv_sub hl [2, 1, 0] rfl) hP hS
  · have hw := hw.2 h2
    refine lv_iconst (v := 0) C.1 C.2.1 dX11_heardLine_8 (by decide) ?_
    exact retZ (wf := (yw g)) C hP hS rfl hw dX11_heardLine_9
def p_X11_oneLine (a1 : Int32) (a2 : Int32) (M : Mem) (Q : Int32 → Mem → Prop) : Prop := (p_X11_birdRead a1 M (fun r1 M1 => ((¬ r1 = 0 → (∀ x3 : Int32, x3 = (M1.1 40 0 19) → (p_X11_number 1 a2 M1 (fun r4 M4 => ((¬ r4 = 0 → (p_X11_read x3 a1 ((M4.1 40 0 19)) M4 (fun M6 => (Q 1 M6)))) ∧ (r4 = 0 → (Q 0 M4))))))) ∧ (r1 = 0 → (Q 0 M1)))))
set_option maxRecDepth 100000 in
set_option maxHeartbeats 4000000 in
theorem c_X11_oneLine (l : Launch) (g : Geo) (gi : GI g) (a1 : Int32) (a2 : Int32) (M : Mem) (Q : Int32 → Mem → Prop) (hw : p_X11_oneLine a1 a2 M Q) : Met l yX11_oneLine (Cond.code yX11_oneLine cX11_oneLine 4 (some .boolean) :: bg) ({ frames := 3, cells := 0, slots := 0, locals := 69 } : Room) (va_Pc [.ref (g.2.1 (138 + 0)), .int a1, .int a2] (PW g (yw g M))) (va_Qi (fun r M => Q r M ∧ narrow .boolean (.int r) = .int r) (PB g (yw g)) (Af 1 g)) 0 0 (Af 1 g) := by
  refine Met.ofW (cc := cX11_oneLine) (maxL := 4) (ret := (some .boolean)) (by decide +kernel) rfl ?_
  intro p e s m args below meth c s₁ B hml hv
  obtain ⟨rfl, hv⟩ := hv
  have C := CX.start (own := RX11) B hml rfl gi hv
  have hP := hv.1
  have hS : va_S (Af 1 g) s.heap s.heap [] := va_S.rf
  have hl := lv_entry ([.ref (g.2.1 (138 + 0)), .int a1, .int a2]) (n := 4) (Nat.le_of_ble_eq_true rfl)
  rw [lg_entry_eq]
  generalize (lg_sl ([.ref (g.2.1 (138 + 0)), .int a1, .int a2]) ++ List.replicate (4 - (lg_sl ([.ref (g.2.1 (138 + 0)), .int a1, .int a2])).length) Slot.unset).toArray = ls at hl ⊢
  have hl : lv_has ls 4 [(0, .ref (g.2.1 (138 + 0))), (1, .int a1), (2, .int a2)] := hl
  unfold p_X11_oneLine at hw
  refine lv_aload_n C.1 C.2.1 dX11_oneLine_0 rfl (lv_at hl 0 rfl) ?_
  refine lv_iload_n C.1 C.2.1 dX11_oneLine_1 rfl (lv_at hl 1 rfl) ?_
  refine goI (wf := (yw g)) (runV (w := yw g M) (As := [.int a1]) (rest := []) C lkX11_188 (c_X11_birdRead l g C.2.2.2.2.2.2.2.2.2.2 a1  M _ hw) hP hS rfl rfl ⟨Nat.le_of_ble_eq_true rfl, Nat.le_of_ble_eq_true rfl⟩ (xx_40 Nat.zero_lt_one) rfl rfl hl.1 rfl (Nat.le_of_ble_eq_true rfl) dX11_oneLine_2) hS (fun r1 M1 hw H locs hP hS => ?_)
  obtain ⟨hw, hz1⟩ := hw
  refine lv_if_ne (tgt := 10) C.1 C.2.1 dX11_oneLine_5 (by decide) (fun h2 => ?_) (fun h2 => ?_)
  · have hw := hw.1 h2
    refine lv_aload_n C.1 C.2.1 dX11_oneLine_10 rfl (lv_at hl 0 rfl) ?_
    refine gX11_170 C hP Nat.zero_lt_one dX11_oneLine_11 ?_
    refine lv_topi (fun x3 e3 => ?_)
    have hw := hw x3 e3
    refine lv_istore_n (lv' := [(3, .int x3), (0, .ref (g.2.1 (138 + 0))), (1, .int a1), (2, .int a2)]) C.1 C.2.1 dX11_oneLine_14 rfl hl (by decide) rfl (fun ls hl => ?_)
    refine lv_aload_n C.1 C.2.1 dX11_oneLine_15 rfl (lv_at hl 1 rfl) ?_
    refine lv_iconst (v := 1) C.1 C.2.1 dX11_oneLine_16 (by decide) ?_
    refine lv_iload_n C.1 C.2.1 dX11_oneLine_17 rfl (lv_at hl 3 rfl) ?_
    refine goI (wf := (yw g)) (runV (w := yw g M1) (As := [.int 1, .int a2]) (rest := []) C lkX11_184 (c_X11_number l g C.2.2.2.2.2.2.2.2.2.2 1 a2  M1 _ hw) hP hS rfl rfl ⟨Nat.le_of_ble_eq_true rfl, Nat.le_of_ble_eq_true rfl⟩ (xx_40 Nat.zero_lt_one) rfl rfl hl.1 rfl (Nat.le_of_ble_eq_true rfl) dX11_oneLine_18) hS (fun r4 M4 hw H locs hP hS => ?_)
    obtain ⟨hw, hz4⟩ := hw
    refine lv_if_ne (tgt := 26) C.1 C.2.1 dX11_oneLine_21 (by decide) (fun h5 => ?_) (fun h5 => ?_)
    · have hw := hw.1 h5
      refine lv_aload_n C.1 C.2.1 dX11_oneLine_26 rfl (lv_at hl 1 rfl) ?_
      refine lv_iload_n C.1 C.2.1 dX11_oneLine_27 rfl (lv_at hl 0 rfl) ?_
      refine lv_iload_n C.1 C.2.1 dX11_oneLine_28 rfl (lv_at hl 2 rfl) ?_
      refine lv_aload_n C.1 C.2.1 dX11_oneLine_29 rfl (lv_at hl 1 rfl) ?_
      refine gX11_170 C hP Nat.zero_lt_one dX11_oneLine_30 ?_
      refine goV (wf := (yw g)) (runV (w := yw g M4) (As := [.int x3, .int a1, .int (M4.1 40 0 19)]) (rest := []) C lkX11_180 (c_X11_read l g C.2.2.2.2.2.2.2.2.2.2 x3 a1 ((M4.1 40 0 19))  M4 _ hw) hP hS rfl rfl ⟨Nat.le_of_ble_eq_true rfl, Nat.le_of_ble_eq_true rfl⟩ (xx_40 Nat.zero_lt_one) rfl rfl hl.1 rfl (Nat.le_of_ble_eq_true rfl) dX11_oneLine_33) hS (fun M6 hw H locs hP hS => ?_)
      refine lv_iconst (v := 1) C.1 C.2.1 dX11_oneLine_36 (by decide) ?_
      exact retZ (wf := (yw g)) C hP hS rfl hw dX11_oneLine_37
    · have hw := hw.2 h5
      refine lv_iconst (v := 0) C.1 C.2.1 dX11_oneLine_24 (by decide) ?_
      exact retZ (wf := (yw g)) C hP hS rfl hw dX11_oneLine_25
  · have hw := hw.2 h2
    refine lv_iconst (v := 0) C.1 C.2.1 dX11_oneLine_8 (by decide) ?_
    exact retZ (wf := (yw g)) C hP hS rfl hw dX11_oneLine_9
def p_X11_sendLine (M : Mem) (Q : Int32 → Mem → Prop) : Prop := ((¬ (M.1 40 0 15) = 10 → (p_X11_birdRead (-1) M (fun r2 M2 => ((¬ r2 = 0 → (∀ x4 : Int32, x4 = ((30 : Int32) + ((3 : Int32) * (M2.1 40 0 15))) → (vp_in x4 60 ∧ (∀ M5 : Mem, M5 = sI M2 44 0 (x4 : Int32).toNatClampNeg (M2.1 40 0 19) → (p_X11_number 0 3 M5 (fun r6 M6 => ((¬ r6 = 0 → (vp_in (x4 + 1) 60 ∧ (∀ M8 : Mem, M8 = sI M6 44 0 ((x4 + 1) : Int32).toNatClampNeg (M6.1 40 0 19) → (p_X11_number 0 63 M8 (fun r9 M9 => ((¬ r9 = 0 → (vp_in (x4 + 2) 60 ∧ (∀ M11 : Mem, M11 = sI M9 44 0 ((x4 + 2) : Int32).toNatClampNeg (M9.1 40 0 19) → (∀ M12 : Mem, M12 = sI M11 40 0 15 ((M11.1 40 0 15) + 1) → (vp_in x4 60 ∧ (vp_in x4 60 ∧ (p_X11_readOf ((M12.1 44 0 (x4 : Int32).toNatClampNeg)) 9 M12 (fun r15 M15 => (p_X11_read ((M12.1 44 0 (x4 : Int32).toNatClampNeg)) 9 ((r15 + 1)) M15 (fun M16 => (Q 1 M16))))))))))) ∧ (r9 = 0 → (Q 0 M9)))))))) ∧ (r6 = 0 → (Q 0 M6))))))))) ∧ (r2 = 0 → (Q 0 M2)))))) ∧ ((M.1 40 0 15) = 10 → (p_X11_wrong 2 M (fun r17 M17 => (Q r17 M17)))))
set_option maxRecDepth 100000 in
set_option maxHeartbeats 4000000 in
theorem c_X11_sendLine (l : Launch) (g : Geo) (gi : GI g) (M : Mem) (Q : Int32 → Mem → Prop) (hw : p_X11_sendLine  M Q) : Met l yX11_sendLine (Cond.code yX11_sendLine cX11_sendLine 2 (some .boolean) :: bg) ({ frames := 3, cells := 0, slots := 0, locals := 69 } : Room) (va_Pc [.ref (g.2.1 (138 + 0))] (PW g (yw g M))) (va_Qi (fun r M => Q r M ∧ narrow .boolean (.int r) = .int r) (PB g (yw g)) (Af 1 g)) 0 0 (Af 1 g) := by
  refine Met.ofW (cc := cX11_sendLine) (maxL := 2) (ret := (some .boolean)) (by decide +kernel) rfl ?_
  intro p e s m args below meth c s₁ B hml hv
  obtain ⟨rfl, hv⟩ := hv
  have C := CX.start (own := RX11) B hml rfl gi hv
  have hP := hv.1
  have hS : va_S (Af 1 g) s.heap s.heap [] := va_S.rf
  have hl := lv_entry ([.ref (g.2.1 (138 + 0))]) (n := 2) (Nat.le_of_ble_eq_true rfl)
  rw [lg_entry_eq]
  generalize (lg_sl ([.ref (g.2.1 (138 + 0))]) ++ List.replicate (2 - (lg_sl ([.ref (g.2.1 (138 + 0))])).length) Slot.unset).toArray = ls at hl ⊢
  have hl : lv_has ls 2 [(0, .ref (g.2.1 (138 + 0)))] := hl
  unfold p_X11_sendLine at hw
  refine lv_aload_n C.1 C.2.1 dX11_sendLine_0 rfl (lv_at hl 0 rfl) ?_
  refine gX11_118 C hP Nat.zero_lt_one dX11_sendLine_1 ?_
  refine lv_bipush (v := 10) C.1 C.2.1 dX11_sendLine_4 (by decide) ?_
  refine lv_icmp_ne (tgt := 15) C.1 C.2.1 dX11_sendLine_6 (by decide) (fun h1 => ?_) (fun h1 => ?_)
  · have hw := hw.1 h1
    refine lv_aload_n C.1 C.2.1 dX11_sendLine_15 rfl (lv_at hl 0 rfl) ?_
    refine lv_iconst (v := (-1)) C.1 C.2.1 dX11_sendLine_16 (by decide) ?_
    refine goI (wf := (yw g)) (runV (w := yw g M) (As := [.int (-1)]) (rest := []) C lkX11_188 (c_X11_birdRead l g C.2.2.2.2.2.2.2.2.2.2 (-1)  M _ hw) hP hS rfl rfl ⟨Nat.le_of_ble_eq_true rfl, Nat.le_of_ble_eq_true rfl⟩ (xx_40 Nat.zero_lt_one) rfl rfl hl.1 rfl (Nat.le_of_ble_eq_true rfl) dX11_sendLine_17) hS (fun r2 M2 hw H locs hP hS => ?_)
    obtain ⟨hw, hz2⟩ := hw
    refine lv_if_ne (tgt := 25) C.1 C.2.1 dX11_sendLine_20 (by decide) (fun h3 => ?_) (fun h3 => ?_)
    · have hw := hw.1 h3
      refine lv_bipush (v := 30) C.1 C.2.1 dX11_sendLine_25 (by decide) ?_
      refine lv_iconst (v := 3) C.1 C.2.1 dX11_sendLine_27 (by decide) ?_
      refine lv_aload_n C.1 C.2.1 dX11_sendLine_28 rfl (lv_at hl 0 rfl) ?_
      refine gX11_118 C hP Nat.zero_lt_one dX11_sendLine_29 ?_
      refine lv_imul C.1 C.2.1 dX11_sendLine_32 ?_
      refine lv_iadd C.1 C.2.1 dX11_sendLine_33 ?_
      refine lv_topi (fun x4 e4 => ?_)
      have hw := hw x4 e4
      refine lv_istore_n (lv' := [(1, .int x4), (0, .ref (g.2.1 (138 + 0)))]) C.1 C.2.1 dX11_sendLine_34 rfl hl (by decide) rfl (fun ls hl => ?_)
      refine lv_aload_n C.1 C.2.1 dX11_sendLine_35 rfl (lv_at hl 1 rfl) ?_
      refine gX11_23 C hP Nat.zero_lt_one dX11_sendLine_36 ?_
      refine lv_iload_n C.1 C.2.1 dX11_sendLine_39 rfl (lv_at hl 0 rfl) ?_
      refine lv_aload_n C.1 C.2.1 dX11_sendLine_40 rfl (lv_at hl 1 rfl) ?_
      refine gX11_170 C hP Nat.zero_lt_one dX11_sendLine_41 ?_
      obtain ⟨h5, hw⟩ := hw
      refine as_44 C hP hS Nat.zero_lt_one h5 dX11_sendLine_44 (fun M5 e5 H locs hP hS => ?_)
      have hw := hw M5 e5
      refine lv_aload_n C.1 C.2.1 dX11_sendLine_45 rfl (lv_at hl 1 rfl) ?_
      refine lv_iconst (v := 0) C.1 C.2.1 dX11_sendLine_46 (by decide) ?_
      refine lv_iconst (v := 3) C.1 C.2.1 dX11_sendLine_47 (by decide) ?_
      refine goI (wf := (yw g)) (runV (w := yw g M5) (As := [.int 0, .int 3]) (rest := []) C lkX11_184 (c_X11_number l g C.2.2.2.2.2.2.2.2.2.2 0 3  M5 _ hw) hP hS rfl rfl ⟨Nat.le_of_ble_eq_true rfl, Nat.le_of_ble_eq_true rfl⟩ (xx_40 Nat.zero_lt_one) rfl rfl hl.1 rfl (Nat.le_of_ble_eq_true rfl) dX11_sendLine_48) hS (fun r6 M6 hw H locs hP hS => ?_)
      obtain ⟨hw, hz6⟩ := hw
      refine lv_if_ne (tgt := 56) C.1 C.2.1 dX11_sendLine_51 (by decide) (fun h7 => ?_) (fun h7 => ?_)
      · have hw := hw.1 h7
        refine lv_aload_n C.1 C.2.1 dX11_sendLine_56 rfl (lv_at hl 1 rfl) ?_
        refine gX11_23 C hP Nat.zero_lt_one dX11_sendLine_57 ?_
        refine lv_iload_n C.1 C.2.1 dX11_sendLine_60 rfl (lv_at hl 0 rfl) ?_
        refine lv_iconst (v := 1) C.1 C.2.1 dX11_sendLine_61 (by decide) ?_
        refine lv_iadd C.1 C.2.1 dX11_sendLine_62 ?_
        refine lv_aload_n C.1 C.2.1 dX11_sendLine_63 rfl (lv_at hl 1 rfl) ?_
        refine gX11_170 C hP Nat.zero_lt_one dX11_sendLine_64 ?_
        obtain ⟨h8, hw⟩ := hw
        refine as_44 C hP hS Nat.zero_lt_one h8 dX11_sendLine_67 (fun M8 e8 H locs hP hS => ?_)
        have hw := hw M8 e8
        refine lv_aload_n C.1 C.2.1 dX11_sendLine_68 rfl (lv_at hl 1 rfl) ?_
        refine lv_iconst (v := 0) C.1 C.2.1 dX11_sendLine_69 (by decide) ?_
        refine lv_bipush (v := 63) C.1 C.2.1 dX11_sendLine_70 (by decide) ?_
        refine goI (wf := (yw g)) (runV (w := yw g M8) (As := [.int 0, .int 63]) (rest := []) C lkX11_184 (c_X11_number l g C.2.2.2.2.2.2.2.2.2.2 0 63  M8 _ hw) hP hS rfl rfl ⟨Nat.le_of_ble_eq_true rfl, Nat.le_of_ble_eq_true rfl⟩ (xx_40 Nat.zero_lt_one) rfl rfl hl.1 rfl (Nat.le_of_ble_eq_true rfl) dX11_sendLine_72) hS (fun r9 M9 hw H locs hP hS => ?_)
        obtain ⟨hw, hz9⟩ := hw
        refine lv_if_ne (tgt := 80) C.1 C.2.1 dX11_sendLine_75 (by decide) (fun h10 => ?_) (fun h10 => ?_)
        · have hw := hw.1 h10
          refine lv_aload_n C.1 C.2.1 dX11_sendLine_80 rfl (lv_at hl 1 rfl) ?_
          refine gX11_23 C hP Nat.zero_lt_one dX11_sendLine_81 ?_
          refine lv_iload_n C.1 C.2.1 dX11_sendLine_84 rfl (lv_at hl 0 rfl) ?_
          refine lv_iconst (v := 2) C.1 C.2.1 dX11_sendLine_85 (by decide) ?_
          refine lv_iadd C.1 C.2.1 dX11_sendLine_86 ?_
          refine lv_aload_n C.1 C.2.1 dX11_sendLine_87 rfl (lv_at hl 1 rfl) ?_
          refine gX11_170 C hP Nat.zero_lt_one dX11_sendLine_88 ?_
          obtain ⟨h11, hw⟩ := hw
          refine as_44 C hP hS Nat.zero_lt_one h11 dX11_sendLine_91 (fun M11 e11 H locs hP hS => ?_)
          have hw := hw M11 e11
          refine lv_aload_n C.1 C.2.1 dX11_sendLine_92 rfl (lv_at hl 1 rfl) ?_
          refine lv_dup C.1 C.2.1 dX11_sendLine_93 rfl ?_
          refine gX11_118 C hP Nat.zero_lt_one dX11_sendLine_94 ?_
          refine lv_iconst (v := 1) C.1 C.2.1 dX11_sendLine_97 (by decide) ?_
          refine lv_iadd C.1 C.2.1 dX11_sendLine_98 ?_
          refine pX11_118 C hP hS Nat.zero_lt_one dX11_sendLine_99 (fun M12 e12 H locs hP hS => ?_)
          have hw := hw M12 e12
          refine lv_aload_n C.1 C.2.1 dX11_sendLine_102 rfl (lv_at hl 1 rfl) ?_
          refine lv_aload_n C.1 C.2.1 dX11_sendLine_103 rfl (lv_at hl 1 rfl) ?_
          refine gX11_23 C hP Nat.zero_lt_one dX11_sendLine_104 ?_
          refine lv_iload_n C.1 C.2.1 dX11_sendLine_107 rfl (lv_at hl 0 rfl) ?_
          obtain ⟨h13, hw⟩ := hw
          refine al_44 C hP Nat.zero_lt_one h13 dX11_sendLine_108 ?_
          refine lv_bipush (v := 9) C.1 C.2.1 dX11_sendLine_109 (by decide) ?_
          refine lv_aload_n C.1 C.2.1 dX11_sendLine_111 rfl (lv_at hl 1 rfl) ?_
          refine lv_aload_n C.1 C.2.1 dX11_sendLine_112 rfl (lv_at hl 1 rfl) ?_
          refine gX11_23 C hP Nat.zero_lt_one dX11_sendLine_113 ?_
          refine lv_iload_n C.1 C.2.1 dX11_sendLine_116 rfl (lv_at hl 0 rfl) ?_
          obtain ⟨h14, hw⟩ := hw
          refine al_44 C hP Nat.zero_lt_one h14 dX11_sendLine_117 ?_
          refine lv_bipush (v := 9) C.1 C.2.1 dX11_sendLine_118 (by decide) ?_
          refine goI (wf := (yw g)) (runV (w := yw g M12) (As := [.int (M12.1 44 0 (x4 : Int32).toNatClampNeg), .int 9]) (rest := [.int 9, .int (M12.1 44 0 (x4 : Int32).toNatClampNeg), .ref (g.2.1 (138 + 0))]) C lkX11_157 (c_X11_readOf l g C.2.2.2.2.2.2.2.2.2.2 ((M12.1 44 0 (x4 : Int32).toNatClampNeg)) 9  M12 _ hw) hP hS rfl rfl ⟨Nat.le_of_ble_eq_true rfl, Nat.le_of_ble_eq_true rfl⟩ (xx_40 Nat.zero_lt_one) rfl rfl hl.1 rfl (Nat.le_of_ble_eq_true rfl) dX11_sendLine_120) hS (fun r15 M15 hw H locs hP hS => ?_)
          refine lv_iconst (v := 1) C.1 C.2.1 dX11_sendLine_123 (by decide) ?_
          refine lv_iadd C.1 C.2.1 dX11_sendLine_124 ?_
          refine goV (wf := (yw g)) (runV (w := yw g M15) (As := [.int (M12.1 44 0 (x4 : Int32).toNatClampNeg), .int 9, .int (r15 + 1)]) (rest := []) C lkX11_180 (c_X11_read l g C.2.2.2.2.2.2.2.2.2.2 ((M12.1 44 0 (x4 : Int32).toNatClampNeg)) 9 ((r15 + 1))  M15 _ hw) hP hS rfl rfl ⟨Nat.le_of_ble_eq_true rfl, Nat.le_of_ble_eq_true rfl⟩ (xx_40 Nat.zero_lt_one) rfl rfl hl.1 rfl (Nat.le_of_ble_eq_true rfl) dX11_sendLine_125) hS (fun M16 hw H locs hP hS => ?_)
          refine lv_iconst (v := 1) C.1 C.2.1 dX11_sendLine_128 (by decide) ?_
          exact retZ (wf := (yw g)) C hP hS rfl hw dX11_sendLine_129
        · have hw := hw.2 h10
          refine lv_iconst (v := 0) C.1 C.2.1 dX11_sendLine_78 (by decide) ?_
          exact retZ (wf := (yw g)) C hP hS rfl hw dX11_sendLine_79
      · have hw := hw.2 h7
        refine lv_iconst (v := 0) C.1 C.2.1 dX11_sendLine_54 (by decide) ?_
        exact retZ (wf := (yw g)) C hP hS rfl hw dX11_sendLine_55
    · have hw := hw.2 h3
      refine lv_iconst (v := 0) C.1 C.2.1 dX11_sendLine_23 (by decide) ?_
      exact retZ (wf := (yw g)) C hP hS rfl hw dX11_sendLine_24
  · have hw := hw.2 h1
    refine lv_aload_n C.1 C.2.1 dX11_sendLine_9 rfl (lv_at hl 0 rfl) ?_
    refine lv_iconst (v := 2) C.1 C.2.1 dX11_sendLine_10 (by decide) ?_
    refine goI (wf := (yw g)) (runV (w := yw g M) (As := [.int 2]) (rest := []) C lkX11_163 (c_X11_wrong l g C.2.2.2.2.2.2.2.2.2.2 2  M _ hw) hP hS rfl rfl ⟨Nat.le_of_ble_eq_true rfl, Nat.le_of_ble_eq_true rfl⟩ (xx_40 Nat.zero_lt_one) rfl rfl hl.1 rfl (Nat.le_of_ble_eq_true rfl) dX11_sendLine_11) hS (fun r17 M17 hw H locs hP hS => ?_)
    obtain ⟨hw, hz17⟩ := hw
    exact retZ (wf := (yw g)) C hP hS hz17 hw dX11_sendLine_14
def b_X11_placeLine_26 (Q : Int32 → Mem → Prop) : Nat → Int32 → Int32 → Mem → Prop
  | 0, _, _, _ => False
  | n + 1, v1, v2, M => ((3 ≤ v2 → (Q 1 M)) ∧ (¬ 3 ≤ v2 → (p_X11_number 0 15 M (fun r6 M6 => ((¬ r6 = 0 → (p_X11_read v1 (((11 : Int32) + v2)) ((M6.1 40 0 19)) M6 (fun M8 => (∀ x9 : Int32, x9 = (v2 + 1) → (b_X11_placeLine_26 Q n v1 x9 M8))))) ∧ (r6 = 0 → (Q 0 M6)))))))
set_option maxRecDepth 100000 in
set_option maxHeartbeats 4000000 in
theorem k_X11_placeLine_26 {p : Program} {l : Launch} {e : Env} {s : State} {m : MethodId} {args : Array Value} {below : List Frame} {meth : Method} {c : Code} {g : Geo} (C : CX g p s m args meth c cX11_placeLine 3 (some .boolean) RX11) {Q : Int32 → Mem → Prop} : ∀ (n : Nat) (v1 : Int32) (v2 : Int32) (M : Mem) (hw : b_X11_placeLine_26 Q n v1 v2 M) {H : Heap} {locs : List Loc} {ls : Array Slot} (hl : lv_has ls 3 [(0, .ref (g.2.1 (138 + 0))), (1, .int v1), (2, .int v2)]) (hP : va_P g.1 clz (yw g M) H) (hS : va_S (Af 1 g) s.heap H locs), W p l e ({ frames := 3, cells := 0, slots := 0, locals := 69 } : Room) s m args below meth c H locs 0 0 (MQ below (va_Qi (fun r M => Q r M ∧ narrow .boolean (.int r) = .int r) (PB g (yw g)) (Af 1 g)) args s 0 0 (Af 1 g)) (F0 m 26 ls []) := by
  intro n
  induction n with
  | zero => intro v1 v2 M hw H locs ls hl hP hS; exact absurd hw (by rw [b_X11_placeLine_26]; exact fun h => h)
  | succ n ih =>
    intro v1 v2 M hw H locs ls hl hP hS
    rw [b_X11_placeLine_26] at hw
    refine lv_iload_n C.1 C.2.1 dX11_placeLine_26 rfl (lv_at hl 2 rfl) ?_
    refine lv_iconst (v := 3) C.1 C.2.1 dX11_placeLine_27 (by decide) ?_
    refine lv_icmp_ge (tgt := 62) C.1 C.2.1 dX11_placeLine_28 (by decide) (fun h5 => ?_) (fun h5 => ?_)
    · have hw := hw.1 h5
      refine lv_iconst (v := 1) C.1 C.2.1 dX11_placeLine_62 (by decide) ?_
      exact retZ (wf := (yw g)) C hP hS rfl hw dX11_placeLine_63
    · have hw := hw.2 h5
      refine lv_aload_n C.1 C.2.1 dX11_placeLine_31 rfl (lv_at hl 0 rfl) ?_
      refine lv_iconst (v := 0) C.1 C.2.1 dX11_placeLine_32 (by decide) ?_
      refine lv_bipush (v := 15) C.1 C.2.1 dX11_placeLine_33 (by decide) ?_
      refine goI (wf := (yw g)) (runV (w := yw g M) (As := [.int 0, .int 15]) (rest := []) C lkX11_184 (c_X11_number l g C.2.2.2.2.2.2.2.2.2.2 0 15  M _ hw) hP hS rfl rfl ⟨Nat.le_of_ble_eq_true rfl, Nat.le_of_ble_eq_true rfl⟩ (xx_40 Nat.zero_lt_one) rfl rfl hl.1 rfl (Nat.le_of_ble_eq_true rfl) dX11_placeLine_35) hS (fun r6 M6 hw H locs hP hS => ?_)
      obtain ⟨hw, hz6⟩ := hw
      refine lv_if_ne (tgt := 43) C.1 C.2.1 dX11_placeLine_38 (by decide) (fun h7 => ?_) (fun h7 => ?_)
      · have hw := hw.1 h7
        refine lv_aload_n C.1 C.2.1 dX11_placeLine_43 rfl (lv_at hl 0 rfl) ?_
        refine lv_iload_n C.1 C.2.1 dX11_placeLine_44 rfl (lv_at hl 1 rfl) ?_
        refine lv_bipush (v := 11) C.1 C.2.1 dX11_placeLine_45 (by decide) ?_
        refine lv_iload_n C.1 C.2.1 dX11_placeLine_47 rfl (lv_at hl 2 rfl) ?_
        refine lv_iadd C.1 C.2.1 dX11_placeLine_48 ?_
        refine lv_aload_n C.1 C.2.1 dX11_placeLine_49 rfl (lv_at hl 0 rfl) ?_
        refine gX11_170 C hP Nat.zero_lt_one dX11_placeLine_50 ?_
        refine goV (wf := (yw g)) (runV (w := yw g M6) (As := [.int v1, .int ((11 : Int32) + v2), .int (M6.1 40 0 19)]) (rest := []) C lkX11_180 (c_X11_read l g C.2.2.2.2.2.2.2.2.2.2 v1 (((11 : Int32) + v2)) ((M6.1 40 0 19))  M6 _ hw) hP hS rfl rfl ⟨Nat.le_of_ble_eq_true rfl, Nat.le_of_ble_eq_true rfl⟩ (xx_40 Nat.zero_lt_one) rfl rfl hl.1 rfl (Nat.le_of_ble_eq_true rfl) dX11_placeLine_53) hS (fun M8 hw H locs hP hS => ?_)
        obtain ⟨x9, e9⟩ : ∃ y : Int32, y = (v2 + 1) := ⟨_, rfl⟩
        have hw := hw x9 e9
        refine lv_iinc (v := x9) (lv' := [(2, .int x9), (0, .ref (g.2.1 (138 + 0))), (1, .int v1)]) C.1 C.2.1 dX11_placeLine_56 hl (k := 2) rfl (by rw [e9]; rfl) (by decide) rfl (fun ls hl => ?_)
        refine lv_goto (tgt := 26) C.1 C.2.1 dX11_placeLine_59 (by decide) ?_
        exact ih v1 x9  _ hw (lv_sub hl [1, 2, 0] rfl) hP hS
      · have hw := hw.2 h7
        refine lv_iconst (v := 0) C.1 C.2.1 dX11_placeLine_41 (by decide) ?_
        exact retZ (wf := (yw g)) C hP hS rfl hw dX11_placeLine_42
def p_X11_placeLine (M : Mem) (Q : Int32 → Mem → Prop) : Prop := (p_X11_birdRead 10 M (fun r1 M1 => ((¬ r1 = 0 → (∀ x3 : Int32, x3 = (M1.1 40 0 19) → (p_X11_read x3 10 1 M1 (fun M4 => (∃ n26 : Nat, b_X11_placeLine_26 Q n26 x3 0 M4))))) ∧ (r1 = 0 → (Q 0 M1)))))
set_option maxRecDepth 100000 in
set_option maxHeartbeats 4000000 in
theorem c_X11_placeLine (l : Launch) (g : Geo) (gi : GI g) (M : Mem) (Q : Int32 → Mem → Prop) (hw : p_X11_placeLine  M Q) : Met l yX11_placeLine (Cond.code yX11_placeLine cX11_placeLine 3 (some .boolean) :: bg) ({ frames := 3, cells := 0, slots := 0, locals := 69 } : Room) (va_Pc [.ref (g.2.1 (138 + 0))] (PW g (yw g M))) (va_Qi (fun r M => Q r M ∧ narrow .boolean (.int r) = .int r) (PB g (yw g)) (Af 1 g)) 0 0 (Af 1 g) := by
  refine Met.ofW (cc := cX11_placeLine) (maxL := 3) (ret := (some .boolean)) (by decide +kernel) rfl ?_
  intro p e s m args below meth c s₁ B hml hv
  obtain ⟨rfl, hv⟩ := hv
  have C := CX.start (own := RX11) B hml rfl gi hv
  have hP := hv.1
  have hS : va_S (Af 1 g) s.heap s.heap [] := va_S.rf
  have hl := lv_entry ([.ref (g.2.1 (138 + 0))]) (n := 3) (Nat.le_of_ble_eq_true rfl)
  rw [lg_entry_eq]
  generalize (lg_sl ([.ref (g.2.1 (138 + 0))]) ++ List.replicate (3 - (lg_sl ([.ref (g.2.1 (138 + 0))])).length) Slot.unset).toArray = ls at hl ⊢
  have hl : lv_has ls 3 [(0, .ref (g.2.1 (138 + 0)))] := hl
  unfold p_X11_placeLine at hw
  refine lv_aload_n C.1 C.2.1 dX11_placeLine_0 rfl (lv_at hl 0 rfl) ?_
  refine lv_bipush (v := 10) C.1 C.2.1 dX11_placeLine_1 (by decide) ?_
  refine goI (wf := (yw g)) (runV (w := yw g M) (As := [.int 10]) (rest := []) C lkX11_188 (c_X11_birdRead l g C.2.2.2.2.2.2.2.2.2.2 10  M _ hw) hP hS rfl rfl ⟨Nat.le_of_ble_eq_true rfl, Nat.le_of_ble_eq_true rfl⟩ (xx_40 Nat.zero_lt_one) rfl rfl hl.1 rfl (Nat.le_of_ble_eq_true rfl) dX11_placeLine_3) hS (fun r1 M1 hw H locs hP hS => ?_)
  obtain ⟨hw, hz1⟩ := hw
  refine lv_if_ne (tgt := 11) C.1 C.2.1 dX11_placeLine_6 (by decide) (fun h2 => ?_) (fun h2 => ?_)
  · have hw := hw.1 h2
    refine lv_aload_n C.1 C.2.1 dX11_placeLine_11 rfl (lv_at hl 0 rfl) ?_
    refine gX11_170 C hP Nat.zero_lt_one dX11_placeLine_12 ?_
    refine lv_topi (fun x3 e3 => ?_)
    have hw := hw x3 e3
    refine lv_istore_n (lv' := [(1, .int x3), (0, .ref (g.2.1 (138 + 0)))]) C.1 C.2.1 dX11_placeLine_15 rfl hl (by decide) rfl (fun ls hl => ?_)
    refine lv_aload_n C.1 C.2.1 dX11_placeLine_16 rfl (lv_at hl 1 rfl) ?_
    refine lv_iload_n C.1 C.2.1 dX11_placeLine_17 rfl (lv_at hl 0 rfl) ?_
    refine lv_bipush (v := 10) C.1 C.2.1 dX11_placeLine_18 (by decide) ?_
    refine lv_iconst (v := 1) C.1 C.2.1 dX11_placeLine_20 (by decide) ?_
    refine goV (wf := (yw g)) (runV (w := yw g M1) (As := [.int x3, .int 10, .int 1]) (rest := []) C lkX11_180 (c_X11_read l g C.2.2.2.2.2.2.2.2.2.2 x3 10 1  M1 _ hw) hP hS rfl rfl ⟨Nat.le_of_ble_eq_true rfl, Nat.le_of_ble_eq_true rfl⟩ (xx_40 Nat.zero_lt_one) rfl rfl hl.1 rfl (Nat.le_of_ble_eq_true rfl) dX11_placeLine_21) hS (fun M4 hw H locs hP hS => ?_)
    refine lv_iconst (v := 0) C.1 C.2.1 dX11_placeLine_24 (by decide) ?_
    refine lv_istore_n (lv' := [(2, .int 0), (1, .int x3), (0, .ref (g.2.1 (138 + 0)))]) C.1 C.2.1 dX11_placeLine_25 rfl hl (by decide) rfl (fun ls hl => ?_)
    obtain ⟨n9, hw⟩ := hw
    exact k_X11_placeLine_26 (Q := Q) C n9 x3 0  _ hw (lv_sub hl [2, 1, 0] rfl) hP hS
  · have hw := hw.2 h2
    refine lv_iconst (v := 0) C.1 C.2.1 dX11_placeLine_9 (by decide) ?_
    exact retZ (wf := (yw g)) C hP hS rfl hw dX11_placeLine_10
def b_X11_homeLine_49 (Q : Int32 → Mem → Prop) (k30 : Int32 → Mem → Prop) (v1 : Int32) (s1 : Int32) (s2 : Int32) (M : Mem) : Prop := (p_X11_number s1 s2 M (fun r8 M8 => ((¬ r8 = 0 → (vp_in ((30 : Int32) + v1) 34 ∧ (∀ M10 : Mem, M10 = sI M8 45 0 (((30 : Int32) + v1) : Int32).toNatClampNeg (M8.1 40 0 19) → (∀ x11 : Int32, x11 = (v1 + 1) → (k30 x11 M10))))) ∧ (r8 = 0 → (Q 0 M8)))))
set_option maxRecDepth 100000 in
set_option maxHeartbeats 4000000 in
theorem k_X11_homeLine_49 {p : Program} {l : Launch} {e : Env} {s : State} {m : MethodId} {args : Array Value} {below : List Frame} {meth : Method} {c : Code} {g : Geo} (C : CX g p s m args meth c cX11_homeLine 2 (some .boolean) RX11) {Q : Int32 → Mem → Prop} {k30 : Int32 → Mem → Prop} (hk30 : ∀ (v1 : Int32) (M : Mem), k30 v1 M → ∀ (H : Heap) (locs : List Loc) (ls : Array Slot), lv_has ls 2 [(0, .ref (g.2.1 (138 + 0))), (1, .int v1)] → va_P g.1 clz (yw g M) H → va_S (Af 1 g) s.heap H locs → W p l e ({ frames := 3, cells := 0, slots := 0, locals := 69 } : Room) s m args below meth c H locs 0 0 (MQ below (va_Qi (fun r M => Q r M ∧ narrow .boolean (.int r) = .int r) (PB g (yw g)) (Af 1 g)) args s 0 0 (Af 1 g)) (F0 m 30 ls [])) (v1 : Int32) (s1 : Int32) (s2 : Int32) (M : Mem) (hw : b_X11_homeLine_49 Q k30 v1 s1 s2 M) {H : Heap} {locs : List Loc} {ls : Array Slot} (hl : lv_has ls 2 [(0, .ref (g.2.1 (138 + 0))), (1, .int v1)]) (hP : va_P g.1 clz (yw g M) H) (hS : va_S (Af 1 g) s.heap H locs) : W p l e ({ frames := 3, cells := 0, slots := 0, locals := 69 } : Room) s m args below meth c H locs 0 0 (MQ below (va_Qi (fun r M => Q r M ∧ narrow .boolean (.int r) = .int r) (PB g (yw g)) (Af 1 g)) args s 0 0 (Af 1 g)) (F0 m 49 ls [.int s2, .int s1, .ref (g.2.1 (138 + 0))]) := by
  unfold b_X11_homeLine_49 at hw
  refine goI (wf := (yw g)) (runV (w := yw g M) (As := [.int s1, .int s2]) (rest := []) C lkX11_184 (c_X11_number l g C.2.2.2.2.2.2.2.2.2.2 s1 s2  M _ hw) hP hS rfl rfl ⟨Nat.le_of_ble_eq_true rfl, Nat.le_of_ble_eq_true rfl⟩ (xx_40 Nat.zero_lt_one) rfl rfl hl.1 rfl (Nat.le_of_ble_eq_true rfl) dX11_homeLine_49) hS (fun r8 M8 hw H locs hP hS => ?_)
  obtain ⟨hw, hz8⟩ := hw
  refine lv_if_ne (tgt := 57) C.1 C.2.1 dX11_homeLine_52 (by decide) (fun h9 => ?_) (fun h9 => ?_)
  · have hw := hw.1 h9
    refine lv_aload_n C.1 C.2.1 dX11_homeLine_57 rfl (lv_at hl 0 rfl) ?_
    refine gX11_26 C hP Nat.zero_lt_one dX11_homeLine_58 ?_
    refine lv_bipush (v := 30) C.1 C.2.1 dX11_homeLine_61 (by decide) ?_
    refine lv_iload_n C.1 C.2.1 dX11_homeLine_63 rfl (lv_at hl 1 rfl) ?_
    refine lv_iadd C.1 C.2.1 dX11_homeLine_64 ?_
    refine lv_aload_n C.1 C.2.1 dX11_homeLine_65 rfl (lv_at hl 0 rfl) ?_
    refine gX11_170 C hP Nat.zero_lt_one dX11_homeLine_66 ?_
    obtain ⟨h10, hw⟩ := hw
    refine as_45 C hP hS Nat.zero_lt_one h10 dX11_homeLine_69 (fun M10 e10 H locs hP hS => ?_)
    have hw := hw M10 e10
    obtain ⟨x11, e11⟩ : ∃ y : Int32, y = (v1 + 1) := ⟨_, rfl⟩
    have hw := hw x11 e11
    refine lv_iinc (v := x11) (lv' := [(1, .int x11), (0, .ref (g.2.1 (138 + 0)))]) C.1 C.2.1 dX11_homeLine_70 hl (k := 1) rfl (by rw [e11]; rfl) (by decide) rfl (fun ls hl => ?_)
    refine lv_goto (tgt := 30) C.1 C.2.1 dX11_homeLine_73 (by decide) ?_
    exact hk30 x11  _ hw _ _ _ (lv_sub hl [1, 0] rfl) hP hS
  · have hw := hw.2 h9
    refine lv_iconst (v := 0) C.1 C.2.1 dX11_homeLine_55 (by decide) ?_
    exact retZ (wf := (yw g)) C hP hS rfl hw dX11_homeLine_56
def b_X11_homeLine_30 (Q : Int32 → Mem → Prop) : Nat → Int32 → Mem → Prop
  | 0, _, _ => False
  | n + 1, v1, M => ((4 ≤ v1 → (vp_in 29 34 ∧ (∀ M6 : Mem, M6 = sI M 45 0 (29 : Int32).toNatClampNeg 1 → (Q 1 M6)))) ∧ (¬ 4 ≤ v1 → ((¬ v1 = 3 → (b_X11_homeLine_49 Q (fun v1 M => b_X11_homeLine_30 Q n v1 M) v1 0 15 M)) ∧ (v1 = 3 → (b_X11_homeLine_49 Q (fun v1 M => b_X11_homeLine_30 Q n v1 M) v1 0 20 M)))))
set_option maxRecDepth 100000 in
set_option maxHeartbeats 4000000 in
theorem k_X11_homeLine_30 {p : Program} {l : Launch} {e : Env} {s : State} {m : MethodId} {args : Array Value} {below : List Frame} {meth : Method} {c : Code} {g : Geo} (C : CX g p s m args meth c cX11_homeLine 2 (some .boolean) RX11) {Q : Int32 → Mem → Prop} : ∀ (n : Nat) (v1 : Int32) (M : Mem) (hw : b_X11_homeLine_30 Q n v1 M) {H : Heap} {locs : List Loc} {ls : Array Slot} (hl : lv_has ls 2 [(0, .ref (g.2.1 (138 + 0))), (1, .int v1)]) (hP : va_P g.1 clz (yw g M) H) (hS : va_S (Af 1 g) s.heap H locs), W p l e ({ frames := 3, cells := 0, slots := 0, locals := 69 } : Room) s m args below meth c H locs 0 0 (MQ below (va_Qi (fun r M => Q r M ∧ narrow .boolean (.int r) = .int r) (PB g (yw g)) (Af 1 g)) args s 0 0 (Af 1 g)) (F0 m 30 ls []) := by
  intro n
  induction n with
  | zero => intro v1 M hw H locs ls hl hP hS; exact absurd hw (by rw [b_X11_homeLine_30]; exact fun h => h)
  | succ n ih =>
    intro v1 M hw H locs ls hl hP hS
    rw [b_X11_homeLine_30] at hw
    refine lv_iload_n C.1 C.2.1 dX11_homeLine_30 rfl (lv_at hl 1 rfl) ?_
    refine lv_iconst (v := 4) C.1 C.2.1 dX11_homeLine_31 (by decide) ?_
    refine lv_icmp_ge (tgt := 76) C.1 C.2.1 dX11_homeLine_32 (by decide) (fun h5 => ?_) (fun h5 => ?_)
    · have hw := hw.1 h5
      refine lv_aload_n C.1 C.2.1 dX11_homeLine_76 rfl (lv_at hl 0 rfl) ?_
      refine gX11_26 C hP Nat.zero_lt_one dX11_homeLine_77 ?_
      refine lv_bipush (v := 29) C.1 C.2.1 dX11_homeLine_80 (by decide) ?_
      refine lv_iconst (v := 1) C.1 C.2.1 dX11_homeLine_82 (by decide) ?_
      obtain ⟨h6, hw⟩ := hw
      refine as_45 C hP hS Nat.zero_lt_one h6 dX11_homeLine_83 (fun M6 e6 H locs hP hS => ?_)
      have hw := hw M6 e6
      refine lv_iconst (v := 1) C.1 C.2.1 dX11_homeLine_84 (by decide) ?_
      exact retZ (wf := (yw g)) C hP hS rfl hw dX11_homeLine_85
    · have hw := hw.2 h5
      refine lv_aload_n C.1 C.2.1 dX11_homeLine_35 rfl (lv_at hl 0 rfl) ?_
      refine lv_iconst (v := 0) C.1 C.2.1 dX11_homeLine_36 (by decide) ?_
      refine lv_iload_n C.1 C.2.1 dX11_homeLine_37 rfl (lv_at hl 1 rfl) ?_
      refine lv_iconst (v := 3) C.1 C.2.1 dX11_homeLine_38 (by decide) ?_
      refine lv_icmp_ne (tgt := 47) C.1 C.2.1 dX11_homeLine_39 (by decide) (fun h7 => ?_) (fun h7 => ?_)
      · have hw := hw.1 h7
        refine lv_bipush (v := 15) C.1 C.2.1 dX11_homeLine_47 (by decide) ?_
        exact k_X11_homeLine_49 (Q := Q) C (fun v1  M hw H locs ls hl hP hS => ih v1  M hw hl hP hS) v1 0 15  _ hw (lv_sub hl [0, 1] rfl) hP hS
      · have hw := hw.2 h7
        refine lv_bipush (v := 20) C.1 C.2.1 dX11_homeLine_42 (by decide) ?_
        refine lv_goto (tgt := 49) C.1 C.2.1 dX11_homeLine_44 (by decide) ?_
        exact k_X11_homeLine_49 (Q := Q) C (fun v1  M hw H locs ls hl hP hS => ih v1  M hw hl hP hS) v1 0 20  _ hw (lv_sub hl [0, 1] rfl) hP hS
def p_X11_homeLine (M : Mem) (Q : Int32 → Mem → Prop) : Prop := (vp_in 6 12 ∧ (((M.1 46 0 (6 : Int32).toNatClampNeg) = 0 → (vp_in 6 12 ∧ (∀ M3 : Mem, M3 = sI M 46 0 (6 : Int32).toNatClampNeg (vp_nar .boolean 1) → (p_X11_token  M3 (fun M4 => (∃ n30 : Nat, b_X11_homeLine_30 Q n30 0 M4)))))) ∧ (¬ (M.1 46 0 (6 : Int32).toNatClampNeg) = 0 → (p_X11_wrong 3 M (fun r12 M12 => (Q r12 M12))))))
set_option maxRecDepth 100000 in
set_option maxHeartbeats 4000000 in
theorem c_X11_homeLine (l : Launch) (g : Geo) (gi : GI g) (M : Mem) (Q : Int32 → Mem → Prop) (hw : p_X11_homeLine  M Q) : Met l yX11_homeLine (Cond.code yX11_homeLine cX11_homeLine 2 (some .boolean) :: bg) ({ frames := 3, cells := 0, slots := 0, locals := 69 } : Room) (va_Pc [.ref (g.2.1 (138 + 0))] (PW g (yw g M))) (va_Qi (fun r M => Q r M ∧ narrow .boolean (.int r) = .int r) (PB g (yw g)) (Af 1 g)) 0 0 (Af 1 g) := by
  refine Met.ofW (cc := cX11_homeLine) (maxL := 2) (ret := (some .boolean)) (by decide +kernel) rfl ?_
  intro p e s m args below meth c s₁ B hml hv
  obtain ⟨rfl, hv⟩ := hv
  have C := CX.start (own := RX11) B hml rfl gi hv
  have hP := hv.1
  have hS : va_S (Af 1 g) s.heap s.heap [] := va_S.rf
  have hl := lv_entry ([.ref (g.2.1 (138 + 0))]) (n := 2) (Nat.le_of_ble_eq_true rfl)
  rw [lg_entry_eq]
  generalize (lg_sl ([.ref (g.2.1 (138 + 0))]) ++ List.replicate (2 - (lg_sl ([.ref (g.2.1 (138 + 0))])).length) Slot.unset).toArray = ls at hl ⊢
  have hl : lv_has ls 2 [(0, .ref (g.2.1 (138 + 0)))] := hl
  unfold p_X11_homeLine at hw
  refine lv_aload_n C.1 C.2.1 dX11_homeLine_0 rfl (lv_at hl 0 rfl) ?_
  refine gX11_29 C hP Nat.zero_lt_one dX11_homeLine_1 ?_
  refine lv_bipush (v := 6) C.1 C.2.1 dX11_homeLine_4 (by decide) ?_
  obtain ⟨h1, hw⟩ := hw
  refine al_46 C hP Nat.zero_lt_one h1 dX11_homeLine_6 ?_
  refine lv_if_eq (tgt := 16) C.1 C.2.1 dX11_homeLine_7 (by decide) (fun h2 => ?_) (fun h2 => ?_)
  · have hw := hw.1 h2
    refine lv_aload_n C.1 C.2.1 dX11_homeLine_16 rfl (lv_at hl 0 rfl) ?_
    refine gX11_29 C hP Nat.zero_lt_one dX11_homeLine_17 ?_
    refine lv_bipush (v := 6) C.1 C.2.1 dX11_homeLine_20 (by decide) ?_
    refine lv_iconst (v := 1) C.1 C.2.1 dX11_homeLine_22 (by decide) ?_
    obtain ⟨h3, hw⟩ := hw
    refine as_46 C hP hS Nat.zero_lt_one h3 dX11_homeLine_23 (fun M3 e3 H locs hP hS => ?_)
    have hw := hw M3 e3
    refine lv_aload_n C.1 C.2.1 dX11_homeLine_24 rfl (lv_at hl 0 rfl) ?_
    refine goV (wf := (yw g)) (runV (w := yw g M3) (As := []) (rest := []) C lkX11_173 (c_X11_token l g C.2.2.2.2.2.2.2.2.2.2   M3 _ hw) hP hS rfl rfl ⟨Nat.le_of_ble_eq_true rfl, Nat.le_of_ble_eq_true rfl⟩ (xx_40 Nat.zero_lt_one) rfl rfl hl.1 rfl (Nat.le_of_ble_eq_true rfl) dX11_homeLine_25) hS (fun M4 hw H locs hP hS => ?_)
    refine lv_iconst (v := 0) C.1 C.2.1 dX11_homeLine_28 (by decide) ?_
    refine lv_istore_n (lv' := [(1, .int 0), (0, .ref (g.2.1 (138 + 0)))]) C.1 C.2.1 dX11_homeLine_29 rfl hl (by decide) rfl (fun ls hl => ?_)
    obtain ⟨n9, hw⟩ := hw
    exact k_X11_homeLine_30 (Q := Q) C n9 0  _ hw (lv_sub hl [1, 0] rfl) hP hS
  · have hw := hw.2 h2
    refine lv_aload_n C.1 C.2.1 dX11_homeLine_10 rfl (lv_at hl 0 rfl) ?_
    refine lv_iconst (v := 3) C.1 C.2.1 dX11_homeLine_11 (by decide) ?_
    refine goI (wf := (yw g)) (runV (w := yw g M) (As := [.int 3]) (rest := []) C lkX11_163 (c_X11_wrong l g C.2.2.2.2.2.2.2.2.2.2 3  M _ hw) hP hS rfl rfl ⟨Nat.le_of_ble_eq_true rfl, Nat.le_of_ble_eq_true rfl⟩ (xx_40 Nat.zero_lt_one) rfl rfl hl.1 rfl (Nat.le_of_ble_eq_true rfl) dX11_homeLine_12) hS (fun r12 M12 hw H locs hP hS => ?_)
    obtain ⟨hw, hz12⟩ := hw
    exact retZ (wf := (yw g)) C hP hS hz12 hw dX11_homeLine_15
def b_X11_wordLine_43 (Q : Int32 → Mem → Prop) (k93 : Int32 → Int32 → Mem → Prop) (v1 : Int32) (M : Mem) : Prop := (p_X11_number 1 31 M (fun r7 M7 => (k93 v1 r7 M7)))
set_option maxRecDepth 100000 in
set_option maxHeartbeats 4000000 in
theorem k_X11_wordLine_43 {p : Program} {l : Launch} {e : Env} {s : State} {m : MethodId} {args : Array Value} {below : List Frame} {meth : Method} {c : Code} {g : Geo} (C : CX g p s m args meth c cX11_wordLine 3 (some .boolean) RX11) {Q : Int32 → Mem → Prop} {k93 : Int32 → Int32 → Mem → Prop} (hk93 : ∀ (v1 : Int32) (s0 : Int32) (M : Mem), k93 v1 s0 M → ∀ (H : Heap) (locs : List Loc) (ls : Array Slot), lv_has ls 3 [(0, .ref (g.2.1 (138 + 0))), (1, .int v1)] → va_P g.1 clz (yw g M) H → va_S (Af 1 g) s.heap H locs → W p l e ({ frames := 3, cells := 0, slots := 0, locals := 69 } : Room) s m args below meth c H locs 0 0 (MQ below (va_Qi (fun r M => Q r M ∧ narrow .boolean (.int r) = .int r) (PB g (yw g)) (Af 1 g)) args s 0 0 (Af 1 g)) (F0 m 93 ls [.int s0])) (v1 : Int32) (M : Mem) (hw : b_X11_wordLine_43 Q k93 v1 M) {H : Heap} {locs : List Loc} {ls : Array Slot} (hl : lv_has ls 3 [(0, .ref (g.2.1 (138 + 0))), (1, .int v1)]) (hP : va_P g.1 clz (yw g M) H) (hS : va_S (Af 1 g) s.heap H locs) : W p l e ({ frames := 3, cells := 0, slots := 0, locals := 69 } : Room) s m args below meth c H locs 0 0 (MQ below (va_Qi (fun r M => Q r M ∧ narrow .boolean (.int r) = .int r) (PB g (yw g)) (Af 1 g)) args s 0 0 (Af 1 g)) (F0 m 43 ls []) := by
  unfold b_X11_wordLine_43 at hw
  refine lv_aload_n C.1 C.2.1 dX11_wordLine_43 rfl (lv_at hl 0 rfl) ?_
  refine lv_iconst (v := 1) C.1 C.2.1 dX11_wordLine_44 (by decide) ?_
  refine lv_bipush (v := 31) C.1 C.2.1 dX11_wordLine_45 (by decide) ?_
  refine goI (wf := (yw g)) (runV (w := yw g M) (As := [.int 1, .int 31]) (rest := []) C lkX11_184 (c_X11_number l g C.2.2.2.2.2.2.2.2.2.2 1 31  M _ hw) hP hS rfl rfl ⟨Nat.le_of_ble_eq_true rfl, Nat.le_of_ble_eq_true rfl⟩ (xx_40 Nat.zero_lt_one) rfl rfl hl.1 rfl (Nat.le_of_ble_eq_true rfl) dX11_wordLine_47) hS (fun r7 M7 hw H locs hP hS => ?_)
  obtain ⟨hw, hz7⟩ := hw
  refine lv_goto (tgt := 93) C.1 C.2.1 dX11_wordLine_50 (by decide) ?_
  exact hk93 v1 r7  _ hw _ _ _ (lv_sub hl [0, 1] rfl) hP hS
def b_X11_wordLine_93 (Q : Int32 → Mem → Prop) (v1 : Int32) (s0 : Int32) (M : Mem) : Prop := ((¬ s0 = 0 → (vp_in ((17 : Int32) + v1) 34 ∧ (∀ M9 : Mem, M9 = sI M 45 0 (((17 : Int32) + v1) : Int32).toNatClampNeg (M.1 40 0 19) → (Q 1 M9)))) ∧ (s0 = 0 → (Q 0 M)))
set_option maxRecDepth 100000 in
set_option maxHeartbeats 4000000 in
theorem k_X11_wordLine_93 {p : Program} {l : Launch} {e : Env} {s : State} {m : MethodId} {args : Array Value} {below : List Frame} {meth : Method} {c : Code} {g : Geo} (C : CX g p s m args meth c cX11_wordLine 3 (some .boolean) RX11) {Q : Int32 → Mem → Prop} (v1 : Int32) (s0 : Int32) (M : Mem) (hw : b_X11_wordLine_93 Q v1 s0 M) {H : Heap} {locs : List Loc} {ls : Array Slot} (hl : lv_has ls 3 [(0, .ref (g.2.1 (138 + 0))), (1, .int v1)]) (hP : va_P g.1 clz (yw g M) H) (hS : va_S (Af 1 g) s.heap H locs) : W p l e ({ frames := 3, cells := 0, slots := 0, locals := 69 } : Room) s m args below meth c H locs 0 0 (MQ below (va_Qi (fun r M => Q r M ∧ narrow .boolean (.int r) = .int r) (PB g (yw g)) (Af 1 g)) args s 0 0 (Af 1 g)) (F0 m 93 ls [.int s0]) := by
  unfold b_X11_wordLine_93 at hw
  refine lv_istore_n (lv' := [(2, .int s0), (0, .ref (g.2.1 (138 + 0))), (1, .int v1)]) C.1 C.2.1 dX11_wordLine_93 rfl hl (by decide) rfl (fun ls hl => ?_)
  refine lv_iload_n C.1 C.2.1 dX11_wordLine_94 rfl (lv_at hl 0 rfl) ?_
  refine lv_if_ne (tgt := 100) C.1 C.2.1 dX11_wordLine_95 (by decide) (fun h8 => ?_) (fun h8 => ?_)
  · have hw := hw.1 h8
    refine lv_aload_n C.1 C.2.1 dX11_wordLine_100 rfl (lv_at hl 1 rfl) ?_
    refine gX11_26 C hP Nat.zero_lt_one dX11_wordLine_101 ?_
    refine lv_bipush (v := 17) C.1 C.2.1 dX11_wordLine_104 (by decide) ?_
    refine lv_iload_n C.1 C.2.1 dX11_wordLine_106 rfl (lv_at hl 2 rfl) ?_
    refine lv_iadd C.1 C.2.1 dX11_wordLine_107 ?_
    refine lv_aload_n C.1 C.2.1 dX11_wordLine_108 rfl (lv_at hl 1 rfl) ?_
    refine gX11_170 C hP Nat.zero_lt_one dX11_wordLine_109 ?_
    obtain ⟨h9, hw⟩ := hw
    refine as_45 C hP hS Nat.zero_lt_one h9 dX11_wordLine_112 (fun M9 e9 H locs hP hS => ?_)
    have hw := hw M9 e9
    refine lv_iconst (v := 1) C.1 C.2.1 dX11_wordLine_113 (by decide) ?_
    exact retZ (wf := (yw g)) C hP hS rfl hw dX11_wordLine_114
  · have hw := hw.2 h8
    refine lv_iconst (v := 0) C.1 C.2.1 dX11_wordLine_98 (by decide) ?_
    exact retZ (wf := (yw g)) C hP hS rfl hw dX11_wordLine_99
def p_X11_wordLine (M : Mem) (Q : Int32 → Mem → Prop) : Prop := (∀ x1 : Int32, x1 = (M.1 40 0 9) → (vp_in x1 12 ∧ (((M.1 46 0 (x1 : Int32).toNatClampNeg) = 0 → (vp_in x1 12 ∧ (∀ M4 : Mem, M4 = sI M 46 0 (x1 : Int32).toNatClampNeg (vp_nar .boolean 1) → (p_X11_token  M4 (fun M5 => ((x1 = 7 → (b_X11_wordLine_43 Q (fun v1 s0 M => b_X11_wordLine_93 Q v1 s0 M) x1 M5)) ∧ (¬ x1 = 7 → ((¬ x1 = 8 → ((¬ x1 = 9 → ((¬ x1 = 10 → (p_X11_number 10 99 M5 (fun r13 M13 => (b_X11_wordLine_93 Q x1 r13 M13)))) ∧ (x1 = 10 → (p_X11_number 0 99999 M5 (fun r14 M14 => (b_X11_wordLine_93 Q x1 r14 M14)))))) ∧ (x1 = 9 → (p_X11_number 0 99 M5 (fun r15 M15 => (b_X11_wordLine_93 Q x1 r15 M15)))))) ∧ (x1 = 8 → (b_X11_wordLine_43 Q (fun v1 s0 M => b_X11_wordLine_93 Q v1 s0 M) x1 M5)))))))))) ∧ (¬ (M.1 46 0 (x1 : Int32).toNatClampNeg) = 0 → (p_X11_wrong 3 M (fun r16 M16 => (Q r16 M16)))))))
set_option maxRecDepth 100000 in
set_option maxHeartbeats 4000000 in
theorem c_X11_wordLine (l : Launch) (g : Geo) (gi : GI g) (M : Mem) (Q : Int32 → Mem → Prop) (hw : p_X11_wordLine  M Q) : Met l yX11_wordLine (Cond.code yX11_wordLine cX11_wordLine 3 (some .boolean) :: bg) ({ frames := 3, cells := 0, slots := 0, locals := 69 } : Room) (va_Pc [.ref (g.2.1 (138 + 0))] (PW g (yw g M))) (va_Qi (fun r M => Q r M ∧ narrow .boolean (.int r) = .int r) (PB g (yw g)) (Af 1 g)) 0 0 (Af 1 g) := by
  refine Met.ofW (cc := cX11_wordLine) (maxL := 3) (ret := (some .boolean)) (by decide +kernel) rfl ?_
  intro p e s m args below meth c s₁ B hml hv
  obtain ⟨rfl, hv⟩ := hv
  have C := CX.start (own := RX11) B hml rfl gi hv
  have hP := hv.1
  have hS : va_S (Af 1 g) s.heap s.heap [] := va_S.rf
  have hl := lv_entry ([.ref (g.2.1 (138 + 0))]) (n := 3) (Nat.le_of_ble_eq_true rfl)
  rw [lg_entry_eq]
  generalize (lg_sl ([.ref (g.2.1 (138 + 0))]) ++ List.replicate (3 - (lg_sl ([.ref (g.2.1 (138 + 0))])).length) Slot.unset).toArray = ls at hl ⊢
  have hl : lv_has ls 3 [(0, .ref (g.2.1 (138 + 0)))] := hl
  unfold p_X11_wordLine at hw
  refine lv_aload_n C.1 C.2.1 dX11_wordLine_0 rfl (lv_at hl 0 rfl) ?_
  refine gX11_105 C hP Nat.zero_lt_one dX11_wordLine_1 ?_
  refine lv_topi (fun x1 e1 => ?_)
  have hw := hw x1 e1
  refine lv_istore_n (lv' := [(1, .int x1), (0, .ref (g.2.1 (138 + 0)))]) C.1 C.2.1 dX11_wordLine_4 rfl hl (by decide) rfl (fun ls hl => ?_)
  refine lv_aload_n C.1 C.2.1 dX11_wordLine_5 rfl (lv_at hl 1 rfl) ?_
  refine gX11_29 C hP Nat.zero_lt_one dX11_wordLine_6 ?_
  refine lv_iload_n C.1 C.2.1 dX11_wordLine_9 rfl (lv_at hl 0 rfl) ?_
  obtain ⟨h2, hw⟩ := hw
  refine al_46 C hP Nat.zero_lt_one h2 dX11_wordLine_10 ?_
  refine lv_if_eq (tgt := 20) C.1 C.2.1 dX11_wordLine_11 (by decide) (fun h3 => ?_) (fun h3 => ?_)
  · have hw := hw.1 h3
    refine lv_aload_n C.1 C.2.1 dX11_wordLine_20 rfl (lv_at hl 1 rfl) ?_
    refine gX11_29 C hP Nat.zero_lt_one dX11_wordLine_21 ?_
    refine lv_iload_n C.1 C.2.1 dX11_wordLine_24 rfl (lv_at hl 0 rfl) ?_
    refine lv_iconst (v := 1) C.1 C.2.1 dX11_wordLine_25 (by decide) ?_
    obtain ⟨h4, hw⟩ := hw
    refine as_46 C hP hS Nat.zero_lt_one h4 dX11_wordLine_26 (fun M4 e4 H locs hP hS => ?_)
    have hw := hw M4 e4
    refine lv_aload_n C.1 C.2.1 dX11_wordLine_27 rfl (lv_at hl 1 rfl) ?_
    refine goV (wf := (yw g)) (runV (w := yw g M4) (As := []) (rest := []) C lkX11_173 (c_X11_token l g C.2.2.2.2.2.2.2.2.2.2   M4 _ hw) hP hS rfl rfl ⟨Nat.le_of_ble_eq_true rfl, Nat.le_of_ble_eq_true rfl⟩ (xx_40 Nat.zero_lt_one) rfl rfl hl.1 rfl (Nat.le_of_ble_eq_true rfl) dX11_wordLine_28) hS (fun M5 hw H locs hP hS => ?_)
    refine lv_iload_n C.1 C.2.1 dX11_wordLine_31 rfl (lv_at hl 0 rfl) ?_
    refine lv_bipush (v := 7) C.1 C.2.1 dX11_wordLine_32 (by decide) ?_
    refine lv_icmp_eq (tgt := 43) C.1 C.2.1 dX11_wordLine_34 (by decide) (fun h6 => ?_) (fun h6 => ?_)
    · have hw := hw.1 h6
      exact k_X11_wordLine_43 (Q := Q) C (fun v1 s0  M hw H locs ls hl hP hS => k_X11_wordLine_93 (Q := Q) C v1 s0  M hw hl hP hS) x1  _ hw (lv_sub hl [1, 0] rfl) hP hS
    · have hw := hw.2 h6
      refine lv_iload_n C.1 C.2.1 dX11_wordLine_37 rfl (lv_at hl 0 rfl) ?_
      refine lv_bipush (v := 8) C.1 C.2.1 dX11_wordLine_38 (by decide) ?_
      refine lv_icmp_ne (tgt := 53) C.1 C.2.1 dX11_wordLine_40 (by decide) (fun h10 => ?_) (fun h10 => ?_)
      · have hw := hw.1 h10
        refine lv_iload_n C.1 C.2.1 dX11_wordLine_53 rfl (lv_at hl 0 rfl) ?_
        refine lv_bipush (v := 9) C.1 C.2.1 dX11_wordLine_54 (by decide) ?_
        refine lv_icmp_ne (tgt := 69) C.1 C.2.1 dX11_wordLine_56 (by decide) (fun h11 => ?_) (fun h11 => ?_)
        · have hw := hw.1 h11
          refine lv_iload_n C.1 C.2.1 dX11_wordLine_69 rfl (lv_at hl 0 rfl) ?_
          refine lv_bipush (v := 10) C.1 C.2.1 dX11_wordLine_70 (by decide) ?_
          refine lv_icmp_ne (tgt := 85) C.1 C.2.1 dX11_wordLine_72 (by decide) (fun h12 => ?_) (fun h12 => ?_)
          · have hw := hw.1 h12
            refine lv_aload_n C.1 C.2.1 dX11_wordLine_85 rfl (lv_at hl 1 rfl) ?_
            refine lv_bipush (v := 10) C.1 C.2.1 dX11_wordLine_86 (by decide) ?_
            refine lv_bipush (v := 99) C.1 C.2.1 dX11_wordLine_88 (by decide) ?_
            refine goI (wf := (yw g)) (runV (w := yw g M5) (As := [.int 10, .int 99]) (rest := []) C lkX11_184 (c_X11_number l g C.2.2.2.2.2.2.2.2.2.2 10 99  M5 _ hw) hP hS rfl rfl ⟨Nat.le_of_ble_eq_true rfl, Nat.le_of_ble_eq_true rfl⟩ (xx_40 Nat.zero_lt_one) rfl rfl hl.1 rfl (Nat.le_of_ble_eq_true rfl) dX11_wordLine_90) hS (fun r13 M13 hw H locs hP hS => ?_)
            obtain ⟨hw, hz13⟩ := hw
            exact k_X11_wordLine_93 (Q := Q) C x1 r13  _ hw (lv_sub hl [1, 0] rfl) hP hS
          · have hw := hw.2 h12
            refine lv_aload_n C.1 C.2.1 dX11_wordLine_75 rfl (lv_at hl 1 rfl) ?_
            refine lv_iconst (v := 0) C.1 C.2.1 dX11_wordLine_76 (by decide) ?_
            refine lv_ldc (v := 99999) C.1 C.2.1 C.2.2.2.2.1 (C.2.2.2.2.2.1 _ (bg_of 1490 (by decide +kernel) rfl)) dX11_wordLine_77 ?_
            refine goI (wf := (yw g)) (runV (w := yw g M5) (As := [.int 0, .int 99999]) (rest := []) C lkX11_184 (c_X11_number l g C.2.2.2.2.2.2.2.2.2.2 0 99999  M5 _ hw) hP hS rfl rfl ⟨Nat.le_of_ble_eq_true rfl, Nat.le_of_ble_eq_true rfl⟩ (xx_40 Nat.zero_lt_one) rfl rfl hl.1 rfl (Nat.le_of_ble_eq_true rfl) dX11_wordLine_79) hS (fun r14 M14 hw H locs hP hS => ?_)
            obtain ⟨hw, hz14⟩ := hw
            refine lv_goto (tgt := 93) C.1 C.2.1 dX11_wordLine_82 (by decide) ?_
            exact k_X11_wordLine_93 (Q := Q) C x1 r14  _ hw (lv_sub hl [1, 0] rfl) hP hS
        · have hw := hw.2 h11
          refine lv_aload_n C.1 C.2.1 dX11_wordLine_59 rfl (lv_at hl 1 rfl) ?_
          refine lv_iconst (v := 0) C.1 C.2.1 dX11_wordLine_60 (by decide) ?_
          refine lv_bipush (v := 99) C.1 C.2.1 dX11_wordLine_61 (by decide) ?_
          refine goI (wf := (yw g)) (runV (w := yw g M5) (As := [.int 0, .int 99]) (rest := []) C lkX11_184 (c_X11_number l g C.2.2.2.2.2.2.2.2.2.2 0 99  M5 _ hw) hP hS rfl rfl ⟨Nat.le_of_ble_eq_true rfl, Nat.le_of_ble_eq_true rfl⟩ (xx_40 Nat.zero_lt_one) rfl rfl hl.1 rfl (Nat.le_of_ble_eq_true rfl) dX11_wordLine_63) hS (fun r15 M15 hw H locs hP hS => ?_)
          obtain ⟨hw, hz15⟩ := hw
          refine lv_goto (tgt := 93) C.1 C.2.1 dX11_wordLine_66 (by decide) ?_
          exact k_X11_wordLine_93 (Q := Q) C x1 r15  _ hw (lv_sub hl [1, 0] rfl) hP hS
      · have hw := hw.2 h10
        exact k_X11_wordLine_43 (Q := Q) C (fun v1 s0  M hw H locs ls hl hP hS => k_X11_wordLine_93 (Q := Q) C v1 s0  M hw hl hP hS) x1  _ hw (lv_sub hl [1, 0] rfl) hP hS
  · have hw := hw.2 h3
    refine lv_aload_n C.1 C.2.1 dX11_wordLine_14 rfl (lv_at hl 1 rfl) ?_
    refine lv_iconst (v := 3) C.1 C.2.1 dX11_wordLine_15 (by decide) ?_
    refine goI (wf := (yw g)) (runV (w := yw g M) (As := [.int 3]) (rest := []) C lkX11_163 (c_X11_wrong l g C.2.2.2.2.2.2.2.2.2.2 3  M _ hw) hP hS rfl rfl ⟨Nat.le_of_ble_eq_true rfl, Nat.le_of_ble_eq_true rfl⟩ (xx_40 Nat.zero_lt_one) rfl rfl hl.1 rfl (Nat.le_of_ble_eq_true rfl) dX11_wordLine_16) hS (fun r16 M16 hw H locs hP hS => ?_)
    obtain ⟨hw, hz16⟩ := hw
    exact retZ (wf := (yw g)) C hP hS hz16 hw dX11_wordLine_19
def b_X11_lineRead_130 (Q : Int32 → Mem → Prop) (v1 : Int32) (M : Mem) : Prop := ((¬ v1 = 0 → (((M.1 40 0 8) = 4 → (p_X11_token  M (fun M6 => (Q 1 M6)))) ∧ (¬ (M.1 40 0 8) = 4 → (p_X11_wrong 1 M (fun r7 M7 => (Q r7 M7)))))) ∧ (v1 = 0 → (Q 0 M)))
set_option maxRecDepth 100000 in
set_option maxHeartbeats 4000000 in
theorem k_X11_lineRead_130 {p : Program} {l : Launch} {e : Env} {s : State} {m : MethodId} {args : Array Value} {below : List Frame} {meth : Method} {c : Code} {g : Geo} (C : CX g p s m args meth c cX11_lineRead 2 (some .boolean) RX11) {Q : Int32 → Mem → Prop} (v1 : Int32) (M : Mem) (hw : b_X11_lineRead_130 Q v1 M) {H : Heap} {locs : List Loc} {ls : Array Slot} (hl : lv_has ls 2 [(0, .ref (g.2.1 (138 + 0))), (1, .int v1)]) (hP : va_P g.1 clz (yw g M) H) (hS : va_S (Af 1 g) s.heap H locs) : W p l e ({ frames := 4, cells := 0, slots := 0, locals := 92 } : Room) s m args below meth c H locs 0 0 (MQ below (va_Qi (fun r M => Q r M ∧ narrow .boolean (.int r) = .int r) (PB g (yw g)) (Af 1 g)) args s 0 0 (Af 1 g)) (F0 m 130 ls []) := by
  unfold b_X11_lineRead_130 at hw
  refine lv_iload_n C.1 C.2.1 dX11_lineRead_130 rfl (lv_at hl 1 rfl) ?_
  refine lv_if_ne (tgt := 136) C.1 C.2.1 dX11_lineRead_131 (by decide) (fun h4 => ?_) (fun h4 => ?_)
  · have hw := hw.1 h4
    refine lv_aload_n C.1 C.2.1 dX11_lineRead_136 rfl (lv_at hl 0 rfl) ?_
    refine gX11_94 C hP Nat.zero_lt_one dX11_lineRead_137 ?_
    refine lv_iconst (v := 4) C.1 C.2.1 dX11_lineRead_140 (by decide) ?_
    refine lv_icmp_eq (tgt := 150) C.1 C.2.1 dX11_lineRead_141 (by decide) (fun h5 => ?_) (fun h5 => ?_)
    · have hw := hw.1 h5
      refine lv_aload_n C.1 C.2.1 dX11_lineRead_150 rfl (lv_at hl 0 rfl) ?_
      refine goV (wf := (yw g)) (runV (w := yw g M) (As := []) (rest := []) C lkX11_173 (c_X11_token l g C.2.2.2.2.2.2.2.2.2.2   M _ hw) hP hS rfl rfl ⟨Nat.le_of_ble_eq_true rfl, Nat.le_of_ble_eq_true rfl⟩ (xx_40 Nat.zero_lt_one) rfl rfl hl.1 rfl (Nat.le_of_ble_eq_true rfl) dX11_lineRead_151) hS (fun M6 hw H locs hP hS => ?_)
      refine lv_iconst (v := 1) C.1 C.2.1 dX11_lineRead_154 (by decide) ?_
      exact retZ (wf := (yw g)) C hP hS rfl hw dX11_lineRead_155
    · have hw := hw.2 h5
      refine lv_aload_n C.1 C.2.1 dX11_lineRead_144 rfl (lv_at hl 0 rfl) ?_
      refine lv_iconst (v := 1) C.1 C.2.1 dX11_lineRead_145 (by decide) ?_
      refine goI (wf := (yw g)) (runV (w := yw g M) (As := [.int 1]) (rest := []) C lkX11_163 (c_X11_wrong l g C.2.2.2.2.2.2.2.2.2.2 1  M _ hw) hP hS rfl rfl ⟨Nat.le_of_ble_eq_true rfl, Nat.le_of_ble_eq_true rfl⟩ (xx_40 Nat.zero_lt_one) rfl rfl hl.1 rfl (Nat.le_of_ble_eq_true rfl) dX11_lineRead_146) hS (fun r7 M7 hw H locs hP hS => ?_)
      obtain ⟨hw, hz7⟩ := hw
      exact retZ (wf := (yw g)) C hP hS hz7 hw dX11_lineRead_149
  · have hw := hw.2 h4
    refine lv_iconst (v := 0) C.1 C.2.1 dX11_lineRead_134 (by decide) ?_
    exact retZ (wf := (yw g)) C hP hS rfl hw dX11_lineRead_135
def p_X11_lineRead (M : Mem) (Q : Int32 → Mem → Prop) : Prop := (((M.1 40 0 8) = 1 → (∀ x2 : Int32, x2 = (M.1 40 0 9) → ((x2 = 0 → (p_X11_birdLine  M (fun r8 M8 => (b_X11_lineRead_130 Q r8 M8)))) ∧ (x2 = 1 → (p_X11_heardLine  M (fun r9 M9 => (b_X11_lineRead_130 Q r9 M9)))) ∧ (x2 = 2 → (p_X11_oneLine 7 20 M (fun r10 M10 => (b_X11_lineRead_130 Q r10 M10)))) ∧ (x2 = 3 → (p_X11_oneLine 8 199 M (fun r11 M11 => (b_X11_lineRead_130 Q r11 M11)))) ∧ (x2 = 4 → (p_X11_sendLine  M (fun r12 M12 => (b_X11_lineRead_130 Q r12 M12)))) ∧ (x2 = 5 → (p_X11_placeLine  M (fun r13 M13 => (b_X11_lineRead_130 Q r13 M13)))) ∧ (x2 = 6 → (p_X11_homeLine  M (fun r14 M14 => (b_X11_lineRead_130 Q r14 M14)))) ∧ (¬ x2 = 0 → ¬ x2 = 1 → ¬ x2 = 2 → ¬ x2 = 3 → ¬ x2 = 4 → ¬ x2 = 5 → ¬ x2 = 6 → (p_X11_wordLine  M (fun r3 M3 => (b_X11_lineRead_130 Q r3 M3))))))) ∧ (¬ (M.1 40 0 8) = 1 → (p_X11_wrong 1 M (fun r15 M15 => (Q r15 M15)))))
set_option maxRecDepth 100000 in
set_option maxHeartbeats 4000000 in
theorem c_X11_lineRead (l : Launch) (g : Geo) (gi : GI g) (M : Mem) (Q : Int32 → Mem → Prop) (hw : p_X11_lineRead  M Q) : Met l yX11_lineRead (Cond.code yX11_lineRead cX11_lineRead 2 (some .boolean) :: bg) ({ frames := 4, cells := 0, slots := 0, locals := 92 } : Room) (va_Pc [.ref (g.2.1 (138 + 0))] (PW g (yw g M))) (va_Qi (fun r M => Q r M ∧ narrow .boolean (.int r) = .int r) (PB g (yw g)) (Af 1 g)) 0 0 (Af 1 g) := by
  refine Met.ofW (cc := cX11_lineRead) (maxL := 2) (ret := (some .boolean)) (by decide +kernel) rfl ?_
  intro p e s m args below meth c s₁ B hml hv
  obtain ⟨rfl, hv⟩ := hv
  have C := CX.start (own := RX11) B hml rfl gi hv
  have hP := hv.1
  have hS : va_S (Af 1 g) s.heap s.heap [] := va_S.rf
  have hl := lv_entry ([.ref (g.2.1 (138 + 0))]) (n := 2) (Nat.le_of_ble_eq_true rfl)
  rw [lg_entry_eq]
  generalize (lg_sl ([.ref (g.2.1 (138 + 0))]) ++ List.replicate (2 - (lg_sl ([.ref (g.2.1 (138 + 0))])).length) Slot.unset).toArray = ls at hl ⊢
  have hl : lv_has ls 2 [(0, .ref (g.2.1 (138 + 0)))] := hl
  unfold p_X11_lineRead at hw
  refine lv_aload_n C.1 C.2.1 dX11_lineRead_0 rfl (lv_at hl 0 rfl) ?_
  refine gX11_94 C hP Nat.zero_lt_one dX11_lineRead_1 ?_
  refine lv_iconst (v := 1) C.1 C.2.1 dX11_lineRead_4 (by decide) ?_
  refine lv_icmp_eq (tgt := 14) C.1 C.2.1 dX11_lineRead_5 (by decide) (fun h1 => ?_) (fun h1 => ?_)
  · have hw := hw.1 h1
    refine lv_aload_n C.1 C.2.1 dX11_lineRead_14 rfl (lv_at hl 0 rfl) ?_
    refine gX11_105 C hP Nat.zero_lt_one dX11_lineRead_15 ?_
    refine lv_topi (fun x2 e2 => ?_)
    have hw := hw x2 e2
    by_cases q2_0 : x2 = 0
    · have hw := hw.1 q2_0
      refine lv_tableIn (tgt := 60) (off := 42) C.1 C.2.1 dX11_lineRead_18 (by rw [q2_0]; decide) (by rw [q2_0]; decide) (by rw [q2_0]; decide +kernel) (by decide) ?_
      refine lv_aload_n C.1 C.2.1 dX11_lineRead_60 rfl (lv_at hl 0 rfl) ?_
      refine goI (wf := (yw g)) (runV (w := yw g M) (As := []) (rest := []) C lkX11_191 (c_X11_birdLine l g C.2.2.2.2.2.2.2.2.2.2   M _ hw) hP hS rfl rfl ⟨Nat.le_of_ble_eq_true rfl, Nat.le_of_ble_eq_true rfl⟩ (xx_40 Nat.zero_lt_one) rfl rfl hl.1 rfl (Nat.le_of_ble_eq_true rfl) dX11_lineRead_61) hS (fun r8 M8 hw H locs hP hS => ?_)
      obtain ⟨hw, hz8⟩ := hw
      refine lv_istore_n (lv' := [(1, .int r8), (0, .ref (g.2.1 (138 + 0)))]) C.1 C.2.1 dX11_lineRead_64 rfl hl (by decide) rfl (fun ls hl => ?_)
      refine lv_goto (tgt := 130) C.1 C.2.1 dX11_lineRead_65 (by decide) ?_
      exact k_X11_lineRead_130 (Q := Q) C r8  _ hw (lv_sub hl [1, 0] rfl) hP hS
    by_cases q2_1 : x2 = 1
    · have hw := hw.2.1 q2_1
      refine lv_tableIn (tgt := 68) (off := 50) C.1 C.2.1 dX11_lineRead_18 (by rw [q2_1]; decide) (by rw [q2_1]; decide) (by rw [q2_1]; decide +kernel) (by decide) ?_
      refine lv_aload_n C.1 C.2.1 dX11_lineRead_68 rfl (lv_at hl 0 rfl) ?_
      refine goI (wf := (yw g)) (runV (w := yw g M) (As := []) (rest := []) C lkX11_195 (c_X11_heardLine l g C.2.2.2.2.2.2.2.2.2.2   M _ hw) hP hS rfl rfl ⟨Nat.le_of_ble_eq_true rfl, Nat.le_of_ble_eq_true rfl⟩ (xx_40 Nat.zero_lt_one) rfl rfl hl.1 rfl (Nat.le_of_ble_eq_true rfl) dX11_lineRead_69) hS (fun r9 M9 hw H locs hP hS => ?_)
      obtain ⟨hw, hz9⟩ := hw
      refine lv_istore_n (lv' := [(1, .int r9), (0, .ref (g.2.1 (138 + 0)))]) C.1 C.2.1 dX11_lineRead_72 rfl hl (by decide) rfl (fun ls hl => ?_)
      refine lv_goto (tgt := 130) C.1 C.2.1 dX11_lineRead_73 (by decide) ?_
      exact k_X11_lineRead_130 (Q := Q) C r9  _ hw (lv_sub hl [1, 0] rfl) hP hS
    by_cases q2_2 : x2 = 2
    · have hw := hw.2.2.1 q2_2
      refine lv_tableIn (tgt := 76) (off := 58) C.1 C.2.1 dX11_lineRead_18 (by rw [q2_2]; decide) (by rw [q2_2]; decide) (by rw [q2_2]; decide +kernel) (by decide) ?_
      refine lv_aload_n C.1 C.2.1 dX11_lineRead_76 rfl (lv_at hl 0 rfl) ?_
      refine lv_bipush (v := 7) C.1 C.2.1 dX11_lineRead_77 (by decide) ?_
      refine lv_bipush (v := 20) C.1 C.2.1 dX11_lineRead_79 (by decide) ?_
      refine goI (wf := (yw g)) (runV (w := yw g M) (As := [.int 7, .int 20]) (rest := []) C lkX11_198 (c_X11_oneLine l g C.2.2.2.2.2.2.2.2.2.2 7 20  M _ hw) hP hS rfl rfl ⟨Nat.le_of_ble_eq_true rfl, Nat.le_of_ble_eq_true rfl⟩ (xx_40 Nat.zero_lt_one) rfl rfl hl.1 rfl (Nat.le_of_ble_eq_true rfl) dX11_lineRead_81) hS (fun r10 M10 hw H locs hP hS => ?_)
      obtain ⟨hw, hz10⟩ := hw
      refine lv_istore_n (lv' := [(1, .int r10), (0, .ref (g.2.1 (138 + 0)))]) C.1 C.2.1 dX11_lineRead_84 rfl hl (by decide) rfl (fun ls hl => ?_)
      refine lv_goto (tgt := 130) C.1 C.2.1 dX11_lineRead_85 (by decide) ?_
      exact k_X11_lineRead_130 (Q := Q) C r10  _ hw (lv_sub hl [1, 0] rfl) hP hS
    by_cases q2_3 : x2 = 3
    · have hw := hw.2.2.2.1 q2_3
      refine lv_tableIn (tgt := 88) (off := 70) C.1 C.2.1 dX11_lineRead_18 (by rw [q2_3]; decide) (by rw [q2_3]; decide) (by rw [q2_3]; decide +kernel) (by decide) ?_
      refine lv_aload_n C.1 C.2.1 dX11_lineRead_88 rfl (lv_at hl 0 rfl) ?_
      refine lv_bipush (v := 8) C.1 C.2.1 dX11_lineRead_89 (by decide) ?_
      refine lv_sipush (v := 199) C.1 C.2.1 dX11_lineRead_91 (by decide) ?_
      refine goI (wf := (yw g)) (runV (w := yw g M) (As := [.int 8, .int 199]) (rest := []) C lkX11_198 (c_X11_oneLine l g C.2.2.2.2.2.2.2.2.2.2 8 199  M _ hw) hP hS rfl rfl ⟨Nat.le_of_ble_eq_true rfl, Nat.le_of_ble_eq_true rfl⟩ (xx_40 Nat.zero_lt_one) rfl rfl hl.1 rfl (Nat.le_of_ble_eq_true rfl) dX11_lineRead_94) hS (fun r11 M11 hw H locs hP hS => ?_)
      obtain ⟨hw, hz11⟩ := hw
      refine lv_istore_n (lv' := [(1, .int r11), (0, .ref (g.2.1 (138 + 0)))]) C.1 C.2.1 dX11_lineRead_97 rfl hl (by decide) rfl (fun ls hl => ?_)
      refine lv_goto (tgt := 130) C.1 C.2.1 dX11_lineRead_98 (by decide) ?_
      exact k_X11_lineRead_130 (Q := Q) C r11  _ hw (lv_sub hl [1, 0] rfl) hP hS
    by_cases q2_4 : x2 = 4
    · have hw := hw.2.2.2.2.1 q2_4
      refine lv_tableIn (tgt := 101) (off := 83) C.1 C.2.1 dX11_lineRead_18 (by rw [q2_4]; decide) (by rw [q2_4]; decide) (by rw [q2_4]; decide +kernel) (by decide) ?_
      refine lv_aload_n C.1 C.2.1 dX11_lineRead_101 rfl (lv_at hl 0 rfl) ?_
      refine goI (wf := (yw g)) (runV (w := yw g M) (As := []) (rest := []) C lkX11_201 (c_X11_sendLine l g C.2.2.2.2.2.2.2.2.2.2   M _ hw) hP hS rfl rfl ⟨Nat.le_of_ble_eq_true rfl, Nat.le_of_ble_eq_true rfl⟩ (xx_40 Nat.zero_lt_one) rfl rfl hl.1 rfl (Nat.le_of_ble_eq_true rfl) dX11_lineRead_102) hS (fun r12 M12 hw H locs hP hS => ?_)
      obtain ⟨hw, hz12⟩ := hw
      refine lv_istore_n (lv' := [(1, .int r12), (0, .ref (g.2.1 (138 + 0)))]) C.1 C.2.1 dX11_lineRead_105 rfl hl (by decide) rfl (fun ls hl => ?_)
      refine lv_goto (tgt := 130) C.1 C.2.1 dX11_lineRead_106 (by decide) ?_
      exact k_X11_lineRead_130 (Q := Q) C r12  _ hw (lv_sub hl [1, 0] rfl) hP hS
    by_cases q2_5 : x2 = 5
    · have hw := hw.2.2.2.2.2.1 q2_5
      refine lv_tableIn (tgt := 109) (off := 91) C.1 C.2.1 dX11_lineRead_18 (by rw [q2_5]; decide) (by rw [q2_5]; decide) (by rw [q2_5]; decide +kernel) (by decide) ?_
      refine lv_aload_n C.1 C.2.1 dX11_lineRead_109 rfl (lv_at hl 0 rfl) ?_
      refine goI (wf := (yw g)) (runV (w := yw g M) (As := []) (rest := []) C lkX11_204 (c_X11_placeLine l g C.2.2.2.2.2.2.2.2.2.2   M _ hw) hP hS rfl rfl ⟨Nat.le_of_ble_eq_true rfl, Nat.le_of_ble_eq_true rfl⟩ (xx_40 Nat.zero_lt_one) rfl rfl hl.1 rfl (Nat.le_of_ble_eq_true rfl) dX11_lineRead_110) hS (fun r13 M13 hw H locs hP hS => ?_)
      obtain ⟨hw, hz13⟩ := hw
      refine lv_istore_n (lv' := [(1, .int r13), (0, .ref (g.2.1 (138 + 0)))]) C.1 C.2.1 dX11_lineRead_113 rfl hl (by decide) rfl (fun ls hl => ?_)
      refine lv_goto (tgt := 130) C.1 C.2.1 dX11_lineRead_114 (by decide) ?_
      exact k_X11_lineRead_130 (Q := Q) C r13  _ hw (lv_sub hl [1, 0] rfl) hP hS
    by_cases q2_6 : x2 = 6
    · have hw := hw.2.2.2.2.2.2.1 q2_6
      refine lv_tableIn (tgt := 117) (off := 99) C.1 C.2.1 dX11_lineRead_18 (by rw [q2_6]; decide) (by rw [q2_6]; decide) (by rw [q2_6]; decide +kernel) (by decide) ?_
      refine lv_aload_n C.1 C.2.1 dX11_lineRead_117 rfl (lv_at hl 0 rfl) ?_
      refine goI (wf := (yw g)) (runV (w := yw g M) (As := []) (rest := []) C lkX11_207 (c_X11_homeLine l g C.2.2.2.2.2.2.2.2.2.2   M _ hw) hP hS rfl rfl ⟨Nat.le_of_ble_eq_true rfl, Nat.le_of_ble_eq_true rfl⟩ (xx_40 Nat.zero_lt_one) rfl rfl hl.1 rfl (Nat.le_of_ble_eq_true rfl) dX11_lineRead_118) hS (fun r14 M14 hw H locs hP hS => ?_)
      obtain ⟨hw, hz14⟩ := hw
      refine lv_istore_n (lv' := [(1, .int r14), (0, .ref (g.2.1 (138 + 0)))]) C.1 C.2.1 dX11_lineRead_121 rfl hl (by decide) rfl (fun ls hl => ?_)
      refine lv_goto (tgt := 130) C.1 C.2.1 dX11_lineRead_122 (by decide) ?_
      exact k_X11_lineRead_130 (Q := Q) C r14  _ hw (lv_sub hl [1, 0] rfl) hP hS
    have hw := hw.2.2.2.2.2.2.2 q2_0 q2_1 q2_2 q2_3 q2_4 q2_5 q2_6
    have n2_0 : x2.toInt ≠ 0 := tsw q2_0
    have n2_1 : x2.toInt ≠ 1 := tsw q2_1
    have n2_2 : x2.toInt ≠ 2 := tsw q2_2
    have n2_3 : x2.toInt ≠ 3 := tsw q2_3
    have n2_4 : x2.toInt ≠ 4 := tsw q2_4
    have n2_5 : x2.toInt ≠ 5 := tsw q2_5
    have n2_6 : x2.toInt ≠ 6 := tsw q2_6
    refine lv_tableOut (tgt := 125) C.1 C.2.1 dX11_lineRead_18 (by omega) (by decide) ?_
    refine lv_aload_n C.1 C.2.1 dX11_lineRead_125 rfl (lv_at hl 0 rfl) ?_
    refine goI (wf := (yw g)) (runV (w := yw g M) (As := []) (rest := []) C lkX11_210 (c_X11_wordLine l g C.2.2.2.2.2.2.2.2.2.2   M _ hw) hP hS rfl rfl ⟨Nat.le_of_ble_eq_true rfl, Nat.le_of_ble_eq_true rfl⟩ (xx_40 Nat.zero_lt_one) rfl rfl hl.1 rfl (Nat.le_of_ble_eq_true rfl) dX11_lineRead_126) hS (fun r3 M3 hw H locs hP hS => ?_)
    obtain ⟨hw, hz3⟩ := hw
    refine lv_istore_n (lv' := [(1, .int r3), (0, .ref (g.2.1 (138 + 0)))]) C.1 C.2.1 dX11_lineRead_129 rfl hl (by decide) rfl (fun ls hl => ?_)
    exact k_X11_lineRead_130 (Q := Q) C r3  _ hw (lv_sub hl [1, 0] rfl) hP hS
  · have hw := hw.2 h1
    refine lv_aload_n C.1 C.2.1 dX11_lineRead_8 rfl (lv_at hl 0 rfl) ?_
    refine lv_iconst (v := 1) C.1 C.2.1 dX11_lineRead_9 (by decide) ?_
    refine goI (wf := (yw g)) (runV (w := yw g M) (As := [.int 1]) (rest := []) C lkX11_163 (c_X11_wrong l g C.2.2.2.2.2.2.2.2.2.2 1  M _ hw) hP hS rfl rfl ⟨Nat.le_of_ble_eq_true rfl, Nat.le_of_ble_eq_true rfl⟩ (xx_40 Nat.zero_lt_one) rfl rfl hl.1 rfl (Nat.le_of_ble_eq_true rfl) dX11_lineRead_10) hS (fun r15 M15 hw H locs hP hS => ?_)
    obtain ⟨hw, hz15⟩ := hw
    exact retZ (wf := (yw g)) C hP hS hz15 hw dX11_lineRead_13
def b_X11_text_77 (Q : Int32 → Mem → Prop) (v2 : Int32) (M : Mem) : Prop := (p_X11_keepText  M (fun M12 => (Q v2 M12)))
set_option maxRecDepth 100000 in
set_option maxHeartbeats 4000000 in
theorem k_X11_text_77 {p : Program} {l : Launch} {e : Env} {s : State} {m : MethodId} {args : Array Value} {below : List Frame} {meth : Method} {c : Code} {g : Geo} (C : CX g p s m args meth c cX11_text 3 (some .int) RX11) {Q : Int32 → Mem → Prop} (v2 : Int32) (M : Mem) (hw : b_X11_text_77 Q v2 M) {H : Heap} {locs : List Loc} {ls : Array Slot} (hl : lv_has ls 3 [(0, .ref (g.2.1 (138 + 0))), (2, .int v2)]) (hP : va_P g.1 clz (yw g M) H) (hS : va_S (Af 1 g) s.heap H locs) : W p l e ({ frames := 5, cells := 0, slots := 0, locals := 113 } : Room) s m args below meth c H locs 0 0 (MQ below (va_Qi Q (PB g (yw g)) (Af 1 g)) args s 0 0 (Af 1 g)) (F0 m 77 ls []) := by
  unfold b_X11_text_77 at hw
  refine lv_aload_n C.1 C.2.1 dX11_text_77 rfl (lv_at hl 0 rfl) ?_
  refine goV (wf := (yw g)) (runV (w := yw g M) (As := []) (rest := []) C lkX11_73 (c_X11_keepText l g C.2.2.2.2.2.2.2.2.2.2   M _ hw) hP hS rfl rfl ⟨Nat.le_of_ble_eq_true rfl, Nat.le_of_ble_eq_true rfl⟩ (xx_40 Nat.zero_lt_one) rfl rfl hl.1 rfl (Nat.le_of_ble_eq_true rfl) dX11_text_78) hS (fun M12 hw H locs hP hS => ?_)
  refine lv_iload_n C.1 C.2.1 dX11_text_81 rfl (lv_at hl 1 rfl) ?_
  exact retI (wf := (yw g)) C hP hS hw dX11_text_82
def b_X11_text_55 (Q : Int32 → Mem → Prop) : Nat → Int32 → Mem → Prop
  | 0, _, _ => False
  | n + 1, v2, M => (((M.1 40 0 8) = 0 → (b_X11_text_77 Q v2 M)) ∧ (¬ (M.1 40 0 8) = 0 → (p_X11_lineRead  M (fun r13 M13 => ((¬ r13 = 0 → (∀ x15 : Int32, x15 = (v2 + 1) → (b_X11_text_55 Q n x15 M13))) ∧ (r13 = 0 → (Q (-1) M13)))))))
set_option maxRecDepth 100000 in
set_option maxHeartbeats 4000000 in
theorem k_X11_text_55 {p : Program} {l : Launch} {e : Env} {s : State} {m : MethodId} {args : Array Value} {below : List Frame} {meth : Method} {c : Code} {g : Geo} (C : CX g p s m args meth c cX11_text 3 (some .int) RX11) {Q : Int32 → Mem → Prop} : ∀ (n : Nat) (v2 : Int32) (M : Mem) (hw : b_X11_text_55 Q n v2 M) {H : Heap} {locs : List Loc} {ls : Array Slot} (hl : lv_has ls 3 [(0, .ref (g.2.1 (138 + 0))), (2, .int v2)]) (hP : va_P g.1 clz (yw g M) H) (hS : va_S (Af 1 g) s.heap H locs), W p l e ({ frames := 5, cells := 0, slots := 0, locals := 113 } : Room) s m args below meth c H locs 0 0 (MQ below (va_Qi Q (PB g (yw g)) (Af 1 g)) args s 0 0 (Af 1 g)) (F0 m 55 ls []) := by
  intro n
  induction n with
  | zero => intro v2 M hw H locs ls hl hP hS; exact absurd hw (by rw [b_X11_text_55]; exact fun h => h)
  | succ n ih =>
    intro v2 M hw H locs ls hl hP hS
    rw [b_X11_text_55] at hw
    refine lv_aload_n C.1 C.2.1 dX11_text_55 rfl (lv_at hl 0 rfl) ?_
    refine gX11_94 C hP Nat.zero_lt_one dX11_text_56 ?_
    refine lv_if_eq (tgt := 77) C.1 C.2.1 dX11_text_59 (by decide) (fun h11 => ?_) (fun h11 => ?_)
    · have hw := hw.1 h11
      exact k_X11_text_77 (Q := Q) C v2  _ hw (lv_sub hl [0, 1] rfl) hP hS
    · have hw := hw.2 h11
      refine lv_aload_n C.1 C.2.1 dX11_text_62 rfl (lv_at hl 0 rfl) ?_
      refine goI (wf := (yw g)) (runV (w := yw g M) (As := []) (rest := []) C lkX11_213 (c_X11_lineRead l g C.2.2.2.2.2.2.2.2.2.2   M _ hw) hP hS rfl rfl ⟨Nat.le_of_ble_eq_true rfl, Nat.le_of_ble_eq_true rfl⟩ (xx_40 Nat.zero_lt_one) rfl rfl hl.1 rfl (Nat.le_of_ble_eq_true rfl) dX11_text_63) hS (fun r13 M13 hw H locs hP hS => ?_)
      obtain ⟨hw, hz13⟩ := hw
      refine lv_if_ne (tgt := 71) C.1 C.2.1 dX11_text_66 (by decide) (fun h14 => ?_) (fun h14 => ?_)
      · have hw := hw.1 h14
        obtain ⟨x15, e15⟩ : ∃ y : Int32, y = (v2 + 1) := ⟨_, rfl⟩
        have hw := hw x15 e15
        refine lv_iinc (v := x15) (lv' := [(2, .int x15), (0, .ref (g.2.1 (138 + 0)))]) C.1 C.2.1 dX11_text_71 hl (k := 1) rfl (by rw [e15]; rfl) (by decide) rfl (fun ls hl => ?_)
        refine lv_goto (tgt := 55) C.1 C.2.1 dX11_text_74 (by decide) ?_
        exact ih x15  _ hw (lv_sub hl [1, 0] rfl) hP hS
      · have hw := hw.2 h14
        refine lv_iconst (v := (-1)) C.1 C.2.1 dX11_text_69 (by decide) ?_
        exact retI (wf := (yw g)) C hP hS hw dX11_text_70
def p_X11_text (a1 : Int32) (M : Mem) (Q : Int32 → Mem → Prop) : Prop := (∀ M1 : Mem, M1 = sI M 40 0 2 0 → ((a1 < 0 → (Q (-2) M1)) ∧ (¬ a1 < 0 → ((a1 ≤ (M1.1 40 0 1) → (∀ M4 : Mem, M4 = sI M1 40 0 6 a1 → (∀ M5 : Mem, M5 = sI M4 40 0 1 0 → (∀ M6 : Mem, M6 = sI M5 40 0 4 0 → (∀ M7 : Mem, M7 = sI M6 40 0 5 (-1) → (∀ M8 : Mem, M8 = sI M7 40 0 7 0 → (p_X11_plain  M8 (fun M9 => (p_X11_token  M9 (fun M10 => (∃ n55 : Nat, b_X11_text_55 Q n55 0 M10))))))))))) ∧ (¬ a1 ≤ (M1.1 40 0 1) → (Q (-2) M1))))))
set_option maxRecDepth 100000 in
set_option maxHeartbeats 4000000 in
theorem c_X11_text (l : Launch) (g : Geo) (gi : GI g) (a1 : Int32) (M : Mem) (Q : Int32 → Mem → Prop) (hw : p_X11_text a1 M Q) : Met l yX11_text (Cond.code yX11_text cX11_text 3 (some .int) :: bg) ({ frames := 5, cells := 0, slots := 0, locals := 113 } : Room) (va_Pc [.ref (g.2.1 (138 + 0)), .int a1] (PW g (yw g M))) (va_Qi Q (PB g (yw g)) (Af 1 g)) 0 0 (Af 1 g) := by
  refine Met.ofW (cc := cX11_text) (maxL := 3) (ret := (some .int)) (by decide +kernel) rfl ?_
  intro p e s m args below meth c s₁ B hml hv
  obtain ⟨rfl, hv⟩ := hv
  have C := CX.start (own := RX11) B hml rfl gi hv
  have hP := hv.1
  have hS : va_S (Af 1 g) s.heap s.heap [] := va_S.rf
  have hl := lv_entry ([.ref (g.2.1 (138 + 0)), .int a1]) (n := 3) (Nat.le_of_ble_eq_true rfl)
  rw [lg_entry_eq]
  generalize (lg_sl ([.ref (g.2.1 (138 + 0)), .int a1]) ++ List.replicate (3 - (lg_sl ([.ref (g.2.1 (138 + 0)), .int a1])).length) Slot.unset).toArray = ls at hl ⊢
  have hl : lv_has ls 3 [(0, .ref (g.2.1 (138 + 0))), (1, .int a1)] := hl
  unfold p_X11_text at hw
  refine lv_aload_n C.1 C.2.1 dX11_text_0 rfl (lv_at hl 0 rfl) ?_
  refine lv_iconst (v := 0) C.1 C.2.1 dX11_text_1 (by decide) ?_
  refine pX11_76 C hP hS Nat.zero_lt_one dX11_text_2 (fun M1 e1 H locs hP hS => ?_)
  have hw := hw M1 e1
  refine lv_iload_n C.1 C.2.1 dX11_text_5 rfl (lv_at hl 1 rfl) ?_
  refine lv_if_lt (tgt := 17) C.1 C.2.1 dX11_text_6 (by decide) (fun h2 => ?_) (fun h2 => ?_)
  · have hw := hw.1 h2
    refine lv_bipush (v := (-2)) C.1 C.2.1 dX11_text_17 (by decide) ?_
    exact retI (wf := (yw g)) C hP hS hw dX11_text_19
  · have hw := hw.2 h2
    refine lv_iload_n C.1 C.2.1 dX11_text_9 rfl (lv_at hl 1 rfl) ?_
    refine lv_aload_n C.1 C.2.1 dX11_text_10 rfl (lv_at hl 0 rfl) ?_
    refine gX11_79 C hP Nat.zero_lt_one dX11_text_11 ?_
    refine lv_icmp_le (tgt := 20) C.1 C.2.1 dX11_text_14 (by decide) (fun h3 => ?_) (fun h3 => ?_)
    · have hw := hw.1 h3
      refine lv_aload_n C.1 C.2.1 dX11_text_20 rfl (lv_at hl 0 rfl) ?_
      refine lv_iload_n C.1 C.2.1 dX11_text_21 rfl (lv_at hl 1 rfl) ?_
      refine pX11_88 C hP hS Nat.zero_lt_one dX11_text_22 (fun M4 e4 H locs hP hS => ?_)
      have hw := hw M4 e4
      refine lv_aload_n C.1 C.2.1 dX11_text_25 rfl (lv_at hl 0 rfl) ?_
      refine lv_iconst (v := 0) C.1 C.2.1 dX11_text_26 (by decide) ?_
      refine pX11_79 C hP hS Nat.zero_lt_one dX11_text_27 (fun M5 e5 H locs hP hS => ?_)
      have hw := hw M5 e5
      refine lv_aload_n C.1 C.2.1 dX11_text_30 rfl (lv_at hl 0 rfl) ?_
      refine lv_iconst (v := 0) C.1 C.2.1 dX11_text_31 (by decide) ?_
      refine pX11_82 C hP hS Nat.zero_lt_one dX11_text_32 (fun M6 e6 H locs hP hS => ?_)
      have hw := hw M6 e6
      refine lv_aload_n C.1 C.2.1 dX11_text_35 rfl (lv_at hl 0 rfl) ?_
      refine lv_iconst (v := (-1)) C.1 C.2.1 dX11_text_36 (by decide) ?_
      refine pX11_16 C hP hS Nat.zero_lt_one dX11_text_37 (fun M7 e7 H locs hP hS => ?_)
      have hw := hw M7 e7
      refine lv_aload_n C.1 C.2.1 dX11_text_40 rfl (lv_at hl 0 rfl) ?_
      refine lv_iconst (v := 0) C.1 C.2.1 dX11_text_41 (by decide) ?_
      refine pX11_91 C hP hS Nat.zero_lt_one dX11_text_42 (fun M8 e8 H locs hP hS => ?_)
      have hw := hw M8 e8
      refine lv_aload_n C.1 C.2.1 dX11_text_45 rfl (lv_at hl 0 rfl) ?_
      refine goV (wf := (yw g)) (runV (w := yw g M8) (As := []) (rest := []) C lkX11_70 (c_X11_plain l g C.2.2.2.2.2.2.2.2.2.2   M8 _ hw) hP hS rfl rfl ⟨Nat.le_of_ble_eq_true rfl, Nat.le_of_ble_eq_true rfl⟩ (xx_40 Nat.zero_lt_one) rfl rfl hl.1 rfl (Nat.le_of_ble_eq_true rfl) dX11_text_46) hS (fun M9 hw H locs hP hS => ?_)
      refine lv_aload_n C.1 C.2.1 dX11_text_49 rfl (lv_at hl 0 rfl) ?_
      refine goV (wf := (yw g)) (runV (w := yw g M9) (As := []) (rest := []) C lkX11_173 (c_X11_token l g C.2.2.2.2.2.2.2.2.2.2   M9 _ hw) hP hS rfl rfl ⟨Nat.le_of_ble_eq_true rfl, Nat.le_of_ble_eq_true rfl⟩ (xx_40 Nat.zero_lt_one) rfl rfl hl.1 rfl (Nat.le_of_ble_eq_true rfl) dX11_text_50) hS (fun M10 hw H locs hP hS => ?_)
      refine lv_iconst (v := 0) C.1 C.2.1 dX11_text_53 (by decide) ?_
      refine lv_istore_n (lv' := [(2, .int 0), (0, .ref (g.2.1 (138 + 0))), (1, .int a1)]) C.1 C.2.1 dX11_text_54 rfl hl (by decide) rfl (fun ls hl => ?_)
      obtain ⟨n9, hw⟩ := hw
      exact k_X11_text_55 (Q := Q) C n9 0  _ hw (lv_sub hl [1, 0] rfl) hP hS
    · have hw := hw.2 h3
      refine lv_bipush (v := (-2)) C.1 C.2.1 dX11_text_17 (by decide) ?_
      exact retI (wf := (yw g)) C hP hS hw dX11_text_19
def p_X11_fault (a1 : Int32) (M : Mem) (Q : Int32 → Mem → Prop) : Prop := (∀ M1 : Mem, M1 = sI M 40 0 2 0 → ((¬ a1 = 0 → ((¬ a1 = 1 → (Q (-1) M1)) ∧ (a1 = 1 → (Q (M1.1 40 0 5) M1)))) ∧ (a1 = 0 → (Q (M1.1 40 0 4) M1))))
set_option maxRecDepth 100000 in
set_option maxHeartbeats 4000000 in
theorem c_X11_fault (l : Launch) (g : Geo) (gi : GI g) (a1 : Int32) (M : Mem) (Q : Int32 → Mem → Prop) (hw : p_X11_fault a1 M Q) : Met l yX11_fault (Cond.code yX11_fault cX11_fault 2 (some .int) :: bg) ({ frames := 0, cells := 0, slots := 0, locals := 0 } : Room) (va_Pc [.ref (g.2.1 (138 + 0)), .int a1] (PW g (yw g M))) (va_Qi Q (PB g (yw g)) (Af 1 g)) 0 0 (Af 1 g) := by
  refine Met.ofW (cc := cX11_fault) (maxL := 2) (ret := (some .int)) (by decide +kernel) rfl ?_
  intro p e s m args below meth c s₁ B hml hv
  obtain ⟨rfl, hv⟩ := hv
  have C := CX.start (own := RX11) B hml rfl gi hv
  have hP := hv.1
  have hS : va_S (Af 1 g) s.heap s.heap [] := va_S.rf
  have hl := lv_entry ([.ref (g.2.1 (138 + 0)), .int a1]) (n := 2) (Nat.le_of_ble_eq_true rfl)
  rw [lg_entry_eq]
  generalize (lg_sl ([.ref (g.2.1 (138 + 0)), .int a1]) ++ List.replicate (2 - (lg_sl ([.ref (g.2.1 (138 + 0)), .int a1])).length) Slot.unset).toArray = ls at hl ⊢
  have hl : lv_has ls 2 [(0, .ref (g.2.1 (138 + 0))), (1, .int a1)] := hl
  unfold p_X11_fault at hw
  refine lv_aload_n C.1 C.2.1 dX11_fault_0 rfl (lv_at hl 0 rfl) ?_
  refine lv_iconst (v := 0) C.1 C.2.1 dX11_fault_1 (by decide) ?_
  refine pX11_76 C hP hS Nat.zero_lt_one dX11_fault_2 (fun M1 e1 H locs hP hS => ?_)
  have hw := hw M1 e1
  refine lv_iload_n C.1 C.2.1 dX11_fault_5 rfl (lv_at hl 1 rfl) ?_
  refine lv_if_ne (tgt := 16) C.1 C.2.1 dX11_fault_6 (by decide) (fun h2 => ?_) (fun h2 => ?_)
  · have hw := hw.1 h2
    refine lv_iload_n C.1 C.2.1 dX11_fault_16 rfl (lv_at hl 1 rfl) ?_
    refine lv_iconst (v := 1) C.1 C.2.1 dX11_fault_17 (by decide) ?_
    refine lv_icmp_ne (tgt := 28) C.1 C.2.1 dX11_fault_18 (by decide) (fun h3 => ?_) (fun h3 => ?_)
    · have hw := hw.1 h3
      refine lv_iconst (v := (-1)) C.1 C.2.1 dX11_fault_28 (by decide) ?_
      exact retI (wf := (yw g)) C hP hS hw dX11_fault_29
    · have hw := hw.2 h3
      refine lv_aload_n C.1 C.2.1 dX11_fault_21 rfl (lv_at hl 0 rfl) ?_
      refine gX11_16 C hP Nat.zero_lt_one dX11_fault_22 ?_
      refine lv_goto (tgt := 29) C.1 C.2.1 dX11_fault_25 (by decide) ?_
      exact retI (wf := (yw g)) C hP hS hw dX11_fault_29
  · have hw := hw.2 h2
    refine lv_aload_n C.1 C.2.1 dX11_fault_9 rfl (lv_at hl 0 rfl) ?_
    refine gX11_82 C hP Nat.zero_lt_one dX11_fault_10 ?_
    refine lv_goto (tgt := 29) C.1 C.2.1 dX11_fault_13 (by decide) ?_
    exact retI (wf := (yw g)) C hP hS hw dX11_fault_29
def p_X11_named (a1 : Int32) (M : Mem) (Q : Int32 → Mem → Prop) : Prop := (∀ M1 : Mem, M1 = sI M 40 0 2 0 → (p_X11_nameAt a1 0 M1 (fun r2 M2 => (Q r2 M2))))
set_option maxRecDepth 100000 in
set_option maxHeartbeats 4000000 in
theorem c_X11_named (l : Launch) (g : Geo) (gi : GI g) (a1 : Int32) (M : Mem) (Q : Int32 → Mem → Prop) (hw : p_X11_named a1 M Q) : Met l yX11_named (Cond.code yX11_named cX11_named 2 (some .int) :: bg) ({ frames := 2, cells := 0, slots := 0, locals := 46 } : Room) (va_Pc [.ref (g.2.1 (138 + 0)), .int a1] (PW g (yw g M))) (va_Qi Q (PB g (yw g)) (Af 1 g)) 0 0 (Af 1 g) := by
  refine Met.ofW (cc := cX11_named) (maxL := 2) (ret := (some .int)) (by decide +kernel) rfl ?_
  intro p e s m args below meth c s₁ B hml hv
  obtain ⟨rfl, hv⟩ := hv
  have C := CX.start (own := RX11) B hml rfl gi hv
  have hP := hv.1
  have hS : va_S (Af 1 g) s.heap s.heap [] := va_S.rf
  have hl := lv_entry ([.ref (g.2.1 (138 + 0)), .int a1]) (n := 2) (Nat.le_of_ble_eq_true rfl)
  rw [lg_entry_eq]
  generalize (lg_sl ([.ref (g.2.1 (138 + 0)), .int a1]) ++ List.replicate (2 - (lg_sl ([.ref (g.2.1 (138 + 0)), .int a1])).length) Slot.unset).toArray = ls at hl ⊢
  have hl : lv_has ls 2 [(0, .ref (g.2.1 (138 + 0))), (1, .int a1)] := hl
  unfold p_X11_named at hw
  refine lv_aload_n C.1 C.2.1 dX11_named_0 rfl (lv_at hl 0 rfl) ?_
  refine lv_iconst (v := 0) C.1 C.2.1 dX11_named_1 (by decide) ?_
  refine pX11_76 C hP hS Nat.zero_lt_one dX11_named_2 (fun M1 e1 H locs hP hS => ?_)
  have hw := hw M1 e1
  refine lv_aload_n C.1 C.2.1 dX11_named_5 rfl (lv_at hl 0 rfl) ?_
  refine lv_iload_n C.1 C.2.1 dX11_named_6 rfl (lv_at hl 1 rfl) ?_
  refine lv_iconst (v := 0) C.1 C.2.1 dX11_named_7 (by decide) ?_
  refine goI (wf := (yw g)) (runV (w := yw g M1) (As := [.int a1, .int 0]) (rest := []) C lkX11_176 (c_X11_nameAt l g C.2.2.2.2.2.2.2.2.2.2 a1 0  M1 _ hw) hP hS rfl rfl ⟨Nat.le_of_ble_eq_true rfl, Nat.le_of_ble_eq_true rfl⟩ (xx_40 Nat.zero_lt_one) rfl rfl hl.1 rfl (Nat.le_of_ble_eq_true rfl) dX11_named_8) hS (fun r2 M2 hw H locs hP hS => ?_)
  exact retI (wf := (yw g)) C hP hS hw dX11_named_11
def p_X11_isBird (a1 : Int32) (M : Mem) (Q : Int32 → Mem → Prop) : Prop := ((a1 < 0 → (Q 0 M)) ∧ (¬ a1 < 0 → (((M.1 40 0 11) ≤ a1 → (Q 0 M)) ∧ (¬ (M.1 40 0 11) ≤ a1 → (Q 1 M)))))
set_option maxRecDepth 100000 in
set_option maxHeartbeats 4000000 in
theorem c_X11_isBird (l : Launch) (g : Geo) (gi : GI g) (a1 : Int32) (M : Mem) (Q : Int32 → Mem → Prop) (hw : p_X11_isBird a1 M Q) : Met l yX11_isBird (Cond.code yX11_isBird cX11_isBird 2 (some .boolean) :: bg) ({ frames := 0, cells := 0, slots := 0, locals := 0 } : Room) (va_Pc [.ref (g.2.1 (138 + 0)), .int a1] (PW g (yw g M))) (va_Qi (fun r M => Q r M ∧ narrow .boolean (.int r) = .int r) (PB g (yw g)) (Af 1 g)) 0 0 (Af 1 g) := by
  refine Met.ofW (cc := cX11_isBird) (maxL := 2) (ret := (some .boolean)) (by decide +kernel) rfl ?_
  intro p e s m args below meth c s₁ B hml hv
  obtain ⟨rfl, hv⟩ := hv
  have C := CX.start (own := RX11) B hml rfl gi hv
  have hP := hv.1
  have hS : va_S (Af 1 g) s.heap s.heap [] := va_S.rf
  have hl := lv_entry ([.ref (g.2.1 (138 + 0)), .int a1]) (n := 2) (Nat.le_of_ble_eq_true rfl)
  rw [lg_entry_eq]
  generalize (lg_sl ([.ref (g.2.1 (138 + 0)), .int a1]) ++ List.replicate (2 - (lg_sl ([.ref (g.2.1 (138 + 0)), .int a1])).length) Slot.unset).toArray = ls at hl ⊢
  have hl : lv_has ls 2 [(0, .ref (g.2.1 (138 + 0))), (1, .int a1)] := hl
  unfold p_X11_isBird at hw
  refine lv_iload_n C.1 C.2.1 dX11_isBird_0 rfl (lv_at hl 1 rfl) ?_
  refine lv_if_lt (tgt := 16) C.1 C.2.1 dX11_isBird_1 (by decide) (fun h1 => ?_) (fun h1 => ?_)
  · have hw := hw.1 h1
    refine lv_iconst (v := 0) C.1 C.2.1 dX11_isBird_16 (by decide) ?_
    exact retZ (wf := (yw g)) C hP hS rfl hw dX11_isBird_17
  · have hw := hw.2 h1
    refine lv_iload_n C.1 C.2.1 dX11_isBird_4 rfl (lv_at hl 1 rfl) ?_
    refine lv_aload_n C.1 C.2.1 dX11_isBird_5 rfl (lv_at hl 0 rfl) ?_
    refine gX11_121 C hP Nat.zero_lt_one dX11_isBird_6 ?_
    refine lv_icmp_ge (tgt := 16) C.1 C.2.1 dX11_isBird_9 (by decide) (fun h2 => ?_) (fun h2 => ?_)
    · have hw := hw.1 h2
      refine lv_iconst (v := 0) C.1 C.2.1 dX11_isBird_16 (by decide) ?_
      exact retZ (wf := (yw g)) C hP hS rfl hw dX11_isBird_17
    · have hw := hw.2 h2
      refine lv_iconst (v := 1) C.1 C.2.1 dX11_isBird_12 (by decide) ?_
      refine lv_goto (tgt := 17) C.1 C.2.1 dX11_isBird_13 (by decide) ?_
      exact retZ (wf := (yw g)) C hP hS rfl hw dX11_isBird_17
def p_X11_fails (a1 : Int32) (M : Mem) (Q : Int32 → Mem → Prop) : Prop := (∀ M1 : Mem, M1 = sI M 40 0 2 a1 → (Q 0 M1))
set_option maxRecDepth 100000 in
set_option maxHeartbeats 4000000 in
theorem c_X11_fails (l : Launch) (g : Geo) (gi : GI g) (a1 : Int32) (M : Mem) (Q : Int32 → Mem → Prop) (hw : p_X11_fails a1 M Q) : Met l yX11_fails (Cond.code yX11_fails cX11_fails 2 (some .int) :: bg) ({ frames := 0, cells := 0, slots := 0, locals := 0 } : Room) (va_Pc [.ref (g.2.1 (138 + 0)), .int a1] (PW g (yw g M))) (va_Qi Q (PB g (yw g)) (Af 1 g)) 0 0 (Af 1 g) := by
  refine Met.ofW (cc := cX11_fails) (maxL := 2) (ret := (some .int)) (by decide +kernel) rfl ?_
  intro p e s m args below meth c s₁ B hml hv
  obtain ⟨rfl, hv⟩ := hv
  have C := CX.start (own := RX11) B hml rfl gi hv
  have hP := hv.1
  have hS : va_S (Af 1 g) s.heap s.heap [] := va_S.rf
  have hl := lv_entry ([.ref (g.2.1 (138 + 0)), .int a1]) (n := 2) (Nat.le_of_ble_eq_true rfl)
  rw [lg_entry_eq]
  generalize (lg_sl ([.ref (g.2.1 (138 + 0)), .int a1]) ++ List.replicate (2 - (lg_sl ([.ref (g.2.1 (138 + 0)), .int a1])).length) Slot.unset).toArray = ls at hl ⊢
  have hl : lv_has ls 2 [(0, .ref (g.2.1 (138 + 0))), (1, .int a1)] := hl
  unfold p_X11_fails at hw
  refine lv_aload_n C.1 C.2.1 dX11_fails_0 rfl (lv_at hl 0 rfl) ?_
  refine lv_iload_n C.1 C.2.1 dX11_fails_1 rfl (lv_at hl 1 rfl) ?_
  refine pX11_76 C hP hS Nat.zero_lt_one dX11_fails_2 (fun M1 e1 H locs hP hS => ?_)
  have hw := hw M1 e1
  refine lv_iconst (v := 0) C.1 C.2.1 dX11_fails_5 (by decide) ?_
  exact retI (wf := (yw g)) C hP hS hw dX11_fails_6
def p_X11_bird (a1 : Int32) (a2 : Int32) (M : Mem) (Q : Int32 → Mem → Prop) : Prop := (∀ M1 : Mem, M1 = sI M 40 0 2 0 → (p_X11_isBird a1 M1 (fun r2 M2 => ((¬ r2 = 0 → (p_X11_isIn a2 0 10 M2 (fun r4 M4 => ((¬ r4 = 0 → ((¬ a2 = 0 → ((5 ≤ a2 → ((7 ≤ a2 → ((¬ a2 = 7 → (p_X11_birdOf a1 10 M4 (fun r10 M10 => ((¬ r10 = 1 → (Q (-2) M10)) ∧ (r10 = 1 → (p_X11_birdOf a1 ((((11 : Int32) + a2) - 8)) M10 (fun r12 M12 => (Q r12 M12)))))))) ∧ (a2 = 7 → (p_X11_birdOf a1 9 M4 (fun r13 M13 => (Q r13 M13)))))) ∧ (¬ 7 ≤ a2 → (p_X11_birdOf a1 ((((7 : Int32) + a2) - 5)) M4 (fun r14 M14 => ((r14 ≤ 0 → (Q (-2) M14)) ∧ (¬ r14 ≤ 0 → (p_X11_birdOf a1 ((((7 : Int32) + a2) - 5)) M14 (fun r16 M16 => (Q r16 M16)))))))))) ∧ (¬ 5 ≤ a2 → (p_X11_birdOf a1 2 M4 (fun r17 M17 => ((¬ r17 = 1 → (Q (-2) M17)) ∧ (r17 = 1 → (p_X11_birdOf a1 ((((3 : Int32) + a2) - 1)) M17 (fun r19 M19 => (Q r19 M19)))))))))) ∧ (a2 = 0 → (p_X11_birdOf a1 1 M4 (fun r20 M20 => (Q r20 M20)))))) ∧ (r4 = 0 → (p_X11_fails 2 M4 (fun r21 M21 => (Q r21 M21)))))))) ∧ (r2 = 0 → (p_X11_fails 1 M2 (fun r22 M22 => (Q r22 M22))))))))
set_option maxRecDepth 100000 in
set_option maxHeartbeats 4000000 in
theorem c_X11_bird (l : Launch) (g : Geo) (gi : GI g) (a1 : Int32) (a2 : Int32) (M : Mem) (Q : Int32 → Mem → Prop) (hw : p_X11_bird a1 a2 M Q) : Met l yX11_bird (Cond.code yX11_bird cX11_bird 3 (some .int) :: bg) ({ frames := 1, cells := 0, slots := 0, locals := 22 } : Room) (va_Pc [.ref (g.2.1 (138 + 0)), .int a1, .int a2] (PW g (yw g M))) (va_Qi Q (PB g (yw g)) (Af 1 g)) 0 0 (Af 1 g) := by
  refine Met.ofW (cc := cX11_bird) (maxL := 3) (ret := (some .int)) (by decide +kernel) rfl ?_
  intro p e s m args below meth c s₁ B hml hv
  obtain ⟨rfl, hv⟩ := hv
  have C := CX.start (own := RX11) B hml rfl gi hv
  have hP := hv.1
  have hS : va_S (Af 1 g) s.heap s.heap [] := va_S.rf
  have hl := lv_entry ([.ref (g.2.1 (138 + 0)), .int a1, .int a2]) (n := 3) (Nat.le_of_ble_eq_true rfl)
  rw [lg_entry_eq]
  generalize (lg_sl ([.ref (g.2.1 (138 + 0)), .int a1, .int a2]) ++ List.replicate (3 - (lg_sl ([.ref (g.2.1 (138 + 0)), .int a1, .int a2])).length) Slot.unset).toArray = ls at hl ⊢
  have hl : lv_has ls 3 [(0, .ref (g.2.1 (138 + 0))), (1, .int a1), (2, .int a2)] := hl
  unfold p_X11_bird at hw
  refine lv_aload_n C.1 C.2.1 dX11_bird_0 rfl (lv_at hl 0 rfl) ?_
  refine lv_iconst (v := 0) C.1 C.2.1 dX11_bird_1 (by decide) ?_
  refine pX11_76 C hP hS Nat.zero_lt_one dX11_bird_2 (fun M1 e1 H locs hP hS => ?_)
  have hw := hw M1 e1
  refine lv_aload_n C.1 C.2.1 dX11_bird_5 rfl (lv_at hl 0 rfl) ?_
  refine lv_iload_n C.1 C.2.1 dX11_bird_6 rfl (lv_at hl 1 rfl) ?_
  refine goI (wf := (yw g)) (runV (w := yw g M1) (As := [.int a1]) (rest := []) C lkX11_216 (c_X11_isBird l g C.2.2.2.2.2.2.2.2.2.2 a1  M1 _ hw) hP hS rfl rfl ⟨Nat.le_of_ble_eq_true rfl, Nat.le_of_ble_eq_true rfl⟩ (xx_40 Nat.zero_lt_one) rfl rfl hl.1 rfl (Nat.le_of_ble_eq_true rfl) dX11_bird_7) hS (fun r2 M2 hw H locs hP hS => ?_)
  obtain ⟨hw, hz2⟩ := hw
  refine lv_if_ne (tgt := 19) C.1 C.2.1 dX11_bird_10 (by decide) (fun h3 => ?_) (fun h3 => ?_)
  · have hw := hw.1 h3
    refine lv_iload_n C.1 C.2.1 dX11_bird_19 rfl (lv_at hl 2 rfl) ?_
    refine lv_iconst (v := 0) C.1 C.2.1 dX11_bird_20 (by decide) ?_
    refine lv_bipush (v := 10) C.1 C.2.1 dX11_bird_21 (by decide) ?_
    refine goI (wf := (yw g)) (runS (w := yw g M2) (As := [.int a2, .int 0, .int 10]) (rest := []) C lkX11_166 (c_X11_isIn l g C.2.2.2.2.2.2.2.2.2.2 a2 0 10  M2 _ hw) hP hS rfl rfl ⟨Nat.le_of_ble_eq_true rfl, Nat.le_of_ble_eq_true rfl⟩ hl.1 rfl (Nat.le_of_ble_eq_true rfl) dX11_bird_23) hS (fun r4 M4 hw H locs hP hS => ?_)
    obtain ⟨hw, hz4⟩ := hw
    refine lv_if_ne (tgt := 35) C.1 C.2.1 dX11_bird_26 (by decide) (fun h5 => ?_) (fun h5 => ?_)
    · have hw := hw.1 h5
      refine lv_iload_n C.1 C.2.1 dX11_bird_35 rfl (lv_at hl 2 rfl) ?_
      refine lv_if_ne (tgt := 46) C.1 C.2.1 dX11_bird_36 (by decide) (fun h6 => ?_) (fun h6 => ?_)
      · have hw := hw.1 h6
        refine lv_iload_n C.1 C.2.1 dX11_bird_46 rfl (lv_at hl 2 rfl) ?_
        refine lv_iconst (v := 5) C.1 C.2.1 dX11_bird_47 (by decide) ?_
        refine lv_icmp_ge (tgt := 77) C.1 C.2.1 dX11_bird_48 (by decide) (fun h7 => ?_) (fun h7 => ?_)
        · have hw := hw.1 h7
          refine lv_iload_n C.1 C.2.1 dX11_bird_77 rfl (lv_at hl 2 rfl) ?_
          refine lv_bipush (v := 7) C.1 C.2.1 dX11_bird_78 (by decide) ?_
          refine lv_icmp_ge (tgt := 114) C.1 C.2.1 dX11_bird_80 (by decide) (fun h8 => ?_) (fun h8 => ?_)
          · have hw := hw.1 h8
            refine lv_iload_n C.1 C.2.1 dX11_bird_114 rfl (lv_at hl 2 rfl) ?_
            refine lv_bipush (v := 7) C.1 C.2.1 dX11_bird_115 (by decide) ?_
            refine lv_icmp_ne (tgt := 128) C.1 C.2.1 dX11_bird_117 (by decide) (fun h9 => ?_) (fun h9 => ?_)
            · have hw := hw.1 h9
              refine lv_aload_n C.1 C.2.1 dX11_bird_128 rfl (lv_at hl 0 rfl) ?_
              refine lv_iload_n C.1 C.2.1 dX11_bird_129 rfl (lv_at hl 1 rfl) ?_
              refine lv_bipush (v := 10) C.1 C.2.1 dX11_bird_130 (by decide) ?_
              refine goI (wf := (yw g)) (runV (w := yw g M4) (As := [.int a1, .int 10]) (rest := []) C lkX11_160 (c_X11_birdOf l g C.2.2.2.2.2.2.2.2.2.2 a1 10  M4 _ hw) hP hS rfl rfl ⟨Nat.le_of_ble_eq_true rfl, Nat.le_of_ble_eq_true rfl⟩ (xx_40 Nat.zero_lt_one) rfl rfl hl.1 rfl (Nat.le_of_ble_eq_true rfl) dX11_bird_132) hS (fun r10 M10 hw H locs hP hS => ?_)
              refine lv_iconst (v := 1) C.1 C.2.1 dX11_bird_135 (by decide) ?_
              refine lv_icmp_ne (tgt := 154) C.1 C.2.1 dX11_bird_136 (by decide) (fun h11 => ?_) (fun h11 => ?_)
              · have hw := hw.1 h11
                refine lv_bipush (v := (-2)) C.1 C.2.1 dX11_bird_154 (by decide) ?_
                exact retI (wf := (yw g)) C hP hS hw dX11_bird_156
              · have hw := hw.2 h11
                refine lv_aload_n C.1 C.2.1 dX11_bird_139 rfl (lv_at hl 0 rfl) ?_
                refine lv_iload_n C.1 C.2.1 dX11_bird_140 rfl (lv_at hl 1 rfl) ?_
                refine lv_bipush (v := 11) C.1 C.2.1 dX11_bird_141 (by decide) ?_
                refine lv_iload_n C.1 C.2.1 dX11_bird_143 rfl (lv_at hl 2 rfl) ?_
                refine lv_iadd C.1 C.2.1 dX11_bird_144 ?_
                refine lv_bipush (v := 8) C.1 C.2.1 dX11_bird_145 (by decide) ?_
                refine lv_isub C.1 C.2.1 dX11_bird_147 ?_
                refine goI (wf := (yw g)) (runV (w := yw g M10) (As := [.int a1, .int (((11 : Int32) + a2) - 8)]) (rest := []) C lkX11_160 (c_X11_birdOf l g C.2.2.2.2.2.2.2.2.2.2 a1 ((((11 : Int32) + a2) - 8))  M10 _ hw) hP hS rfl rfl ⟨Nat.le_of_ble_eq_true rfl, Nat.le_of_ble_eq_true rfl⟩ (xx_40 Nat.zero_lt_one) rfl rfl hl.1 rfl (Nat.le_of_ble_eq_true rfl) dX11_bird_148) hS (fun r12 M12 hw H locs hP hS => ?_)
                refine lv_goto (tgt := 156) C.1 C.2.1 dX11_bird_151 (by decide) ?_
                exact retI (wf := (yw g)) C hP hS hw dX11_bird_156
            · have hw := hw.2 h9
              refine lv_aload_n C.1 C.2.1 dX11_bird_120 rfl (lv_at hl 0 rfl) ?_
              refine lv_iload_n C.1 C.2.1 dX11_bird_121 rfl (lv_at hl 1 rfl) ?_
              refine lv_bipush (v := 9) C.1 C.2.1 dX11_bird_122 (by decide) ?_
              refine goI (wf := (yw g)) (runV (w := yw g M4) (As := [.int a1, .int 9]) (rest := []) C lkX11_160 (c_X11_birdOf l g C.2.2.2.2.2.2.2.2.2.2 a1 9  M4 _ hw) hP hS rfl rfl ⟨Nat.le_of_ble_eq_true rfl, Nat.le_of_ble_eq_true rfl⟩ (xx_40 Nat.zero_lt_one) rfl rfl hl.1 rfl (Nat.le_of_ble_eq_true rfl) dX11_bird_124) hS (fun r13 M13 hw H locs hP hS => ?_)
              exact retI (wf := (yw g)) C hP hS hw dX11_bird_127
          · have hw := hw.2 h8
            refine lv_aload_n C.1 C.2.1 dX11_bird_83 rfl (lv_at hl 0 rfl) ?_
            refine lv_iload_n C.1 C.2.1 dX11_bird_84 rfl (lv_at hl 1 rfl) ?_
            refine lv_bipush (v := 7) C.1 C.2.1 dX11_bird_85 (by decide) ?_
            refine lv_iload_n C.1 C.2.1 dX11_bird_87 rfl (lv_at hl 2 rfl) ?_
            refine lv_iadd C.1 C.2.1 dX11_bird_88 ?_
            refine lv_iconst (v := 5) C.1 C.2.1 dX11_bird_89 (by decide) ?_
            refine lv_isub C.1 C.2.1 dX11_bird_90 ?_
            refine goI (wf := (yw g)) (runV (w := yw g M4) (As := [.int a1, .int (((7 : Int32) + a2) - 5)]) (rest := []) C lkX11_160 (c_X11_birdOf l g C.2.2.2.2.2.2.2.2.2.2 a1 ((((7 : Int32) + a2) - 5))  M4 _ hw) hP hS rfl rfl ⟨Nat.le_of_ble_eq_true rfl, Nat.le_of_ble_eq_true rfl⟩ (xx_40 Nat.zero_lt_one) rfl rfl hl.1 rfl (Nat.le_of_ble_eq_true rfl) dX11_bird_91) hS (fun r14 M14 hw H locs hP hS => ?_)
            refine lv_if_le (tgt := 111) C.1 C.2.1 dX11_bird_94 (by decide) (fun h15 => ?_) (fun h15 => ?_)
            · have hw := hw.1 h15
              refine lv_bipush (v := (-2)) C.1 C.2.1 dX11_bird_111 (by decide) ?_
              exact retI (wf := (yw g)) C hP hS hw dX11_bird_113
            · have hw := hw.2 h15
              refine lv_aload_n C.1 C.2.1 dX11_bird_97 rfl (lv_at hl 0 rfl) ?_
              refine lv_iload_n C.1 C.2.1 dX11_bird_98 rfl (lv_at hl 1 rfl) ?_
              refine lv_bipush (v := 7) C.1 C.2.1 dX11_bird_99 (by decide) ?_
              refine lv_iload_n C.1 C.2.1 dX11_bird_101 rfl (lv_at hl 2 rfl) ?_
              refine lv_iadd C.1 C.2.1 dX11_bird_102 ?_
              refine lv_iconst (v := 5) C.1 C.2.1 dX11_bird_103 (by decide) ?_
              refine lv_isub C.1 C.2.1 dX11_bird_104 ?_
              refine goI (wf := (yw g)) (runV (w := yw g M14) (As := [.int a1, .int (((7 : Int32) + a2) - 5)]) (rest := []) C lkX11_160 (c_X11_birdOf l g C.2.2.2.2.2.2.2.2.2.2 a1 ((((7 : Int32) + a2) - 5))  M14 _ hw) hP hS rfl rfl ⟨Nat.le_of_ble_eq_true rfl, Nat.le_of_ble_eq_true rfl⟩ (xx_40 Nat.zero_lt_one) rfl rfl hl.1 rfl (Nat.le_of_ble_eq_true rfl) dX11_bird_105) hS (fun r16 M16 hw H locs hP hS => ?_)
              refine lv_goto (tgt := 113) C.1 C.2.1 dX11_bird_108 (by decide) ?_
              exact retI (wf := (yw g)) C hP hS hw dX11_bird_113
        · have hw := hw.2 h7
          refine lv_aload_n C.1 C.2.1 dX11_bird_51 rfl (lv_at hl 0 rfl) ?_
          refine lv_iload_n C.1 C.2.1 dX11_bird_52 rfl (lv_at hl 1 rfl) ?_
          refine lv_iconst (v := 2) C.1 C.2.1 dX11_bird_53 (by decide) ?_
          refine goI (wf := (yw g)) (runV (w := yw g M4) (As := [.int a1, .int 2]) (rest := []) C lkX11_160 (c_X11_birdOf l g C.2.2.2.2.2.2.2.2.2.2 a1 2  M4 _ hw) hP hS rfl rfl ⟨Nat.le_of_ble_eq_true rfl, Nat.le_of_ble_eq_true rfl⟩ (xx_40 Nat.zero_lt_one) rfl rfl hl.1 rfl (Nat.le_of_ble_eq_true rfl) dX11_bird_54) hS (fun r17 M17 hw H locs hP hS => ?_)
          refine lv_iconst (v := 1) C.1 C.2.1 dX11_bird_57 (by decide) ?_
          refine lv_icmp_ne (tgt := 74) C.1 C.2.1 dX11_bird_58 (by decide) (fun h18 => ?_) (fun h18 => ?_)
          · have hw := hw.1 h18
            refine lv_bipush (v := (-2)) C.1 C.2.1 dX11_bird_74 (by decide) ?_
            exact retI (wf := (yw g)) C hP hS hw dX11_bird_76
          · have hw := hw.2 h18
            refine lv_aload_n C.1 C.2.1 dX11_bird_61 rfl (lv_at hl 0 rfl) ?_
            refine lv_iload_n C.1 C.2.1 dX11_bird_62 rfl (lv_at hl 1 rfl) ?_
            refine lv_iconst (v := 3) C.1 C.2.1 dX11_bird_63 (by decide) ?_
            refine lv_iload_n C.1 C.2.1 dX11_bird_64 rfl (lv_at hl 2 rfl) ?_
            refine lv_iadd C.1 C.2.1 dX11_bird_65 ?_
            refine lv_iconst (v := 1) C.1 C.2.1 dX11_bird_66 (by decide) ?_
            refine lv_isub C.1 C.2.1 dX11_bird_67 ?_
            refine goI (wf := (yw g)) (runV (w := yw g M17) (As := [.int a1, .int (((3 : Int32) + a2) - 1)]) (rest := []) C lkX11_160 (c_X11_birdOf l g C.2.2.2.2.2.2.2.2.2.2 a1 ((((3 : Int32) + a2) - 1))  M17 _ hw) hP hS rfl rfl ⟨Nat.le_of_ble_eq_true rfl, Nat.le_of_ble_eq_true rfl⟩ (xx_40 Nat.zero_lt_one) rfl rfl hl.1 rfl (Nat.le_of_ble_eq_true rfl) dX11_bird_68) hS (fun r19 M19 hw H locs hP hS => ?_)
            refine lv_goto (tgt := 76) C.1 C.2.1 dX11_bird_71 (by decide) ?_
            exact retI (wf := (yw g)) C hP hS hw dX11_bird_76
      · have hw := hw.2 h6
        refine lv_aload_n C.1 C.2.1 dX11_bird_39 rfl (lv_at hl 0 rfl) ?_
        refine lv_iload_n C.1 C.2.1 dX11_bird_40 rfl (lv_at hl 1 rfl) ?_
        refine lv_iconst (v := 1) C.1 C.2.1 dX11_bird_41 (by decide) ?_
        refine goI (wf := (yw g)) (runV (w := yw g M4) (As := [.int a1, .int 1]) (rest := []) C lkX11_160 (c_X11_birdOf l g C.2.2.2.2.2.2.2.2.2.2 a1 1  M4 _ hw) hP hS rfl rfl ⟨Nat.le_of_ble_eq_true rfl, Nat.le_of_ble_eq_true rfl⟩ (xx_40 Nat.zero_lt_one) rfl rfl hl.1 rfl (Nat.le_of_ble_eq_true rfl) dX11_bird_42) hS (fun r20 M20 hw H locs hP hS => ?_)
        exact retI (wf := (yw g)) C hP hS hw dX11_bird_45
    · have hw := hw.2 h5
      refine lv_aload_n C.1 C.2.1 dX11_bird_29 rfl (lv_at hl 0 rfl) ?_
      refine lv_iconst (v := 2) C.1 C.2.1 dX11_bird_30 (by decide) ?_
      refine goI (wf := (yw g)) (runV (w := yw g M4) (As := [.int 2]) (rest := []) C lkX11_219 (c_X11_fails l g C.2.2.2.2.2.2.2.2.2.2 2  M4 _ hw) hP hS rfl rfl ⟨Nat.le_of_ble_eq_true rfl, Nat.le_of_ble_eq_true rfl⟩ (xx_40 Nat.zero_lt_one) rfl rfl hl.1 rfl (Nat.le_of_ble_eq_true rfl) dX11_bird_31) hS (fun r21 M21 hw H locs hP hS => ?_)
      exact retI (wf := (yw g)) C hP hS hw dX11_bird_34
  · have hw := hw.2 h3
    refine lv_aload_n C.1 C.2.1 dX11_bird_13 rfl (lv_at hl 0 rfl) ?_
    refine lv_iconst (v := 1) C.1 C.2.1 dX11_bird_14 (by decide) ?_
    refine goI (wf := (yw g)) (runV (w := yw g M2) (As := [.int 1]) (rest := []) C lkX11_219 (c_X11_fails l g C.2.2.2.2.2.2.2.2.2.2 1  M2 _ hw) hP hS rfl rfl ⟨Nat.le_of_ble_eq_true rfl, Nat.le_of_ble_eq_true rfl⟩ (xx_40 Nat.zero_lt_one) rfl rfl hl.1 rfl (Nat.le_of_ble_eq_true rfl) dX11_bird_15) hS (fun r22 M22 hw H locs hP hS => ?_)
    exact retI (wf := (yw g)) C hP hS hw dX11_bird_18
def p_X11_chipBy (a1 : Int32) (a2 : Int32) (M : Mem) (Q : Int32 → Mem → Prop) : Prop := (vp_in a2 62 ∧ (vp_in ((31 : Int32) + ((a2 + a1) - (a2 + a1) / 31 * 31)) 62 ∧ ((¬ (M.1 47 0 (a2 : Int32).toNatClampNeg) = (M.1 47 0 (((31 : Int32) + ((a2 + a1) - (a2 + a1) / 31 * 31)) : Int32).toNatClampNeg) → (Q (-1) M)) ∧ ((M.1 47 0 (a2 : Int32).toNatClampNeg) = (M.1 47 0 (((31 : Int32) + ((a2 + a1) - (a2 + a1) / 31 * 31)) : Int32).toNatClampNeg) → (Q 1 M)))))
set_option maxRecDepth 100000 in
set_option maxHeartbeats 4000000 in
theorem c_X11_chipBy (l : Launch) (g : Geo) (gi : GI g) (a1 : Int32) (a2 : Int32) (M : Mem) (Q : Int32 → Mem → Prop) (hw : p_X11_chipBy a1 a2 M Q) : Met l yX11_chipBy (Cond.code yX11_chipBy cX11_chipBy 3 (some .int) :: bg) ({ frames := 0, cells := 0, slots := 0, locals := 0 } : Room) (va_Pc [.ref (g.2.1 (138 + 0)), .int a1, .int a2] (PW g (yw g M))) (va_Qi Q (PB g (yw g)) (Af 1 g)) 0 0 (Af 1 g) := by
  refine Met.ofW (cc := cX11_chipBy) (maxL := 3) (ret := (some .int)) (by decide +kernel) rfl ?_
  intro p e s m args below meth c s₁ B hml hv
  obtain ⟨rfl, hv⟩ := hv
  have C := CX.start (own := RX11) B hml rfl gi hv
  have hP := hv.1
  have hS : va_S (Af 1 g) s.heap s.heap [] := va_S.rf
  have hl := lv_entry ([.ref (g.2.1 (138 + 0)), .int a1, .int a2]) (n := 3) (Nat.le_of_ble_eq_true rfl)
  rw [lg_entry_eq]
  generalize (lg_sl ([.ref (g.2.1 (138 + 0)), .int a1, .int a2]) ++ List.replicate (3 - (lg_sl ([.ref (g.2.1 (138 + 0)), .int a1, .int a2])).length) Slot.unset).toArray = ls at hl ⊢
  have hl : lv_has ls 3 [(0, .ref (g.2.1 (138 + 0))), (1, .int a1), (2, .int a2)] := hl
  unfold p_X11_chipBy at hw
  refine lv_aload_n C.1 C.2.1 dX11_chipBy_0 rfl (lv_at hl 0 rfl) ?_
  refine gX11_33 C hP Nat.zero_lt_one dX11_chipBy_1 ?_
  refine lv_iload_n C.1 C.2.1 dX11_chipBy_4 rfl (lv_at hl 2 rfl) ?_
  obtain ⟨h1, hw⟩ := hw
  refine al_47 C hP Nat.zero_lt_one h1 dX11_chipBy_5 ?_
  refine lv_aload_n C.1 C.2.1 dX11_chipBy_6 rfl (lv_at hl 0 rfl) ?_
  refine gX11_33 C hP Nat.zero_lt_one dX11_chipBy_7 ?_
  refine lv_bipush (v := 31) C.1 C.2.1 dX11_chipBy_10 (by decide) ?_
  refine lv_iload_n C.1 C.2.1 dX11_chipBy_12 rfl (lv_at hl 2 rfl) ?_
  refine lv_iload_n C.1 C.2.1 dX11_chipBy_13 rfl (lv_at hl 1 rfl) ?_
  refine lv_iadd C.1 C.2.1 dX11_chipBy_14 ?_
  refine lv_bipush (v := 31) C.1 C.2.1 dX11_chipBy_15 (by decide) ?_
  refine lv_irem C.1 C.2.1 dX11_chipBy_17 (by decide) ?_
  refine lv_iadd C.1 C.2.1 dX11_chipBy_18 ?_
  obtain ⟨h2, hw⟩ := hw
  refine al_47 C hP Nat.zero_lt_one h2 dX11_chipBy_19 ?_
  refine lv_icmp_ne (tgt := 27) C.1 C.2.1 dX11_chipBy_20 (by decide) (fun h3 => ?_) (fun h3 => ?_)
  · have hw := hw.1 h3
    refine lv_iconst (v := (-1)) C.1 C.2.1 dX11_chipBy_27 (by decide) ?_
    exact retI (wf := (yw g)) C hP hS hw dX11_chipBy_28
  · have hw := hw.2 h3
    refine lv_iconst (v := 1) C.1 C.2.1 dX11_chipBy_23 (by decide) ?_
    refine lv_goto (tgt := 28) C.1 C.2.1 dX11_chipBy_24 (by decide) ?_
    exact retI (wf := (yw g)) C hP hS hw dX11_chipBy_28
