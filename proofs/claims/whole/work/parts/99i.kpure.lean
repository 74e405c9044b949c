section KPU
variable {p : Program} {l : Launch} {e : Env} {R : Room} {s : State} {m : MethodId} {args : Array Value} {below : List Frame} {meth : Method} {c : Code} {H : Heap} {locs : List Loc} {cells slots : Nat} {Q : State → Prop} {g : Geo} {cc : ByteArray} {nL : Nat} {ret : Option FieldType} {own : String} {pc : Nat} {ls : Array Slot} {rest : List Value} {A : Nat → Prop}
theorem kP_nil {D : va_G} {cl : List vw_C} : va_P D cl [] H := fun _ _ h => by cases h
theorem kD_nil : va_D A [] := ⟨fun _ _ _ _ h => (by cases h), fun _ _ h => (by cases h)⟩
theorem krunS (C : CK g p s m args meth c cc nL ret own) {idx : Nat} {y : MethodName} {bytes : ByteArray} {maxL n : Nat} {ret2 : Option FieldType} {rm : Room} {As : List Value} {Qc : Array Value → State → Outcome → State → Prop} {free : Addr → Prop} (lk : LSt own idx y bytes maxL ret2 n)
    (hM : Met l y (Cond.code y bytes maxL ret2 :: bg) rm (va_Pc As (PS g H.size [])) Qc 0 0 free) (hS : va_S A s.heap H locs) (hrc : rm.cells = 0) (hrs : rm.slots = 0) (hR : rm.frames + 1 ≤ R.frames ∧ 8 + (maxL + 11) + rm.locals ≤ R.locals)
    (hl : ls.size = nL) (hn : As.length = n) (hroom : (rest.map fun v => v.category).sum ≤ 8) (hdg : decode cc pc = .ok (.invokestatic idx, 3)) (hcs : cells + 0 ≤ R.cells ∧ slots + 0 ≤ R.slots := by first | exact ⟨Nat.zero_le _, Nat.zero_le _⟩ | decide) :
    va_Run p l e R s m args below meth c H locs cells slots 0 0 (F0 m pc ls (As.reverse ++ rest)) rest (Qc As.toArray) free :=
  va_runS ⟨C.1, C.2.1, C.2.2.1, C.2.2.2.2.1, C.2.2.2.2.2.1⟩ hM (va_cwS n C.2.2.2.2.2.1 lk.1 rfl hrc hrs lk.2 hR) ⟨PS.blind g _ [] _, fun U hU hW => ⟨rfl, by rw [hU], kP_nil, kD_nil, va_K.moved hW.alike C.2.2.2.2.2.2.2.1, NS.warm C.2.2.2.2.2.2.2.2.1 hW, AO.moved hW.alike C.2.2.2.2.2.2.2.2.2⟩⟩ rfl hn hl rfl (lv_room hroom) hdg hcs
theorem krunN (C : CK g p s m args meth c cc nL ret own) {idx : Nat} {y : MethodName} {host : String} {bytes : ByteArray} {maxL n : Nat} {ret2 : Option FieldType} {rm : Room} {As : List Value} {Qc : Array Value → State → Outcome → State → Prop} {free : Addr → Prop} (lk : LN own idx y host bytes maxL ret2 n)
    (hM : Met l y (Cond.code y bytes maxL ret2 :: bg) rm (va_Pc As (PS g H.size [])) Qc 0 0 free) (hrc : rm.cells = 0) (hrs : rm.slots = 0) (hR : rm.frames + 1 ≤ R.frames ∧ 8 + (maxL + 11) + rm.locals ≤ R.locals)
    (hl : ls.size = nL) (hn : As.length = n) (hroom : (rest.map fun v => v.category).sum ≤ 8) (hdg : decode cc pc = .ok (.invokestatic idx, 3)) (hcs : cells + 0 ≤ R.cells ∧ slots + 0 ≤ R.slots) :
    va_Run p l e R s m args below meth c H locs cells slots 0 0 (F0 m pc ls (As.reverse ++ rest)) rest (Qc As.toArray) free :=
  va_runSN ⟨C.1, C.2.1, C.2.2.1, C.2.2.2.2.1, C.2.2.2.2.2.1⟩ hM ⟨va_cnB n C.2.2.2.2.2.1 lk.2.2.2.1 rfl hrc hrs (lk.1 s C.2.2.2.2.2.2.2.2.1) (C.2.2.2.2.2.1 _ lk.2.2.1) lk.2.2.2.2 hR, C.2.2.2.2.2.1 _ lk.2.1, trivial⟩ ⟨PS.blind g _ [] _, fun U hU hW => ⟨rfl, by rw [hU], kP_nil, kD_nil, va_K.moved hW.alike C.2.2.2.2.2.2.2.1, NS.warm C.2.2.2.2.2.2.2.2.1 hW, AO.moved hW.alike C.2.2.2.2.2.2.2.2.2⟩⟩ rfl hn hl rfl (lv_room hroom) hdg hcs
/-- behind a call that leaves the heap as it is -/
theorem kgoI {a : Array Value} {st0 : List Value} {post : Int32 → Mem → Prop} {B : Mem → State → Prop} (hr : va_Run p l e R s m args below meth c H locs cells slots 0 0 (F0 m pc ls st0) rest (va_Qi post B (fun _ => False) a) (fun _ => False)) (hS : va_S A s.heap H locs)
    (kk : ∀ (r : Int32) (M : Mem), post r M → ∀ (H1 : Heap) (locs1 : List Loc), va_S A s.heap H1 locs1 → W p l e R s m args below meth c H1 locs1 cells slots Q (F0 m (pc + 3) ls (.int r :: rest))) : W p l e R s m args below meth c H locs cells slots Q (F0 m pc ls st0) :=
  va_calli hr hS (fun _ _ h => h.elim) (fun _ h => h.elim) (fun r u _ H1 locs1 _ _ hw _ _ _ hS => kk r u hw H1 locs1 hS)
theorem kgoIP {ws : va_W} {a : Array Value} {st0 : List Value} {post : Int32 → Mem → Prop} {B : Mem → State → Prop} (hr : va_Run p l e R s m args below meth c H locs cells slots 0 0 (F0 m pc ls st0) rest (va_Qi post B (fun _ => False) a) (fun _ => False)) (hP : va_P g.1 clz ws H) (hS : va_S A s.heap H locs)
    (kk : ∀ (r : Int32) (M : Mem), post r M → ∀ (H1 : Heap) (locs1 : List Loc), va_P g.1 clz ws H1 → va_S A s.heap H1 locs1 → W p l e R s m args below meth c H1 locs1 cells slots Q (F0 m (pc + 3) ls (.int r :: rest))) : W p l e R s m args below meth c H locs cells slots Q (F0 m pc ls st0) :=
  va_calli hr hS (fun _ _ h => h.elim) (fun _ h => h.elim) (fun r u _ H1 locs1 _ _ hw _ _ hk hS => kk r u hw H1 locs1 (hP.kept (fun k q hq => hk q.1 ((hP k q hq).lt) (fun z => z))) hS)
theorem kretI (C : CK g p s m args meth c cc nL (some .int) own) {M : Mem} {v : Int32} {post : Int32 → Mem → Prop} (hS : va_S (fun _ => False) s.heap H locs) (hq : post v M) (hdg : decode cc pc = .ok (.ireturn, 1)) : W p l e R s m args below meth c H locs 0 0 (MQ below (va_Qi post (PB g (fun _ => [])) (fun _ => False)) args s 0 0 (fun _ => False)) (F0 m pc ls [.int v]) :=
  W.iret C.1 C.2.1 C.2.2.2.1 (fun _ ht _ => ⟨⟨v, M, rfl, hq, kP_nil⟩, hS.F ht⟩) hS.2.2 hdg C.2.2.2.2.2.2.1
end KPU
set_option maxRecDepth 100000 in
set_option maxHeartbeats 4000000 in
theorem cq_J6_bitCount_0f7a4 (l : Launch) (g : Geo) (sz : Nat) (a0 : Int32) (M : Mem) (Q : Int32 → Mem → Prop) (hw : p_J6_bitCount_0f7a4 a0 M Q) : Met l yJ6_bitCount_0f7a4 (Cond.code yJ6_bitCount_0f7a4 cJ6_bitCount_0f7a4 1 (some .int) :: bg) ({ frames := 0, cells := 0, slots := 0, locals := 0 } : Room) (va_Pc [.int a0] (PS g sz [])) (va_Qi Q (PB g (fun _ => [])) (fun _ => False)) 0 0 (fun _ => False) := by
  refine Met.ofW (cc := cJ6_bitCount_0f7a4) (maxL := 1) (ret := (some .int)) (by decide +kernel) rfl ?_
  intro p e s m args below meth c s₁ B hml hv
  obtain ⟨rfl, hv⟩ := hv
  have C := CK.start (own := RJ6) B hml rfl hv
  have hP : va_P g.1 clz [] s.heap := hv.2.1
  have hS : va_S (fun _ => False) s.heap s.heap [] := va_S.rf
  have hl := lv_entry ([.int a0]) (n := 1) (Nat.le_of_ble_eq_true rfl)
  rw [lg_entry_eq]
  generalize (lg_sl ([.int a0]) ++ List.replicate (1 - (lg_sl ([.int a0])).length) Slot.unset).toArray = ls at hl ⊢
  have hl : lv_has ls 1 [(0, .int a0)] := hl
  unfold p_J6_bitCount_0f7a4 at hw
  refine lv_iload_n C.1 C.2.1 dJ6_bitCount_0f7a4_0 rfl (lv_at hl 0 rfl) ?_
  refine lv_iload_n C.1 C.2.1 dJ6_bitCount_0f7a4_1 rfl (lv_at hl 0 rfl) ?_
  refine lv_iconst (v := 1) C.1 C.2.1 dJ6_bitCount_0f7a4_2 (by decide) ?_
  refine lv_iushr C.1 C.2.1 dJ6_bitCount_0f7a4_3 rfl ?_
  refine lv_ldcw (v := 1431655765) C.1 C.2.1 C.2.2.2.2.1 (C.2.2.2.2.2.1 _ (bg_of 271 (by decide +kernel) rfl)) dJ6_bitCount_0f7a4_4 ?_
  refine lv_iand C.1 C.2.1 dJ6_bitCount_0f7a4_7 ?_
  refine lv_isub C.1 C.2.1 dJ6_bitCount_0f7a4_8 ?_
  refine lv_topi (fun x1 e1 => ?_)
  have hw := hw x1 e1
  refine lv_istore_n (lv' := [(0, .int x1)]) C.1 C.2.1 dJ6_bitCount_0f7a4_9 rfl hl (by decide) rfl (fun ls hl => ?_)
  refine lv_iload_n C.1 C.2.1 dJ6_bitCount_0f7a4_10 rfl (lv_at hl 0 rfl) ?_
  refine lv_ldcw (v := 858993459) C.1 C.2.1 C.2.2.2.2.1 (C.2.2.2.2.2.1 _ (bg_of 272 (by decide +kernel) rfl)) dJ6_bitCount_0f7a4_11 ?_
  refine lv_iand C.1 C.2.1 dJ6_bitCount_0f7a4_14 ?_
  refine lv_iload_n C.1 C.2.1 dJ6_bitCount_0f7a4_15 rfl (lv_at hl 0 rfl) ?_
  refine lv_iconst (v := 2) C.1 C.2.1 dJ6_bitCount_0f7a4_16 (by decide) ?_
  refine lv_iushr C.1 C.2.1 dJ6_bitCount_0f7a4_17 rfl ?_
  refine lv_ldcw (v := 858993459) C.1 C.2.1 C.2.2.2.2.1 (C.2.2.2.2.2.1 _ (bg_of 272 (by decide +kernel) rfl)) dJ6_bitCount_0f7a4_18 ?_
  refine lv_iand C.1 C.2.1 dJ6_bitCount_0f7a4_21 ?_
  refine lv_iadd C.1 C.2.1 dJ6_bitCount_0f7a4_22 ?_
  refine lv_topi (fun x2 e2 => ?_)
  have hw := hw x2 e2
  refine lv_istore_n (lv' := [(0, .int x2)]) C.1 C.2.1 dJ6_bitCount_0f7a4_23 rfl hl (by decide) rfl (fun ls hl => ?_)
  refine lv_iload_n C.1 C.2.1 dJ6_bitCount_0f7a4_24 rfl (lv_at hl 0 rfl) ?_
  refine lv_iload_n C.1 C.2.1 dJ6_bitCount_0f7a4_25 rfl (lv_at hl 0 rfl) ?_
  refine lv_iconst (v := 4) C.1 C.2.1 dJ6_bitCount_0f7a4_26 (by decide) ?_
  refine lv_iushr C.1 C.2.1 dJ6_bitCount_0f7a4_27 rfl ?_
  refine lv_iadd C.1 C.2.1 dJ6_bitCount_0f7a4_28 ?_
  refine lv_ldcw (v := 252645135) C.1 C.2.1 C.2.2.2.2.1 (C.2.2.2.2.2.1 _ (bg_of 273 (by decide +kernel) rfl)) dJ6_bitCount_0f7a4_29 ?_
  refine lv_iand C.1 C.2.1 dJ6_bitCount_0f7a4_32 ?_
  refine lv_topi (fun x3 e3 => ?_)
  have hw := hw x3 e3
  refine lv_istore_n (lv' := [(0, .int x3)]) C.1 C.2.1 dJ6_bitCount_0f7a4_33 rfl hl (by decide) rfl (fun ls hl => ?_)
  refine lv_iload_n C.1 C.2.1 dJ6_bitCount_0f7a4_34 rfl (lv_at hl 0 rfl) ?_
  refine lv_iload_n C.1 C.2.1 dJ6_bitCount_0f7a4_35 rfl (lv_at hl 0 rfl) ?_
  refine lv_bipush (v := 8) C.1 C.2.1 dJ6_bitCount_0f7a4_36 (by decide) ?_
  refine lv_iushr C.1 C.2.1 dJ6_bitCount_0f7a4_38 rfl ?_
  refine lv_iadd C.1 C.2.1 dJ6_bitCount_0f7a4_39 ?_
  refine lv_topi (fun x4 e4 => ?_)
  have hw := hw x4 e4
  refine lv_istore_n (lv' := [(0, .int x4)]) C.1 C.2.1 dJ6_bitCount_0f7a4_40 rfl hl (by decide) rfl (fun ls hl => ?_)
  refine lv_iload_n C.1 C.2.1 dJ6_bitCount_0f7a4_41 rfl (lv_at hl 0 rfl) ?_
  refine lv_iload_n C.1 C.2.1 dJ6_bitCount_0f7a4_42 rfl (lv_at hl 0 rfl) ?_
  refine lv_bipush (v := 16) C.1 C.2.1 dJ6_bitCount_0f7a4_43 (by decide) ?_
  refine lv_iushr C.1 C.2.1 dJ6_bitCount_0f7a4_45 rfl ?_
  refine lv_iadd C.1 C.2.1 dJ6_bitCount_0f7a4_46 ?_
  refine lv_topi (fun x5 e5 => ?_)
  have hw := hw x5 e5
  refine lv_istore_n (lv' := [(0, .int x5)]) C.1 C.2.1 dJ6_bitCount_0f7a4_47 rfl hl (by decide) rfl (fun ls hl => ?_)
  refine lv_iload_n C.1 C.2.1 dJ6_bitCount_0f7a4_48 rfl (lv_at hl 0 rfl) ?_
  refine lv_bipush (v := 63) C.1 C.2.1 dJ6_bitCount_0f7a4_49 (by decide) ?_
  refine lv_iand C.1 C.2.1 dJ6_bitCount_0f7a4_51 ?_
  exact kretI C hS hw dJ6_bitCount_0f7a4_52
set_option maxRecDepth 100000 in
set_option maxHeartbeats 4000000 in
theorem cq_X10_stepped (l : Launch) (g : Geo) (sz : Nat) (a0 : Int32) (a1 : Int32) (M : Mem) (Q : Int32 → Mem → Prop) (hw : p_X10_stepped a0 a1 M Q) : Met l yX10_stepped (Cond.code yX10_stepped cX10_stepped 3 (some .int) :: bg) ({ frames := 1, cells := 0, slots := 0, locals := 20 } : Room) (va_Pc [.int a0, .int a1] (PS g sz [])) (va_Qi Q (PB g (fun _ => [])) (fun _ => False)) 0 0 (fun _ => False) := by
  refine Met.ofW (cc := cX10_stepped) (maxL := 3) (ret := (some .int)) (by decide +kernel) rfl ?_
  intro p e s m args below meth c s₁ B hml hv
  obtain ⟨rfl, hv⟩ := hv
  have C := CK.start (own := RX10) B hml rfl hv
  have hP : va_P g.1 clz [] s.heap := hv.2.1
  have hS : va_S (fun _ => False) s.heap s.heap [] := va_S.rf
  have hl := lv_entry ([.int a0, .int a1]) (n := 3) (Nat.le_of_ble_eq_true rfl)
  rw [lg_entry_eq]
  generalize (lg_sl ([.int a0, .int a1]) ++ List.replicate (3 - (lg_sl ([.int a0, .int a1])).length) Slot.unset).toArray = ls at hl ⊢
  have hl : lv_has ls 3 [(0, .int a0), (1, .int a1)] := hl
  unfold p_X10_stepped at hw
  refine lv_iload_n C.1 C.2.1 dX10_stepped_0 rfl (lv_at hl 0 rfl) ?_
  refine lv_iload_n C.1 C.2.1 dX10_stepped_1 rfl (lv_at hl 1 rfl) ?_
  refine lv_iand C.1 C.2.1 dX10_stepped_2 ?_
  refine kgoI (krunS (As := [.int (a0 &&& a1)]) (rest := []) C lkX10_148 (cq_J6_bitCount_0f7a4 l g _ ((a0 &&& a1))  M _ hw) hS rfl rfl ⟨Nat.le_of_ble_eq_true rfl, Nat.le_of_ble_eq_true rfl⟩ hl.1 rfl (Nat.le_of_ble_eq_true rfl) dX10_stepped_3) hS (fun r1 M1 hw H locs hS => ?_)
  refine lv_iconst (v := 1) C.1 C.2.1 dX10_stepped_6 (by decide) ?_
  refine lv_iand C.1 C.2.1 dX10_stepped_7 ?_
  refine lv_topi (fun x2 e2 => ?_)
  have hw := hw x2 e2
  refine lv_istore_n (lv' := [(2, .int x2), (0, .int a0), (1, .int a1)]) C.1 C.2.1 dX10_stepped_8 rfl hl (by decide) rfl (fun ls hl => ?_)
  refine lv_iload_n C.1 C.2.1 dX10_stepped_9 rfl (lv_at hl 1 rfl) ?_
  refine lv_iconst (v := 1) C.1 C.2.1 dX10_stepped_10 (by decide) ?_
  refine lv_iushr C.1 C.2.1 dX10_stepped_11 rfl ?_
  refine lv_iload_n C.1 C.2.1 dX10_stepped_12 rfl (lv_at hl 0 rfl) ?_
  refine lv_iconst (v := 4) C.1 C.2.1 dX10_stepped_13 (by decide) ?_
  refine lv_ishl C.1 C.2.1 dX10_stepped_14 ?_
  refine lv_ior C.1 C.2.1 dX10_stepped_15 ?_
  exact kretI C hS hw dX10_stepped_16
set_option maxRecDepth 100000 in
set_option maxHeartbeats 4000000 in
theorem kq_X10_goesOut_7 {p : Program} {l : Launch} {e : Env} {s : State} {m : MethodId} {args : Array Value} {below : List Frame} {meth : Method} {c : Code} {g : Geo} (C : CK g p s m args meth c cX10_goesOut 4 (some .int) RX10) {Q : Int32 → Mem → Prop} : ∀ (n : Nat) (v0 : Int32) (v1 : Int32) (v2 : Int32) (v3 : Int32) (M : Mem) (hw : b_X10_goesOut_7 Q n v0 v1 v2 v3 M) {H : Heap} {locs : List Loc} {ls : Array Slot} (hl : lv_has ls 4 [(0, .int v0), (1, .int v1), (2, .int v2), (3, .int v3)]) (hP : va_P g.1 clz [] H) (hS : va_S (fun _ => False) s.heap H locs), W p l e ({ frames := 2, cells := 0, slots := 0, locals := 42 } : Room) s m args below meth c H locs 0 0 (MQ below (va_Qi Q (PB g (fun _ => [])) (fun _ => False)) args s 0 0 (fun _ => False)) (F0 m 7 ls []) := by
  intro n
  induction n with
  | zero => intro v0 v1 v2 v3 M hw H locs ls hl hP hS; exact absurd hw (by rw [b_X10_goesOut_7]; exact fun h => h)
  | succ n ih =>
    intro v0 v1 v2 v3 M hw H locs ls hl hP hS
    rw [b_X10_goesOut_7] at hw
    refine lv_iload_n C.1 C.2.1 dX10_goesOut_7 rfl (lv_at hl 3 rfl) ?_
    refine lv_bipush (v := 31) C.1 C.2.1 dX10_goesOut_8 (by decide) ?_
    refine lv_icmp_ge (tgt := 33) C.1 C.2.1 dX10_goesOut_10 (by decide) (fun h1 => ?_) (fun h1 => ?_)
    · have hw := hw.1 h1
      refine lv_iload_n C.1 C.2.1 dX10_goesOut_33 rfl (lv_at hl 2 rfl) ?_
      exact kretI C hS hw dX10_goesOut_34
    · have hw := hw.2 h1
      refine lv_iload_n C.1 C.2.1 dX10_goesOut_13 rfl (lv_at hl 2 rfl) ?_
      refine lv_iload_n C.1 C.2.1 dX10_goesOut_14 rfl (lv_at hl 1 rfl) ?_
      refine lv_iconst (v := 1) C.1 C.2.1 dX10_goesOut_15 (by decide) ?_
      refine lv_iand C.1 C.2.1 dX10_goesOut_16 ?_
      refine lv_iload_n C.1 C.2.1 dX10_goesOut_17 rfl (lv_at hl 3 rfl) ?_
      refine lv_ishl C.1 C.2.1 dX10_goesOut_18 ?_
      refine lv_ior C.1 C.2.1 dX10_goesOut_19 ?_
      refine lv_topi (fun x2 e2 => ?_)
      have hw := hw x2 e2
      refine lv_istore_n (lv' := [(2, .int x2), (0, .int v0), (1, .int v1), (3, .int v3)]) C.1 C.2.1 dX10_goesOut_20 rfl hl (by decide) rfl (fun ls hl => ?_)
      refine lv_iload_n C.1 C.2.1 dX10_goesOut_21 rfl (lv_at hl 2 rfl) ?_
      refine lv_iload_n C.1 C.2.1 dX10_goesOut_22 rfl (lv_at hl 1 rfl) ?_
      refine kgoI (krunS (As := [.int v1, .int v0]) (rest := []) C lkX10_144 (cq_X10_stepped l g _ v1 v0  M _ hw) hS rfl rfl ⟨Nat.le_of_ble_eq_true rfl, Nat.le_of_ble_eq_true rfl⟩ hl.1 rfl (Nat.le_of_ble_eq_true rfl) dX10_goesOut_23) hS (fun r3 M3 hw H locs hS => ?_)
      refine lv_istore_n (lv' := [(1, .int r3), (2, .int x2), (0, .int v0), (3, .int v3)]) C.1 C.2.1 dX10_goesOut_26 rfl hl (by decide) rfl (fun ls hl => ?_)
      obtain ⟨x4, e4⟩ : ∃ y : Int32, y = (v3 + 1) := ⟨_, rfl⟩
      have hw := hw x4 e4
      refine lv_iinc (v := x4) (lv' := [(3, .int x4), (1, .int r3), (2, .int x2), (0, .int v0)]) C.1 C.2.1 dX10_goesOut_27 hl (k := 3) rfl (by rw [e4]; rfl) (by decide) rfl (fun ls hl => ?_)
      refine lv_goto (tgt := 7) C.1 C.2.1 dX10_goesOut_30 (by decide) ?_
      exact ih v0 r3 x2 x4  _ hw (lv_sub hl [3, 1, 2, 0] rfl) (fun _ _ z => by cases z) hS
set_option maxRecDepth 100000 in
set_option maxHeartbeats 4000000 in
theorem cq_X10_goesOut (l : Launch) (g : Geo) (sz : Nat) (a0 : Int32) (M : Mem) (Q : Int32 → Mem → Prop) (hw : p_X10_goesOut a0 M Q) : Met l yX10_goesOut (Cond.code yX10_goesOut cX10_goesOut 4 (some .int) :: bg) ({ frames := 2, cells := 0, slots := 0, locals := 42 } : Room) (va_Pc [.int a0] (PS g sz [])) (va_Qi Q (PB g (fun _ => [])) (fun _ => False)) 0 0 (fun _ => False) := by
  refine Met.ofW (cc := cX10_goesOut) (maxL := 4) (ret := (some .int)) (by decide +kernel) rfl ?_
  intro p e s m args below meth c s₁ B hml hv
  obtain ⟨rfl, hv⟩ := hv
  have C := CK.start (own := RX10) B hml rfl hv
  have hP : va_P g.1 clz [] s.heap := hv.2.1
  have hS : va_S (fun _ => False) s.heap s.heap [] := va_S.rf
  have hl := lv_entry ([.int a0]) (n := 4) (Nat.le_of_ble_eq_true rfl)
  rw [lg_entry_eq]
  generalize (lg_sl ([.int a0]) ++ List.replicate (4 - (lg_sl ([.int a0])).length) Slot.unset).toArray = ls at hl ⊢
  have hl : lv_has ls 4 [(0, .int a0)] := hl
  unfold p_X10_goesOut at hw
  refine lv_bipush (v := 31) C.1 C.2.1 dX10_goesOut_0 (by decide) ?_
  refine lv_istore_n (lv' := [(1, .int 31), (0, .int a0)]) C.1 C.2.1 dX10_goesOut_2 rfl hl (by decide) rfl (fun ls hl => ?_)
  refine lv_iconst (v := 0) C.1 C.2.1 dX10_goesOut_3 (by decide) ?_
  refine lv_istore_n (lv' := [(2, .int 0), (1, .int 31), (0, .int a0)]) C.1 C.2.1 dX10_goesOut_4 rfl hl (by decide) rfl (fun ls hl => ?_)
  refine lv_iconst (v := 0) C.1 C.2.1 dX10_goesOut_5 (by decide) ?_
  refine lv_istore_n (lv' := [(3, .int 0), (2, .int 0), (1, .int 31), (0, .int a0)]) C.1 C.2.1 dX10_goesOut_6 rfl hl (by decide) rfl (fun ls hl => ?_)
  obtain ⟨n9, hw⟩ := hw
  exact kq_X10_goesOut_7 (Q := Q) C n9 a0 31 0 0  _ hw (lv_sub hl [3, 2, 1, 0] rfl) (fun _ _ z => by cases z) hS
def M0 : Mem := (fun _ _ _ => 0, fun _ _ _ => 0, fun _ _ _ => none)
def go5 : Int32 := nI (goN 5 31)
def go29 : Int32 := nI (goN 29 31)
theorem k_go {m : Nat} (hm : m < 32) {M : Mem} : p_X10_goesOut (nI m) M (fun r _ => r = nI (goN m 31)) := by
  have lp : ∀ d i, i + d = 31 → b_X10_goesOut_7 (fun r _ => r = nI (goN m 31)) (d + 1) (nI m) (nI (regN m i)) (nI (goN m i)) (nI i) M := by
    intro d
    induction d with
    | zero =>
      intro i hi
      have : i = 31 := by omega
      subst this
      exact ⟨fun _ => rfl, fun z => absurd (by decide) z⟩
    | succ d ih =>
      intro i hi
      have hr := regN_b hm i
      have hg := goN_b m i
      have hp : 2 ^ i ≤ 2 ^ 30 := Nat.pow_le_pow_right (by decide) (by omega)
      refine ⟨fun z => absurd z (nI_ge (a := i) (b := 31) (by omega) (by decide)), fun _ => ?_⟩
      have e1 : (nI (regN m i) &&& 1) = nI (regN m i % 2) := pk_andN (n := regN m i) (by omega) (m := 1) 1 (by decide)
      have e2 : regN m i % 2 * 2 ^ i < 2 ^ 31 := by
        rcases Nat.mod_two_eq_zero_or_one (regN m i) with e | e <;> rw [e] <;> omega
      rintro x2 rfl
      refine t10_step hr hm ?_
      rintro x4 rfl
      rw [e1, pk_shlN _ i (sh_l i (by omega)) (by omega), fa_or, Nat.or_comm, ← fa_or, Nat.mul_comm, fa_or_sum _ hg, nI_1]
      exact ih (i + 1) (by omega)
  exact ⟨32, lp 31 0 rfl⟩
theorem k_go5 : p_X10_goesOut 5 M0 (fun r _ => r = go5) := k_go (m := 5) (by decide)
theorem k_go29 : p_X10_goesOut 29 M0 (fun r _ => r = go29) := k_go (m := 29) (by decide)
