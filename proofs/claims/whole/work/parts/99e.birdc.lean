def TG (g : Geo) (sa1 sa2 : Nat) (U : State) : Prop := TF g sa1 sa2 U ∧ ∀ w ∈ ngW, w.before #[] U = true
theorem ng_o : ∀ w ∈ ngW, vx_ot w = true := by decide +kernel
abbrev xB (g : Geo) (E : Int32 → Mem → Prop) : String → State → State → Prop := vx_X (fun u : Int32 × Mem => E u.1 u.2) (fun N u t => ((N = IOB ∧ u.1 = 1) ∨ (N = NSE ∧ u.1 = 2)) ∧ va_P g.1 clz (xw g u.2) t.heap) (Af 0 g)
theorem xB_of {g : Geo} {E : Int32 → Mem → Prop} {N : String} {k : Int32} {M1 : Mem} {s t : State} {H : Heap} {locs : List Loc} (hE : E k M1) (hN : (N = IOB ∧ k = 1) ∨ (N = NSE ∧ k = 2)) (hP : va_P g.1 clz (xw g M1) H) (hS : va_S (Af 0 g) s.heap H locs) (hz : H.size ≤ t.heap.size) (hq : ∀ q : Nat, q < H.size → t.heap[q]? = H[q]?) : xB g E N s t :=
  ⟨(k, M1), hE, ⟨hN, va_P.kept hP (fun k q hk => hq q.1 (vx_lt hP hk))⟩, Nat.le_trans hS.1 hz, fun q h1 h2 => (hq q (Nat.lt_of_lt_of_le h1 hS.1)).trans (hS.2.1 q h1 h2)⟩
set_option maxHeartbeats 2000000 in
theorem c_X10_bird (l : Launch) (hl0 : l.stackTraces = false) (g : Geo) (gi : GI g) (sa1 sa2 : Nat) (a1 a2 : Int32) (M : Mem) (Q E : Int32 → Mem → Prop) (hw : p_X10_bird a1 a2 M Q E) : vx_Met l yX10_bird (Cond.code yX10_bird cX10_bird 3 (some .int) :: bg) ({ frames := 6, cells := 1, slots := 6, locals := 90 } : Room) (va_Pc [.ref (g.2.1 (0 + 0)), .int a1, .int a2] (fun U => PW g (xw g M) U ∧ TG g sa1 sa2 U)) (va_Qi Q (PB g (xw g)) (Af 0 g)) (xB g E) 1 6 (Af 0 g) := by
  refine vx_ofW (cc := cX10_bird) (maxL := 3) (ret := (some .int)) (by decide +kernel) rfl ?_
  intro p e s m args below meth c s₁ B hml hno hv
  obtain ⟨rfl, hv, hT, hng⟩ := hv
  have C := CX.start (own := RX10) B hml rfl gi hv
  have hP := hv.1
  have hS : va_S (Af 0 g) s.heap s.heap [] := va_S.rf
  have hl := lv_entry ([.ref (g.2.1 (0 + 0)), .int a1, .int a2]) (n := 3) (Nat.le_of_ble_eq_true rfl)
  rw [lg_entry_eq]
  generalize (lg_sl ([.ref (g.2.1 (0 + 0)), .int a1, .int a2]) ++ List.replicate (3 - (lg_sl ([.ref (g.2.1 (0 + 0)), .int a1, .int a2])).length) Slot.unset).toArray = ls at hl ⊢
  have hl : lv_has ls 3 [(0, .ref (g.2.1 (0 + 0))), (1, .int a1), (2, .int a2)] := hl
  have hU : vx_Zq Bundle.tN "UNASSIGNED_STACK" Bundle.steD (Af 0 g) s s.heap := hT.1.narrow (fun _ h => Af_AX h)
  have hN : vx_Zq Bundle.tN "SUPPRESSED_SENTINEL" Bundle.listD (Af 0 g) s s.heap := hT.2.1.narrow (fun _ h => Af_AX h)
  have hB : ∀ w ∈ ngW, w.before ([.ref (g.2.1 (0 + 0)), .int a1, .int a2] : List Value).toArray s = true := fun w h => vx_ot_at (State.WarmedH.refl s) rfl (ng_o w h) (hng w h)
  unfold p_X10_bird at hw
  refine lv_aload_n C.1 C.2.1 dX10_bird_0 rfl (lv_at hl 0 rfl) ?_
  refine lv_iload_n C.1 C.2.1 dX10_bird_1 rfl (lv_at hl 1 rfl) ?_
  refine goI (wf := (xw g)) (runV (w := xw g M) (As := [.int a1]) (rest := []) C lkX10_111 (c_X10_isBird l g C.2.2.2.2.2.2.2.2.2.2 a1  M _ hw) hP hS rfl rfl ⟨Nat.le_of_ble_eq_true rfl, Nat.le_of_ble_eq_true rfl⟩ (xx_0 Nat.zero_lt_one) rfl rfl hl.1 rfl (Nat.le_of_ble_eq_true rfl) dX10_bird_2) hS (fun r1 M1 hw H locs hP hS => ?_)
  obtain ⟨hw, hn1⟩ := hw
  refine lv_if_ne (tgt := 18) C.1 C.2.1 dX10_bird_5 (by decide) (fun h1 => ?_) (fun h1 => ?_)
  · have hw := hw.1 h1
    have th2 : E 2 M1 → W p l e (headSpec (Cond.code yX10_bird cX10_bird 3 (some .int) :: bg) ({ frames := 6, cells := 1, slots := 6, locals := 90 } : Room)).room s m ([.ref (g.2.1 (0 + 0)), .int a1, .int a2] : List Value).toArray below meth c H locs 0 0 (vx_MQ below (va_Qi Q (PB g (xw g)) (Af 0 g)) (xB g E) ([.ref (g.2.1 (0 + 0)), .int a1, .int a2] : List Value).toArray s 1 6 (Af 0 g)) (F0 m 28 ls []) := fun hE =>
      vz_throwSX (A := Af 0 g) (own := RX10) (cls := "java/util/NoSuchElementException") (text := "no such what") (names := ["java/lang/RuntimeException", "java/lang/Exception"]) (ik := 122) (is := 124) (ic := 126) (ix := 13) (sa := sa2) (rx := nseC) C.1 C.2.1 hl0 (by decide +kernel) (by decide +kernel) (by decide +kernel) (by decide +kernel) C.2.2.2.2.1 (by decide +kernel) (by decide +kernel) (C.2.2.2.2.2.1 _ (bx_k0 _ (by simp))) (C.2.2.2.2.2.1 _ (bx_k0 _ (by simp))) hT.2.2.2 (vx_hat (fun w h => C.2.2.2.2.2.1 w (bx_x1 w h)) bx_n1 hB) bx_o1 hU hN hS (hl.1.trans hml.symm) dX10_bird_28 dX10_bird_31 dX10_bird_32 dX10_bird_34 dX10_bird_37 (fun x hx => (hno x hx).elim) (by show 5 < 6; decide) (by show 0 + 82 ≤ 90; decide) (by show 0 + 1 ≤ 1; decide) (by show 0 + 6 ≤ 6; decide) C.2.2.2.2.2.2.1 (fun t _ hz hq => xB_of hE (Or.inr ⟨rfl, rfl⟩) hP hS hz hq) hS.2.2 (Nat.le_refl _) (Nat.le_refl _)
    refine lv_iload_n C.1 C.2.1 dX10_bird_18 rfl (lv_at hl 2 rfl) ?_
    refine lv_if_lt (tgt := 28) C.1 C.2.1 dX10_bird_19 (by decide) (fun h2 => th2 (hw.1 h2)) (fun h2 => ?_)
    have hw := hw.2 h2
    refine lv_iload_n C.1 C.2.1 dX10_bird_22 rfl (lv_at hl 2 rfl) ?_
    refine lv_bipush (v := 10) C.1 C.2.1 dX10_bird_23 (by decide) ?_
    refine lv_icmp_le (tgt := 38) C.1 C.2.1 dX10_bird_25 (by decide) (fun h3 => ?_) (fun h3 => th2 (hw.1 h3))
    obtain ⟨w2, h2, hb2, hin, hw⟩ := hw.2 h3
    refine lv_aload_n C.1 C.2.1 dX10_bird_38 rfl (lv_at hl 0 rfl) ?_
    refine gX10_23f C hP Nat.zero_lt_one h2 dX10_bird_39 ?_
    refine gX10_127 C hP hb2 dX10_bird_42 ?_
    refine lv_iload_n C.1 C.2.1 dX10_bird_45 rfl (lv_at hl 1 rfl) ?_
    refine al_24 C hP hb2 hin dX10_bird_46 ?_
    refine lv_iload_n C.1 C.2.1 dX10_bird_47 rfl (lv_at hl 2 rfl) ?_
    have hb10 : 5 * w2 + (a1 : Int32).toNatClampNeg < 10 := by have := vp_lt hin; omega
    refine goI (wf := (xw g)) (runV (w := xw g M1) (As := [.int a2]) (rest := []) C lkX10_131 (c_X0_told l g C.2.2.2.2.2.2.2.2.2.2 (5 * w2 + (a1 : Int32).toNatClampNeg) a2 hb10 M1 _ hw) hP hS rfl rfl ⟨Nat.le_of_ble_eq_true rfl, Nat.le_of_ble_eq_true rfl⟩ (xx_25 hb10) rfl rfl hl.1 rfl (Nat.le_of_ble_eq_true rfl) dX10_bird_48) hS (fun r2 M2 hw H locs hP hS => ?_)
    refine W.widen (k := 1) (n := 6) (by decide) (by decide) (vx_ret ?_)
    exact W.iret C.1 C.2.1 C.2.2.2.1 (fun _ ht _ => ⟨⟨r2, M2, rfl, hw, by show va_P g.1 clz (xw g M2) _; rw [ht]; exact hP⟩, hS.F ht⟩) hS.2.2 dX10_bird_51 C.2.2.2.2.2.2.1
  · have hE := hw.2 h1
    exact vx_throwS (A := Af 0 g) (own := RX10) (cls := "java/lang/IndexOutOfBoundsException") (text := "no such bird") (names := ["java/lang/RuntimeException", "java/lang/Exception"]) (ik := 115) (is := 117) (ic := 119) (sa := sa1) C.1 C.2.1 hl0 C.2.2.2.2.1 (by decide +kernel) (by decide +kernel) (C.2.2.2.2.2.1 _ (bx_k0 _ (by simp))) (C.2.2.2.2.2.1 _ (bx_k0 _ (by simp))) hT.2.2.1 (vx_hat (fun w h => C.2.2.2.2.2.1 w (bx_x0 w h)) bx_n0 hB) bx_o0 hU hN hS (hl.1.trans hml.symm) dX10_bird_8 dX10_bird_11 dX10_bird_12 dX10_bird_14 dX10_bird_17 (fun x hx => (hno x hx).elim) (by show 5 < 6; decide) (by show 0 + 82 ≤ 90; decide) (by show 0 + 1 ≤ 1; decide) (by show 0 + 6 ≤ 6; decide) C.2.2.2.2.2.2.1 (fun t _ hz hq => xB_of hE (Or.inl ⟨rfl, rfl⟩) hP hS hz hq) hS.2.2 (Nat.le_refl _) (Nat.le_refl _)
