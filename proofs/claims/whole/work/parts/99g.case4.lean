section LAWROWS4
variable {p : Program} {l : Launch} {e : Env} {R : Room} {s : State} {m : MethodId} {args : Array Value} {below : List Frame} {meth : Method} {c : Code} {H : Heap} {locs : List Loc} {cells slots : Nat} {Q : State → Prop} {g : Geo} {pc : Nat} {ls : Array Slot} {rest : List Value} {wf : Mem → va_W}
theorem goLawv {a : Array Value} {st0 : List Value} {post : Int32 → Mem → Prop} {o sd : Nat} {v : Int64} {wo : va_W} (hr : va_Run p l e R s m args below meth c H locs cells slots 0 0 (F0 m pc ls st0) rest (va_Qi post (PB g wf) (Af sd g) a) (Af sd g)) (hAd : ∀ i, i < NN → s.heap.size ≤ g.2.1 i) (hS : va_S (fun q => s.heap.size ≤ q) s.heap H locs) (hO : OUTv g o v H) (hoA : ¬ AX g o) (hPo : va_P g.1 clz wo H) (hdo : ∀ (k : Nat) (q : Nat × va_E), wo[k]? = some q → ¬ Af sd g q.1)
    (kk : ∀ (r : Int32) (M : Mem), post r M → ∀ (H1 : Heap) (locs1 : List Loc), va_P g.1 clz (wf M) H1 → va_S (fun q => s.heap.size ≤ q) s.heap H1 locs1 → OUTv g o v H1 → va_P g.1 clz wo H1 → W p l e R s m args below meth c H1 locs1 cells slots Q (F0 m (pc + 3) ls (.int r :: rest))) : W p l e R s m args below meth c H locs cells slots Q (F0 m pc ls st0) := by
  have hA : ∀ q, Af sd g q → s.heap.size ≤ q := fun q h => by obtain ⟨i, h1, _, h2⟩ := h; rw [h2]; exact hAd i h1
  refine va_calli hr hS (fun q _ h => hA q h) (fun q h => hA q h) (fun r u t H1 locs1 ht _ hw hB _ hk1 hS => ?_)
  exact kk r u hw H1 locs1 (by rw [← ht]; exact hB) hS (hO.kept (fun ho => hk1 o ho (fun z => hoA (Af_AX z)))) (hPo.kept (fun k q hq => hk1 q.1 ((hPo k q hq).lt) (hdo k q hq)))
end LAWROWS4
set_option maxRecDepth 100000 in
set_option maxHeartbeats 4000000 in
theorem lw_case_4 {p : Program} {l : Launch} {e : Env} {s : State} {m : MethodId} {below : List Frame} {meth : Method} {c : Code} {g : Geo} {b L o : Nat} {xs : Nat → Int32} (hL : L ≤ 3072) (C : CX g p s m #[Value.ref b] meth c cL_law 7 ret RL) (hX : va_X b L xs s s.heap) (hbl : b < s.heap.size) (hAd : ∀ i, i < NN → s.heap.size ≤ g.2.1 i) (hoA : ¬ AX g o) (hoS : s.heap.size ≤ o) (hl0 : l.stackTraces = false) {sa1 sa2 : Nat} (hT : TH g o sa1 sa2 s) (X Y : Mem) (hR : Rel X Y) {x4 : Int32} {i : Nat} (ex4 : x4 = nI i) (hi6 : i + 6 ≤ L) {cells slots : Nat} (hcs : cells + 1 ≤ room_1.cells ∧ slots + 20 ≤ room_1.slots) {H : Heap} {locs : List Loc} {ls : Array Slot} (hP : va_P g.1 clz (xw g X) H) (hPy : va_P g.1 clz (yw g Y) H) (hO : OUT g o H) (hS : va_S (fun q => s.heap.size ≤ q) s.heap H locs) (hl : lv_has ls 7 [(4, .int x4), (0, .ref b), (1, .ref (g.2.1 (0 + 0))), (2, .ref (g.2.1 (138 + 0))), (3, .ref o)]) (kk : ∀ (X1 Y1 : Mem) (H : Heap) (locs : List Loc) (ls : Array Slot) (cells1 slots1 : Nat), Rel X1 Y1 → cells1 ≤ cells + 1 → slots1 ≤ slots + 20 → va_P g.1 clz (xw g X1) H → va_P g.1 clz (yw g Y1) H → OUT g o H → va_S (fun q => s.heap.size ≤ q) s.heap H locs → lv_has ls 7 [(4, .int x4), (0, .ref b), (1, .ref (g.2.1 (0 + 0))), (2, .ref (g.2.1 (138 + 0))), (3, .ref o)] → W p l e room_1 s m #[Value.ref b] below meth c H locs cells1 slots1 (lw_Z below #[Value.ref b] s) (F0 m 1701 ls [])) : W p l e room_1 s m #[Value.ref b] below meth c H locs cells slots (lw_Z below #[Value.ref b] s) (F0 m 372 ls []) := by
  have hbA : ¬ (fun q : Nat => s.heap.size ≤ q) b := Nat.not_le.mpr hbl
  have hs6 : slots + 6 ≤ room_1.slots := by have := hcs.2; omega
  have hs60 : slots + 6 + 0 ≤ room_1.slots := hs6
  have hc1 : cells + 1 + 0 ≤ room_1.cells := hcs.1
  have gi := C.2.2.2.2.2.2.2.2.2.2
  refine lv_aload_n C.1 C.2.1 dL_law_372 rfl (lv_at hl 2 rfl) ?_
  refine lv_aload_n C.1 C.2.1 dL_law_373 rfl (lv_at hl 1 rfl) ?_
  refine lv_iload C.1 C.2.1 dL_law_374 (lv_at hl 0 rfl) ?_
  refine lv_iconst (v := 1) C.1 C.2.1 dL_law_376 (by decide) ?_
  refine lv_iadd C.1 C.2.1 dL_law_377 ?_
  refine va_sld C.1 C.2.1 hX hbl hbA hS (lw_ix 1 ex4 hi6 (by decide) hL) dL_law_378 ?_
  refine lv_aload_n C.1 C.2.1 dL_law_379 rfl (lv_at hl 1 rfl) ?_
  refine lv_iload C.1 C.2.1 dL_law_380 (lv_at hl 0 rfl) ?_
  refine lv_iconst (v := 2) C.1 C.2.1 dL_law_382 (by decide) ?_
  refine lv_iadd C.1 C.2.1 dL_law_383 ?_
  refine va_sld C.1 C.2.1 hX hbl hbA hS (lw_ix 2 ex4 hi6 (by decide) hL) dL_law_384 ?_
  generalize hz1 : xs ((x4 + 1 : Int32)).toNatClampNeg = A1
  generalize hz2 : xs ((x4 + 2 : Int32)).toNatClampNeg = A2
  refine lv_aload_n C.1 C.2.1 dL_law_385 rfl (lv_at hl 4 rfl) ?_
  have hw := op_4 X Y A1 A2 hR
  have hAo : ∀ q, Afo g o q → s.heap.size ≤ q := fun q h => by
    rcases h with h | h
    · obtain ⟨i, h1, _, h2⟩ := h; rw [h2]; exact hAd i h1
    · rw [h]; exact hoS
  refine va_calli (vx_runSW (As := [.ref (g.2.1 (0 + 0)), .int A1, .int A2, .ref o]) (rest := []) ⟨C.1, C.2.1, C.2.2.1, C.2.2.2.2.1, C.2.2.2.2.2.1⟩ (c_L_bird l hl0 g gi o sa1 sa2 hoA A1 A2 X _ _ hw) (vx_cwSW 4 C.2.2.2.2.2.1 lkL_39 rfl rfl rfl ⟨by decide +kernel, by decide +kernel, by decide +kernel⟩ ⟨Nat.le_of_ble_eq_true rfl, Nat.le_of_ble_eq_true rfl⟩) ⟨PL.blind g o sa1 sa2 X _, fun U hU hW => ⟨rfl, PW.start (sd := 0) C hP (SX hS hAd) hU hW, hT.next hS (fun q h1 h2 => absurd h1 (Nat.not_lt.mpr h2)) hU hW, by rw [hU]; exact hO⟩⟩ rfl rfl hl.1 rfl (lv_room (Nat.le_of_ble_eq_true rfl)) dL_law_386 ⟨hcs.1, hs6⟩) hS (fun q _ h => hAo q h) (fun q h => hAo q h) (fun k u t H1 locs1 ht _ hQ hB hz hk hS => ?_)
  obtain ⟨v, X1⟩ := u
  obtain ⟨hP1, hO1⟩ := hB
  have hP1 : va_P g.1 clz (xw g X1) H1 := by rw [← ht]; exact hP1
  have hO1 : OUTv g o v H1 := by rw [← ht]; exact hO1
  have hPy1 : va_P g.1 clz (yw g Y) H1 := hPy.kept (fun k q hq => hk q.1 ((hPy k q hq).lt) (fun z => z.elim (yx_apart gi Y k q hq) (fun e => hoA (by rw [← e]; exact Af_AX ((yw_D gi Y).2 k q hq)))))
  obtain ⟨post, hw, hpost⟩ : ∃ post : Int32 → Mem → Prop, p_X11_bird A1 A2 Y post ∧ ∀ r1 Y1, post r1 Y1 → (k = 0 → v = r1.toInt64) ∧ Y1.1 40 0 2 = k ∧ Rel X1 Y1 := by
    rcases hQ with ⟨k0, r, hr, hq⟩ | ⟨k0, hq⟩
    · exact ⟨_, hq, fun r1 Y1 h => ⟨fun _ => by rw [← h.1]; exact hr, by rw [k0]; exact h.2.1, h.2.2⟩⟩
    · exact ⟨_, hq, fun r1 Y1 h => ⟨fun z => absurd z k0, h.1, h.2⟩⟩
  clear hQ
  refine lv_istore (lv' := [(5, .int k), (4, .int x4), (0, .ref b), (1, .ref (g.2.1 (0 + 0))), (2, .ref (g.2.1 (138 + 0))), (3, .ref o)]) C.1 C.2.1 dL_law_389 hl (by decide) rfl (fun ls hl => ?_)
  refine lv_aload_n C.1 C.2.1 dL_law_391 rfl (lv_at hl 4 rfl) ?_
  refine lv_aload_n C.1 C.2.1 dL_law_392 rfl (lv_at hl 2 rfl) ?_
  refine lv_iload C.1 C.2.1 dL_law_393 (lv_at hl 1 rfl) ?_
  refine lv_iconst (v := 1) C.1 C.2.1 dL_law_395 (by decide) ?_
  refine lv_iadd C.1 C.2.1 dL_law_396 ?_
  refine va_sld C.1 C.2.1 hX hbl hbA hS (lw_ix 1 ex4 hi6 (by decide) hL) dL_law_397 ?_
  refine lv_aload_n C.1 C.2.1 dL_law_398 rfl (lv_at hl 2 rfl) ?_
  refine lv_iload C.1 C.2.1 dL_law_399 (lv_at hl 1 rfl) ?_
  refine lv_iconst (v := 2) C.1 C.2.1 dL_law_401 (by decide) ?_
  refine lv_iadd C.1 C.2.1 dL_law_402 ?_
  refine va_sld C.1 C.2.1 hX hbl hbA hS (lw_ix 2 ex4 hi6 (by decide) hL) dL_law_403 ?_
  rw [hz1, hz2]
  refine goLawv (wf := yw g) (runVg (w := yw g Y) (As := [.int A1, .int A2]) (rest := []) C lkL_44 (c_X11_bird l g gi A1 A2 Y _ hw) hPy1 (SX hS hAd) rfl rfl ⟨Nat.le_of_ble_eq_true rfl, Nat.le_of_ble_eq_true rfl⟩ (xx_40 Nat.zero_lt_one) rfl rfl hl.1 rfl (Nat.le_of_ble_eq_true rfl) dL_law_404 ⟨hc1, hs60⟩) hAd hS hO1 hoA hP1 (xy_apart gi X1) (fun r1 Y1 hw H locs hPy hS hO hP => ?_)
  obtain ⟨hv, hth, hR1⟩ := hpost r1 Y1 hw
  refine lv_istore (lv' := [(6, .int r1), (5, .int k), (4, .int x4), (0, .ref b), (1, .ref (g.2.1 (0 + 0))), (2, .ref (g.2.1 (138 + 0))), (3, .ref o)]) C.1 C.2.1 dL_law_407 hl (by decide) rfl (fun ls hl => ?_)
  refine lv_aload_n C.1 C.2.1 dL_law_409 rfl (lv_at hl 5 rfl) ?_
  have hw : p_X11_thrown Y1 (fun r2 Y2 => r2 = k ∧ Y2 = Y1) := ⟨hth, rfl⟩
  refine goLawv (wf := yw g) (runVg (w := yw g Y1) (As := []) (rest := []) C lkL_45 (c_X11_thrown l g gi Y1 _ hw) hPy (SX hS hAd) rfl rfl ⟨Nat.le_of_ble_eq_true rfl, Nat.le_of_ble_eq_true rfl⟩ (xx_40 Nat.zero_lt_one) rfl rfl hl.1 rfl (Nat.le_of_ble_eq_true rfl) dL_law_410 ⟨hc1, hs60⟩) hAd hS hO hoA hP (xy_apart gi X1) (fun r2 Y2 hw H locs hPy hS hO hP => ?_)
  obtain ⟨e2, e3⟩ := hw
  rw [e3] at hPy
  refine lv_iload C.1 C.2.1 dL_law_413 (lv_at hl 1 rfl) ?_
  refine lv_icmp_eq (tgt := 420) C.1 C.2.1 dL_law_415 (by decide) (fun _ => ?_) (fun hn => absurd e2 hn)
  refine lv_iload C.1 C.2.1 dL_law_420 (lv_at hl 1 rfl) ?_
  have kk1 := fun (ls : Array Slot) hl => kk X1 Y1 H locs ls (cells + 1) (slots + 6) hR1 (Nat.le_refl _) (Nat.add_le_add_left (by decide : 6 ≤ 20) _) hP hPy hO.out hS hl
  have hl5 : lv_has ls 7 [(4, .int x4), (0, .ref b), (1, .ref (g.2.1 (0 + 0))), (2, .ref (g.2.1 (138 + 0))), (3, .ref o)] := lv_sub hl [2, 3, 4, 5, 6] rfl
  refine lv_if_ne (tgt := 437) C.1 C.2.1 dL_law_422 (by decide) (fun _ => ?_) (fun hk0 => ?_)
  · refine lv_goto (tgt := 1701) C.1 C.2.1 dL_law_437 (by decide) ?_
    exact kk1 ls hl5
  · obtain ⟨f, hf, hf0⟩ := hO
    refine lv_aload_n C.1 C.2.1 dL_law_425 rfl (lv_at hl 6 rfl) ?_
    refine lv_iconst (v := 0) C.1 C.2.1 dL_law_426 (by decide) ?_
    refine va_lald (D := g.1) C.1 C.2.1 C.2.2.2.2.2.2.2.1 hf 0 1 rfl rfl (vp_in_nI (n := 0) (N := 1) (by decide) (by decide)) dL_law_427 ?_
    refine lv_iload C.1 C.2.1 dL_law_428 (lv_at hl 0 rfl) ?_
    refine lv_i2l (v := r1.toInt64) C.1 C.2.1 dL_law_430 rfl ?_
    refine W.lcmp C.1 C.2.1 dL_law_431 ?_
    have hlc : lg_cmp (f (0 : Int32).toNatClampNeg) r1.toInt64 = 0 := by
      have h0 : f (0 : Int32).toNatClampNeg = r1.toInt64 := hf0.trans (hv hk0)
      rw [h0]; simp [lg_cmp]
    refine lv_if_eq (tgt := 437) C.1 C.2.1 dL_law_432 (by decide) (fun _ => ?_) (fun hn => absurd hlc hn)
    refine lv_goto (tgt := 1701) C.1 C.2.1 dL_law_437 (by decide) ?_
    exact kk1 ls hl5
