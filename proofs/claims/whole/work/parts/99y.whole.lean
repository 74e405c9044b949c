set_option maxHeartbeats 8000000 in
set_option maxRecDepth 100000 in
/-- from the entry, for every script, the law comes to its end with true -/
theorem whole_start {p : Program} {e : Env} {s : State} {m : MethodId} {below : List Frame} {meth : Method} {c : Code} (l : Launch) (hflags : l.flags = flags0) {b L : Nat} {xs : Nat → Int32} (hL : L ≤ 3072) (C0 : lw_At p s m meth c b L xs) : W p l e room_1 s m #[Value.ref b] below meth c s.heap [] 0 0 (lw_Z below #[Value.ref b] s) (entryFrame m ([Value.ref b] : List Value).toArray 7) := by
  obtain ⟨hx, hb, hr, hml, hown, hts, hX, hbl, hlocks, hgv0⟩ := id C0
  have hgv : ∀ w ∈ fl1, w.before #[Value.ref b] s = true := flat_of_before _ hgv0
  have hl0 : l.stackTraces = false := by
    unfold Launch.stackTraces
    rw [hflags]
    decide
  obtain ⟨g, hK, hSB⟩ := en_g hts hgv
  have C : CK g p s m #[Value.ref b] meth c cL_law 7 ret RL := ⟨hx, hb, hml, hr, hown, fun w hw => hts w (List.mem_filter.mp hw).1, hlocks, hK, en_NS hts, en_AO hts⟩
  have hA : ∀ q : Nat, s.heap.size ≤ q → (fun q : Nat => s.heap.size ≤ q) q := fun _ h => h
  have hS : va_S (fun q : Nat => s.heap.size ≤ q) s.heap s.heap [] := va_S.rf
  have hP : va_P g.1 clz [] s.heap := kP_nil
  have hD : va_D (fun q : Nat => s.heap.size ≤ q) [] := kD_nil
  have hl := lv_entry ([.ref b]) (n := 7) (Nat.le_of_ble_eq_true rfl)
  rw [lg_entry_eq]
  generalize (lg_sl ([.ref b]) ++ List.replicate (7 - (lg_sl ([.ref b])).length) Slot.unset).toArray = ls at hl ⊢
  have hl : lv_has ls 7 [(0, .ref b)] := hl
  refine va_new (D := g.1) (ci := 10) (fs := zX10) (C := RX10) (T := TX10) (N := 14) C.1 C.2.1 C.2.2.2.2.2.1 inb_X10 tyX10 tyX10_ok C.2.2.2.2.1 (C.2.2.2.2.2.1 _ sL_X10.1) (C.2.2.2.2.2.1 _ sL_X10.2.1) (C.2.2.2.2.2.1 _ sL_X10.2.2) C.2.2.2.2.2.2.2.1 hP hD hS hA rfl zX10_ok (by decide) (by decide) dL_law_0 (fun qx H hP hD hS => ?_)
  have hP : va_P g.1 clz ([] ++ [(qx, .inr (10, zX10))]) H := hP
  have hD : va_D (fun q : Nat => s.heap.size ≤ q) ([] ++ [(qx, .inr (10, zX10))]) := hD
  refine lv_dup C.1 C.2.1 dL_law_3 rfl ?_
  refine kgoVp (krunIe C lkL_17 (c_X10_init l g _ qx) hP hD rfl rfl ⟨Nat.le_of_ble_eq_true rfl, Nat.le_of_ble_eq_true rfl⟩ hl.1 (Nat.le_of_ble_eq_true rfl) dL_law_4 ⟨by decide, by decide⟩) hP hD hS hA (fun uw hroots H locs hP hD hS => ?_)
  obtain ⟨u, fw⟩ := uw
  have hP : va_P g.1 clz (wX10 g qx u fw) H := hP
  have hD : va_D (fun q : Nat => s.heap.size ≤ q) (wX10 g qx u fw) := hD
  refine lv_astore_n (lv' := [(1, .ref qx), (0, .ref b)]) C.1 C.2.1 dL_law_7 rfl hl (by decide) rfl (fun ls hl => ?_)
  refine va_new (D := g.1) (ci := 11) (fs := zX11) (C := RX11) (T := TX11) (N := 45) C.1 C.2.1 C.2.2.2.2.2.1 inb_X11 tyX11 tyX11_ok C.2.2.2.2.1 (C.2.2.2.2.2.1 _ sL_X11.1) (C.2.2.2.2.2.1 _ sL_X11.2.1) (C.2.2.2.2.2.1 _ sL_X11.2.2) C.2.2.2.2.2.2.2.1 hP hD hS hA rfl zX11_ok (by decide) (by decide) dL_law_8 (fun qy H hP hD hS => ?_)
  refine lv_dup C.1 C.2.1 dL_law_11 rfl ?_
  have hin : ∀ k, k < 138 → ∃ e, (wX10 g qx u fw ++ [(qy, .inr (11, zX11))])[k]? = some (adr qx u k, e) := fun k hk => by
    rw [List.getElem?_append_left (by rw [wX_len]; exact hk)]
    exact adr_at hk
  have hyin : (wX10 g qx u fw ++ [(qy, .inr (11, zX11))])[138]? = some (qy, .inr (11, zX11)) := by
    rw [List.getElem?_append_right (by rw [wX_len]; exact Nat.le_refl _), wX_len]; rfl
  have XO : XOk qx u s.heap.size H.size qy := by
    refine ⟨fun k hk => ?_, fun i j hi hj hij => ?_, hD.2 138 _ hyin, hS.1⟩
    · obtain ⟨e1, h1⟩ := hin k hk
      refine ⟨hD.2 k _ h1, (hP k _ h1).lt, fun z => ?_⟩
      have := hD.1 k 138 _ _ h1 hyin z
      omega
    · obtain ⟨e1, h1⟩ := hin i hi
      obtain ⟨e2, h2⟩ := hin j hj
      exact hD.1 i j _ _ h1 h2 hij
  refine kgoVp (va_runI (As := []) (rest := [.ref qy]) ⟨C.1, C.2.1, C.2.2.1, C.2.2.2.2.1, C.2.2.2.2.2.1⟩ (c_X11_init l g H.size qy XO) (cwI 0 C.2.2.2.2.2.1 lkL_20.1 rfl rfl rfl (C.2.2.2.2.2.1 _ lkL_20.2.1) (C.2.2.2.2.2.1 _ lkL_20.2.2.1) (C.2.2.2.2.2.1 _ lkL_20.2.2.2.1) lkL_20.2.2.2.2.1 lkL_20.2.2.2.2.2 ⟨Nat.le_of_ble_eq_true rfl, Nat.le_of_ble_eq_true rfl⟩) ⟨fun a U f mk h => ⟨h.1, (PS.blind g _ _ _ a U f mk ⟨h.1, h.2.1⟩).2, SB.next (s := U) (U := U.calling f mk a) (B := fun _ => False) (locs := []) h.2.2 va_S.rf (fun _ _ z => z.elim) rfl (Vm.Alike.refl U.vm)⟩, fun U hU hW => ⟨rfl, ⟨by rw [hU], by rw [hU]; exact dk_P.mpr (fun q hq => dk_P.mp hP q (by simp [hq])), kD_one, va_K.moved hW.alike hK, NS.warm C.2.2.2.2.2.2.2.2.1 hW, AO.moved hW.alike C.2.2.2.2.2.2.2.2.2⟩, hSB.next hS (fun _ _ z => z) hU hW.alike⟩⟩ rfl rfl hl.1 rfl (lv_room (Nat.le_of_ble_eq_true rfl)) dL_law_12 ⟨by decide, by decide⟩) hP hD hS hA (fun vy hY H locs hP hD hS => ?_)
  obtain ⟨v, Y⟩ := vy
  have hP : va_P g.1 clz (wX10 g qx u fw ++ yw (mkG g qx u qy v) Y) H := hP
  have hD : va_D (fun q : Nat => s.heap.size ≤ q) (wX10 g qx u fw ++ yw (mkG g qx u qy v) Y) := hD
  refine lv_astore_n (lv' := [(2, .ref qy), (1, .ref qx), (0, .ref b)]) C.1 C.2.1 dL_law_15 rfl hl (by decide) rfl (fun ls hl => ?_)
  refine lv_iconst (v := 1) C.1 C.2.1 dL_law_16 (by decide) ?_
  refine kn_newa C 1 (a0 := (1, .inr (.inl (fun _ => 0)))) rfl rfl (bg_of 402 (by decide +kernel) rfl) hP hD hS hA (fun _ => rfl) (by decide) (by decide) (by decide) (by decide) (by decide) dL_law_17 (fun o H hP hD hS => ?_)
  refine lv_astore_n (lv' := [(3, .ref o), (2, .ref qy), (1, .ref qx), (0, .ref b)]) C.1 C.2.1 dL_law_19 rfl hl (by decide) rfl (fun ls hl => ?_)
  refine lv_iconst (v := 0) C.1 C.2.1 dL_law_20 (by decide) ?_
  refine lv_istore (lv' := [(4, .int 0), (3, .ref o), (2, .ref qy), (1, .ref qx), (0, .ref b)]) C.1 C.2.1 dL_law_21 hl (by decide) rfl (fun ls hl => ?_)
  have hlo : (wX10 g qx u fw ++ yw (mkG g qx u qy v) Y ++ [(o, .inl (g.2.2.1 1, 1, .inr (.inl (fun _ => 0))))])[157]? = some (o, .inl (g.2.2.1 1, 1, .inr (.inl (fun _ => 0)))) := by
    have hl2 : (wX10 g qx u fw ++ yw (mkG g qx u qy v) Y).length = 157 := by rw [List.length_append, wX_len]; simp [yw]
    rw [List.getElem?_append_right (by rw [hl2]; exact Nat.le_refl _), hl2]; rfl
  have gi : GI (mkG g qx u qy v) := fun i j hi hj hij => by
    obtain ⟨e1, h1⟩ := sgm_at (g := g) (hx := qx) (hy := qy) (u := u) (v := v) (fw := fw) (Y := Y) (x := [(o, .inl (g.2.2.1 1, 1, .inr (.inl (fun _ => 0))))]) hi
    obtain ⟨e2, h2⟩ := sgm_at (g := g) (hx := qx) (hy := qy) (u := u) (v := v) (fw := fw) (Y := Y) (x := [(o, .inl (g.2.2.1 1, 1, .inr (.inl (fun _ => 0))))]) hj
    exact sgm_inj hi hj (hD.1 _ _ _ _ h1 h2 hij)
  have hAd : ∀ i, i < NN → s.heap.size ≤ (mkG g qx u qy v).2.1 i := fun i hi => by
    obtain ⟨e1, h1⟩ := sgm_at (g := g) (hx := qx) (hy := qy) (u := u) (v := v) (fw := fw) (Y := Y) (x := [(o, .inl (g.2.2.1 1, 1, .inr (.inl (fun _ => 0))))]) hi
    exact hD.2 _ _ h1
  have hoA : ¬ AX (mkG g qx u qy v) o := fun ⟨i, hi, hio⟩ => by
    obtain ⟨e1, h1⟩ := sgm_at (g := g) (hx := qx) (hy := qy) (u := u) (v := v) (fw := fw) (Y := Y) (x := [(o, .inl (g.2.2.1 1, 1, .inr (.inl (fun _ => 0))))]) hi
    have h2 := hD.1 _ _ _ _ h1 hlo hio.symm
    have h3 := sgm_lt (show i < 157 from hi)
    omega
  have hoS : s.heap.size ≤ o := hD.2 157 _ hlo
  have hAXS : ∀ q, AX (mkG g qx u qy v) q → s.heap.size ≤ q := fun q ⟨i, hi, hq⟩ => by rw [hq]; exact hAd i hi
  obtain ⟨sa1, sa2, hT⟩ := en_TH (g := mkG g qx u qy v) (o := o) hts hgv (fun q hq => hq.elim (hAXS q) (fun z => by rw [z]; exact hoS))
  have CXG : CX (mkG g qx u qy v) p s m #[Value.ref b] meth c cL_law 7 ret RL := ⟨C.1, C.2.1, C.2.2.1, C.2.2.2.1, C.2.2.2.2.1, C.2.2.2.2.2.1, C.2.2.2.2.2.2.1, hK, hSB.st rfl hAXS, C.2.2.2.2.2.2.2.2.1, gi⟩
  have hPx : va_P (mkG g qx u qy v).1 clz (xw (mkG g qx u qy v) (mX0 fw)) H := cvX (g := g) qy v (dk_P.mpr (fun q hq => dk_P.mp hP q (by simp [hq])))
  have hPy : va_P (mkG g qx u qy v).1 clz (yw (mkG g qx u qy v) Y) H := dk_P.mpr (fun q hq => dk_P.mp hP q (by simp [hq]))
  have hO : OUT (mkG g qx u qy v) o H := ⟨fun _ => 0, fun k q hq => by rw [one_o hq]; exact hP 157 _ hlo⟩
  have hl : lv_has ls 7 [(4, .int 0), (0, .ref b), (1, .ref ((mkG g qx u qy v).2.1 (0 + 0))), (2, .ref ((mkG g qx u qy v).2.1 (138 + 0))), (3, .ref o)] := lv_sub hl [0, 4, 3, 2, 1] rfl
  exact lw_all hL CXG hX hbl hAd hoA hoS hl0 hT hlocks 513 0 0 (mX0 fw) Y H _ _ _ ls (Nat.zero_le _) (by omega) rfl (Rel0 hroots hY) (by decide) (by decide) hPx hPy hO hS hl
