/-! what stands at the law's entry: classes, arrays, statics, strings -/
abbrev fl1 : List Cond := flatC (Jvm.Cond.and given_1 narrow_1)
theorem lt_g {w : Cond} (i : Nat) (h : lw_tbl[i]? = some w) : w ∈ lw_tbl := List.mem_of_getElem? h
theorem en_arr {s : State} {args : Array Value} {ty : FieldType} (hty : ∀ C, ty ≠ .object C) (h : (Cond.arrayClass ty).before args s = true) : ∃ c : ClassId, ArrOfT s c ty ∧ va_RA s c ty := by
  obtain ⟨c, k, comp, h1, h2, h3⟩ := Cond.arrayClass_spec h
  refine ⟨c, fun n z => ⟨fun k h => (by cases h), k, h2, comp, h3⟩, ?_⟩
  cases ty with
  | object C => exact absurd rfl (hty C)
  | _ => exact h1
theorem en_arq {s : State} {C : String} (h : va_AO C s) : ∃ c : ClassId, ArrOfT s c (.object C) ∧ va_RA s c (.object C) := by
  obtain ⟨comp, c, k, h1, h2, h3, h4, h5⟩ := Cond.arrayOver_spec h
  exact ⟨c, fun n z => ⟨fun k h => (by cases h), k, h3, comp, h4⟩, k, comp, h3, h4, h1, h5⟩
theorem ev_WORDS : ∀ j, j < 12 → Cond.eq (Term.elem (Term.static "BirdCodes" "WORDS" "[I") (Term.int (Int32.ofNat j))) (Term.int (stab 0 j)) ∈ fl1 := by decide +kernel
theorem es_WORDS {s : State} {args : Array Value} (hts : ∀ w ∈ lw_tbl, w.before args s = true) (hgv : ∀ w ∈ fl1, w.before args s = true) : ∃ t : Nat, va_Z "BirdCodes" "WORDS" "[I" (.ref t) (fun q => s.heap.size ≤ q) s s.heap ∧ va_T .int t 12 (fun j => .int (stab 0 j)) (fun q => s.heap.size ≤ q) s s.heap := by
  have hA : ∀ a : Nat, a < s.heap.size → ¬ (fun q : Nat => s.heap.size ≤ q) a := fun a h => Nat.not_le.mpr h
  obtain ⟨t, h1, h2⟩ := va_Tof (tm := Term.static "BirdCodes" "WORDS" "[I") (ty := .int) (N := 12) (f := fun j => .int (stab 0 j)) (by decide) (hgv (Cond.arrayOf (Term.static "BirdCodes" "WORDS" "[I") .int) (by decide +kernel)) (va_eqt (hgv (Cond.eq (Term.length (Term.static "BirdCodes" "WORDS" "[I")) (Term.int 12)) (by decide +kernel))) (fun j hj => va_eqt (hgv _ (ev_WORDS j hj))) hA
  exact ⟨t, va_Zof (hts _ (lt_g 672 (by decide +kernel))) (hts _ (lt_g 95 (by decide +kernel))) h1 hA, h2⟩
theorem ev_NUMBERS : ∀ j, j < 12 → Cond.eq (Term.elem (Term.static "BirdCodes" "NUMBERS" "[I") (Term.int (Int32.ofNat j))) (Term.int (stab 1 j)) ∈ fl1 := by decide +kernel
theorem es_NUMBERS {s : State} {args : Array Value} (hts : ∀ w ∈ lw_tbl, w.before args s = true) (hgv : ∀ w ∈ fl1, w.before args s = true) : ∃ t : Nat, va_Z "BirdCodes" "NUMBERS" "[I" (.ref t) (fun q => s.heap.size ≤ q) s s.heap ∧ va_T .int t 12 (fun j => .int (stab 1 j)) (fun q => s.heap.size ≤ q) s s.heap := by
  have hA : ∀ a : Nat, a < s.heap.size → ¬ (fun q : Nat => s.heap.size ≤ q) a := fun a h => Nat.not_le.mpr h
  obtain ⟨t, h1, h2⟩ := va_Tof (tm := Term.static "BirdCodes" "NUMBERS" "[I") (ty := .int) (N := 12) (f := fun j => .int (stab 1 j)) (by decide) (hgv (Cond.arrayOf (Term.static "BirdCodes" "NUMBERS" "[I") .int) (by decide +kernel)) (va_eqt (hgv (Cond.eq (Term.length (Term.static "BirdCodes" "NUMBERS" "[I")) (Term.int 12)) (by decide +kernel))) (fun j hj => va_eqt (hgv _ (ev_NUMBERS j hj))) hA
  exact ⟨t, va_Zof (hts _ (lt_g 705 (by decide +kernel))) (hts _ (lt_g 95 (by decide +kernel))) h1 hA, h2⟩
theorem ev_LEAST : ∀ j, j < 48 → Cond.eq (Term.elem (Term.static "BirdCodes" "LEAST" "[I") (Term.int (Int32.ofNat j))) (Term.int (stab 2 j)) ∈ fl1 := by decide +kernel
theorem es_LEAST {s : State} {args : Array Value} (hts : ∀ w ∈ lw_tbl, w.before args s = true) (hgv : ∀ w ∈ fl1, w.before args s = true) : ∃ t : Nat, va_Z "BirdCodes" "LEAST" "[I" (.ref t) (fun q => s.heap.size ≤ q) s s.heap ∧ va_T .int t 48 (fun j => .int (stab 2 j)) (fun q => s.heap.size ≤ q) s s.heap := by
  have hA : ∀ a : Nat, a < s.heap.size → ¬ (fun q : Nat => s.heap.size ≤ q) a := fun a h => Nat.not_le.mpr h
  obtain ⟨t, h1, h2⟩ := va_Tof (tm := Term.static "BirdCodes" "LEAST" "[I") (ty := .int) (N := 48) (f := fun j => .int (stab 2 j)) (by decide) (hgv (Cond.arrayOf (Term.static "BirdCodes" "LEAST" "[I") .int) (by decide +kernel)) (va_eqt (hgv (Cond.eq (Term.length (Term.static "BirdCodes" "LEAST" "[I")) (Term.int 48)) (by decide +kernel))) (fun j hj => va_eqt (hgv _ (ev_LEAST j hj))) hA
  exact ⟨t, va_Zof (hts _ (lt_g 707 (by decide +kernel))) (hts _ (lt_g 95 (by decide +kernel))) h1 hA, h2⟩
theorem ev_MOST : ∀ j, j < 48 → Cond.eq (Term.elem (Term.static "BirdCodes" "MOST" "[I") (Term.int (Int32.ofNat j))) (Term.int (stab 3 j)) ∈ fl1 := by decide +kernel
theorem es_MOST {s : State} {args : Array Value} (hts : ∀ w ∈ lw_tbl, w.before args s = true) (hgv : ∀ w ∈ fl1, w.before args s = true) : ∃ t : Nat, va_Z "BirdCodes" "MOST" "[I" (.ref t) (fun q => s.heap.size ≤ q) s s.heap ∧ va_T .int t 48 (fun j => .int (stab 3 j)) (fun q => s.heap.size ≤ q) s s.heap := by
  have hA : ∀ a : Nat, a < s.heap.size → ¬ (fun q : Nat => s.heap.size ≤ q) a := fun a h => Nat.not_le.mpr h
  obtain ⟨t, h1, h2⟩ := va_Tof (tm := Term.static "BirdCodes" "MOST" "[I") (ty := .int) (N := 48) (f := fun j => .int (stab 3 j)) (by decide) (hgv (Cond.arrayOf (Term.static "BirdCodes" "MOST" "[I") .int) (by decide +kernel)) (va_eqt (hgv (Cond.eq (Term.length (Term.static "BirdCodes" "MOST" "[I")) (Term.int 48)) (by decide +kernel))) (fun j hj => va_eqt (hgv _ (ev_MOST j hj))) hA
  exact ⟨t, va_Zof (hts _ (lt_g 709 (by decide +kernel))) (hts _ (lt_g 95 (by decide +kernel))) h1 hA, h2⟩
theorem ev_TABLE : ∀ j, j < 16 → Cond.eq (Term.elem (Term.static "BirdCodes" "TABLE" "[I") (Term.int (Int32.ofNat j))) (Term.int (stab 4 j)) ∈ fl1 := by decide +kernel
theorem es_TABLE {s : State} {args : Array Value} (hts : ∀ w ∈ lw_tbl, w.before args s = true) (hgv : ∀ w ∈ fl1, w.before args s = true) : ∃ t : Nat, va_Z "BirdCodes" "TABLE" "[I" (.ref t) (fun q => s.heap.size ≤ q) s s.heap ∧ va_T .int t 16 (fun j => .int (stab 4 j)) (fun q => s.heap.size ≤ q) s s.heap := by
  have hA : ∀ a : Nat, a < s.heap.size → ¬ (fun q : Nat => s.heap.size ≤ q) a := fun a h => Nat.not_le.mpr h
  obtain ⟨t, h1, h2⟩ := va_Tof (tm := Term.static "BirdCodes" "TABLE" "[I") (ty := .int) (N := 16) (f := fun j => .int (stab 4 j)) (by decide) (hgv (Cond.arrayOf (Term.static "BirdCodes" "TABLE" "[I") .int) (by decide +kernel)) (va_eqt (hgv (Cond.eq (Term.length (Term.static "BirdCodes" "TABLE" "[I")) (Term.int 16)) (by decide +kernel))) (fun j hj => va_eqt (hgv _ (ev_TABLE j hj))) hA
  exact ⟨t, va_Zof (hts _ (lt_g 833 (by decide +kernel))) (hts _ (lt_g 95 (by decide +kernel))) h1 hA, h2⟩
theorem en_NS {s : State} {args : Array Value} (hts : ∀ w ∈ lw_tbl, w.before args s = true) : NS s := ⟨va_Nw.of rfl (hts _ (lt_g 124 (by decide +kernel))), va_Nw.of rfl (hts _ (lt_g 177 (by decide +kernel))), va_Nw.of rfl (hts _ (lt_g 262 (by decide +kernel))), va_Nw.of rfl (hts _ (lt_g 278 (by decide +kernel))), va_Nw.of rfl (hts _ (lt_g 363 (by decide +kernel))), va_Nw.of rfl (hts _ (lt_g 405 (by decide +kernel))), va_Nw.of rfl (hts _ (lt_g 434 (by decide +kernel))), va_Nw.of rfl (hts _ (lt_g 515 (by decide +kernel))), va_Nw.of rfl (hts _ (lt_g 671 (by decide +kernel))), va_Nw.of rfl (hts _ (lt_g 704 (by decide +kernel))), va_Nw.of rfl (hts _ (lt_g 706 (by decide +kernel))), va_Nw.of rfl (hts _ (lt_g 708 (by decide +kernel))), va_Nw.of rfl (hts _ (lt_g 730 (by decide +kernel))), va_Nw.of rfl (hts _ (lt_g 832 (by decide +kernel))), va_Nw.of rfl (hts _ (lt_g 838 (by decide +kernel))), va_Nw.of rfl (hts _ (lt_g 842 (by decide +kernel))), va_Nw.of rfl (hts _ (lt_g 902 (by decide +kernel))), va_Nw.of rfl (hts _ (lt_g 1062 (by decide +kernel)))⟩
theorem en_AO {s : State} {args : Array Value} (hts : ∀ w ∈ lw_tbl, w.before args s = true) : AO s := ⟨va_AO.of (hts _ (lt_g 175 (by decide +kernel))), va_AO.of (hts _ (lt_g 432 (by decide +kernel))), va_AO.of (hts _ (lt_g 500 (by decide +kernel)))⟩
theorem en_g {s : State} {args : Array Value} (hts : ∀ w ∈ lw_tbl, w.before args s = true) (hgv : ∀ w ∈ fl1, w.before args s = true) : ∃ g : Geo, va_K g.1 clz (xt g) s ∧ SB g (fun q => s.heap.size ≤ q) s := by
  have sub : ∀ w, w ∈ bg → w ∈ lw_tbl := fun w h => (List.mem_filter.mp h).1
  obtain ⟨c0, i0, k0⟩ := u_known (C := RX0) (T := TX0) (N := 15) (n := 15) hts (fun w h => sub w (inb_X0 w h)) (hts _ (lt_g 176 (by decide +kernel)))
  obtain ⟨c1, i1, k1⟩ := u_known (C := RX1) (T := TX1) (N := 10) (n := 10) hts (fun w h => sub w (inb_X1 w h)) (hts _ (lt_g 433 (by decide +kernel)))
  obtain ⟨c2, i2, k2⟩ := u_known (C := RX2) (T := TX2) (N := 10) (n := 10) hts (fun w h => sub w (inb_X2 w h)) (hts _ (lt_g 362 (by decide +kernel)))
  obtain ⟨c3, i3, k3⟩ := u_known (C := RX3) (T := TX3) (N := 5) (n := 5) hts (fun w h => sub w (inb_X3 w h)) (hts _ (lt_g 514 (by decide +kernel)))
  obtain ⟨c4, i4, k4⟩ := u_known (C := RX4) (T := TX4) (N := 4) (n := 4) hts (fun w h => sub w (inb_X4 w h)) (hts _ (lt_g 404 (by decide +kernel)))
  obtain ⟨c5, i5, k5⟩ := u_known (C := RX5) (T := TX5) (N := 3) (n := 3) hts (fun w h => sub w (inb_X5 w h)) (hts _ (lt_g 494 (by decide +kernel)))
  obtain ⟨c6, i6, k6⟩ := u_known (C := RX6) (T := TX6) (N := 12) (n := 12) hts (fun w h => sub w (inb_X6 w h)) (hts _ (lt_g 123 (by decide +kernel)))
  obtain ⟨c7, i7, k7⟩ := u_known (C := RX7) (T := TX7) (N := 10) (n := 10) hts (fun w h => sub w (inb_X7 w h)) (hts _ (lt_g 538 (by decide +kernel)))
  obtain ⟨c8, i8, k8⟩ := u_known (C := RX8) (T := TX8) (N := 3) (n := 3) hts (fun w h => sub w (inb_X8 w h)) (hts _ (lt_g 426 (by decide +kernel)))
  obtain ⟨c9, i9, k9⟩ := u_known (C := RX9) (T := TX9) (N := 16) (n := 16) hts (fun w h => sub w (inb_X9 w h)) (hts _ (lt_g 169 (by decide +kernel)))
  obtain ⟨c10, i10, k10⟩ := u_known (C := RX10) (T := TX10) (N := 14) (n := 14) hts (fun w h => sub w (inb_X10 w h)) (hts _ (lt_g 115 (by decide +kernel)))
  obtain ⟨c11, i11, k11⟩ := u_known (C := RX11) (T := TX11) (N := 45) (n := 45) hts (fun w h => sub w (inb_X11 w h)) (hts _ (lt_g 1291 (by decide +kernel)))
  obtain ⟨t0, a0⟩ := en_arr (ty := .int) (fun _ z => by cases z) (hts _ (lt_g 167 (by decide +kernel)))
  obtain ⟨t1, a1⟩ := en_arr (ty := .long) (fun _ z => by cases z) (hts _ (lt_g 402 (by decide +kernel)))
  obtain ⟨t2, a2⟩ := en_arr (ty := .boolean) (fun _ z => by cases z) (hts _ (lt_g 1457 (by decide +kernel)))
  obtain ⟨t3, a3⟩ := en_arq (en_AO hts).1
  obtain ⟨t4, a4⟩ := en_arq (en_AO hts).2.1
  obtain ⟨t5, a5⟩ := en_arq (en_AO hts).2.2
  obtain ⟨z0, b0⟩ := es_WORDS hts hgv
  obtain ⟨z1, b1⟩ := es_NUMBERS hts hgv
  obtain ⟨z2, b2⟩ := es_LEAST hts hgv
  obtain ⟨z3, b3⟩ := es_MOST hts hgv
  obtain ⟨z4, b4⟩ := es_TABLE hts hgv
  refine ⟨((fun k => [c0, c1, c2, c3, c4, c5, c6, c7, c8, c9, c10, c11].getD k c0, fun k => [i0, i1, i2, i3, i4, i5, i6, i7, i8, i9, i10, i11].getD k i0), fun _ => 0, fun k => [t0, t1, t2, t3, t4, t5].getD k t0, fun k => [z0, z1, z2, z3, z4].getD k 0), ⟨?_, ?_⟩, b0, b1, b2, b3, b4⟩
  · intro k q hq
    match k, hq with
    | 0, hq => cases hq; exact k0
    | 1, hq => cases hq; exact k1
    | 2, hq => cases hq; exact k2
    | 3, hq => cases hq; exact k3
    | 4, hq => cases hq; exact k4
    | 5, hq => cases hq; exact k5
    | 6, hq => cases hq; exact k6
    | 7, hq => cases hq; exact k7
    | 8, hq => cases hq; exact k8
    | 9, hq => cases hq; exact k9
    | 10, hq => cases hq; exact k10
    | 11, hq => cases hq; exact k11
    | k + 12, hq => simp at hq
  · intro k q hq
    match k, hq with
    | 0, hq => cases hq; exact a0
    | 1, hq => cases hq; exact a1
    | 2, hq => cases hq; exact a2
    | 3, hq => cases hq; exact a3
    | 4, hq => cases hq; exact a4
    | 5, hq => cases hq; exact a5
    | k + 6, hq => simp at hq
theorem en_TH {s : State} {args : Array Value} {g : Geo} {o : Nat} (hts : ∀ w ∈ lw_tbl, w.before args s = true) (hgv : ∀ w ∈ fl1, w.before args s = true) (ho : ∀ q, Ao g o q → s.heap.size ≤ q) : ∃ sa1 sa2, TH g o sa1 sa2 s := by
  have hA : ∀ a : Nat, a < s.heap.size → ¬ Ao g o a := fun a h z => absurd (ho a z) (Nat.not_le.mpr h)
  obtain ⟨v0, e0⟩ : ∃ v, (Term.string RX10 117).eval args s none [] s = some (.ref v) := by
    have h := hgv (Cond.exactly (Term.string "BirdCodes" 117) "java/lang/String") (by decide +kernel)
    obtain ⟨a, c, cell, k, h1, -⟩ := Cond.exactly_spec h
    exact ⟨a, h1⟩
  obtain ⟨v1, e1⟩ : ∃ v, (Term.string RX10 124).eval args s none [] s = some (.ref v) := by
    have h := hgv (Cond.exactly (Term.string "BirdCodes" 124) "java/lang/String") (by decide +kernel)
    obtain ⟨a, c, cell, k, h1, -⟩ := Cond.exactly_spec h
    exact ⟨a, h1⟩
  refine ⟨v0, v1, vx_Zqof (hts _ (lt_g 1229 (by decide +kernel))) (hts _ (lt_g 109 (by decide +kernel))) (hgv _ (by decide +kernel)) hA, vx_Zqof (hts _ (lt_g 1231 (by decide +kernel))) (hts _ (lt_g 109 (by decide +kernel))) (hgv _ (by decide +kernel)) hA, vk_R.of (hts _ (lt_g 1242 (by decide +kernel))) e0, vk_R.of (hts _ (lt_g 1278 (by decide +kernel))) e1, fun w hw => ?_, va_Nc.of (hgv _ (by decide +kernel))⟩
  exact vx_ot_at (State.WarmedH.refl s) rfl (ng_o w hw) (hts w (ng_t w hw))
