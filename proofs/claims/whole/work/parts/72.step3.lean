/-! the reference: a channel followed, whole -/
theorem RY.congr {u kk : Nat} {Y Z : Mem} {g g' : Nat → Nat} (e : ∀ k, k < 10 → g k = g' k) (h : RY u kk Y Z g) : RY u kk Y Z g' := ⟨h.1, h.2.1.congr e, h.2.2⟩
theorem gU_s {g : Nat → Nat} {k v : Nat} : gU g k v k = v := if_pos rfl
theorem gU_n {g : Nat → Nat} {k v j : Nat} (h : j ≠ k) : gU g k v j = g j := if_neg h
theorem ry_at {u kk c j : Nat} {Y Z : Mem} {g : Nat → Nat} (hk : kk < 2) (hc : c < 4) (hj : j < 9) (hu : u = 298 * kk + 73 * c) (h : RY u kk Y Z g) {Q : Int32 → Mem → Prop} (q : Q (nI (g j)) Z) : p_X11_at (nI c) (nI j) Z Q := by
  subst hu
  refine mk_at hk (by omega) h.2.2 ?_
  rw [h.2.1.1 j hj]
  exact q
theorem ry_put {u kk c j v : Nat} {Y Z : Mem} {g : Nat → Nat} (hk : kk < 2) (hc : c < 4) (hj : j < 8) (hu : u = 298 * kk + 73 * c) (h : RY u kk Y Z g) {Q : Mem → Prop} (q : ∀ Z', RY u kk Y Z' (gU g j v) → Q Z') : p_X11_put (nI c) (nI j) (nI v) Z Q := by
  subst hu
  exact mk_put hk (by omega) h.2.2 (q _ (h.put hj))
theorem stepS_3 (T : Txt) (S : Nat → Nat) : stepS T S 3 = tuS (chSi T S (S 1 / 4)) (chQ T S) (S 3) := by
  unfold stepS
  rw [if_neg (by decide), if_pos rfl]
theorem t11_fol1 {T : Txt} {kk c : Nat} {S : Nat → Nat} (h1 : TB T) (hk : kk < 2) (hc : c < 4) {Y : Mem} (hC : CY T Y) (hN : NsY (T 0 4) (T 0 5) none Y) (hb : Y.1 40 0 35 = nI kk) (hS : YS S Y (298 * kk + 73 * c)) (hB : SBn (T 0 0) S) {Q : Int32 → Mem → Prop} (h0 : (S 7 ≠ 0 ∨ S 5 = 200) → Q 0 Y) (h : S 7 = 0 → S 5 < 200 → ∀ Z, FQ (298 * kk + 73 * c) Y Z → YS (stepS T S) Z (298 * kk + 73 * c) → Q 1 Z) : p_X11_isFollowed (nI c) Y Q := by
  have hnb := h1.1
  obtain ⟨b0, b1, b2, b3, b4, b5, b6, b67, b7, b8, b85, b9⟩ := hB
  have hbd : BdS (chRe T S) (chIm T S) := bdS h1 h1.2.2.2.2.1
  have hst : S 1 / 4 < 62 := by omega
  have pwlt : ∀ st, chPw T S st < 2 ^ 28 := fun st => (pw_e hbd).2
  obtain ⟨sb1, sb2⟩ := si_b (T := T) (d := T (1 + S 0) 1) (st := S 1 / 4) (p := S 5) (sh := S 2) (tu := S 3) hbd
  generalize hu : 298 * kk + 73 * c = u at *
  have rs0 : RY u kk Y Y S := ⟨fun _ _ _ _ _ _ => rfl, hS, hb⟩
  refine ry_at (j := 5) hk hc (by decide) hu.symm rs0 (ry_at (j := 7) hk hc (by decide) hu.symm rs0 ⟨fun z => h0 (Or.inl fun y => ?_), fun z => ⟨fun y => ?_, fun y => h0 (Or.inr ((nI_eq (a := S 5) (b := 200) (by omega) (by decide)).mp y))⟩⟩)
  · rw [y] at z; exact absurd z (by decide)
  have h7 : S 7 = 0 := by
    rcases Nat.eq_zero_or_pos (S 7) with e | e
    · exact e
    · exact absurd (nI_lt (a := 0) e (by omega)) z
  have h5 : S 5 < 200 := by
    have : S 5 ≠ 200 := fun e => y (by rw [e]; rfl)
    omega
  refine t11_smp h1 h5 (by have := h1.2.2.2.2.1; omega) (by have := h1.2.2.2.2.2.1; omega) (fun o e => by cases e) hC.1 hC.2 hN (fun V1 hV1 => ?_)
  have r1 : RY u kk Y V1 S := ⟨hV1.ey.fq, hS.ey hV1.ey, (hV1.ey 40 0 35 (by omega) (by omega)).trans hb⟩
  refine ry_at (j := 2) hk hc (by decide) hu.symm r1 (ry_at (j := 3) hk hc (by decide) hu.symm r1 (t11_turns (re := chRe T S) (im := chIm T S) h5 b2 b3 (hC.ey h1 hV1.ey).2 hV1.2 (fun V2 hV2 hU => ?_)))
  have ey2 : EY Y V2 := hV1.ey.tr (fun a i j e1 e2 => hV2.1 a i j (by omega) (by omega))
  have mk : ∀ Z, EY Y Z → RY u kk Y Z S := fun Z e => ⟨e.fq, hS.ey e, (e 40 0 35 (by omega) (by omega)).trans hb⟩
  refine ry_at (j := 1) hk hc (by decide) hu.symm (mk V2 ey2) ?_
  rw [show (4 : Int32) = nI 4 from rfl, pk_div (by omega) (by decide) (by decide)]
  rintro x10 rfl
  have e61 : (nI (S 1 / 4) + 61) - (nI (S 1 / 4) + 61) / 62 * 62 = nI ((S 1 / 4 + 61) % 62) := by
    rw [show (61 : Int32) = nI 61 from rfl, nI_add, show (62 : Int32) = nI 62 from rfl, pk_rem (by omega) (by decide) (by decide)]
  have e01 : (nI (S 1 / 4) + 1) - (nI (S 1 / 4) + 1) / 62 * 62 = nI ((S 1 / 4 + 1) % 62) := by
    rw [nI_1, show (62 : Int32) = nI 62 from rfl, pk_rem (by omega) (by decide) (by decide)]
  rw [e61, e01]
  refine ry_at (j := 0) hk hc (by decide) hu.symm (mk V2 ey2) (t11_pow h1 b0 (Nat.mod_lt _ (by decide)) hbd (hC.ey h1 ey2).1 hU ?_)
  have ey3 : EY Y (Sv T S ((S 1 / 4 + 61) % 62) V2) := ey2.tr Sv_ey
  have hU3 : UY (chRe T S) (chIm T S) (S 5) (S 2) (S 3) (Sv T S ((S 1 / 4 + 61) % 62) V2) := Sv_U hU
  refine ry_at (j := 0) hk hc (by decide) hu.symm (mk _ ey3) (t11_pow h1 b0 (Nat.mod_lt _ (by decide)) hbd (hC.ey h1 ey3).1 hU3 ?_)
  have ey4 : EY Y (Sv T S ((S 1 / 4 + 1) % 62) (Sv T S ((S 1 / 4 + 61) % 62) V2)) := ey3.tr Sv_ey
  have hU4 : UY (chRe T S) (chIm T S) (S 5) (S 2) (S 3) (Sv T S ((S 1 / 4 + 1) % 62) (Sv T S ((S 1 / 4 + 61) % 62) V2)) := Sv_U hU3
  refine ry_at (j := 0) hk hc (by decide) hu.symm (mk _ ey4) (t11_pow h1 b0 hst hbd (hC.ey h1 ey4).1 hU4 ?_)
  have ey5 : EY Y (Sv T S (S 1 / 4) (Sv T S ((S 1 / 4 + 1) % 62) (Sv T S ((S 1 / 4 + 61) % 62) V2))) := ey4.tr Sv_ey
  have s29 : (Sv T S (S 1 / 4) (Sv T S ((S 1 / 4 + 1) % 62) (Sv T S ((S 1 / 4 + 61) % 62) V2))).1 40 0 29 = iI (chSi T S (S 1 / 4)) := Sv_29
  have s30 : (Sv T S (S 1 / 4) (Sv T S ((S 1 / 4 + 1) % 62) (Sv T S ((S 1 / 4 + 61) % 62) V2))).1 40 0 30 = iI (chSq T S (S 1 / 4)) := Sv_30
  have r5 : RY u kk Y (Sv T S (S 1 / 4) (Sv T S ((S 1 / 4 + 1) % 62) (Sv T S ((S 1 / 4 + 61) % 62) V2))) S := mk _ ey5
  have i1 : -10637 ≤ chSi T S (S 1 / 4) ∧ chSi T S (S 1 / 4) ≤ 10637 := sb1
  have i2 : -10637 ≤ chQ T S ∧ chQ T S ≤ 10637 := by
    have : -10637 ≤ chSq T S (S 1 / 4) ∧ chSq T S (S 1 / 4) ≤ 10637 := sb2
    unfold chQ; split <;> omega
  have pe := pwlt ((S 1 / 4 + 61) % 62)
  have pl := pwlt ((S 1 / 4 + 1) % 62)
  have pp := pwlt (S 1 / 4)
  show ∀ x17, x17 = (Sv T S (S 1 / 4) (Sv T S ((S 1 / 4 + 1) % 62) (Sv T S ((S 1 / 4 + 61) % 62) V2))).1 40 0 29 → (0 ≤ (Sv T S (S 1 / 4) (Sv T S ((S 1 / 4 + 1) % 62) (Sv T S ((S 1 / 4 + 61) % 62) V2))).1 40 0 29 → b_X11_isFollowed_132 Q (nI c) (nI (S 5)) (nI (chPw T S ((S 1 / 4 + 61) % 62))) (nI (chPw T S ((S 1 / 4 + 1) % 62))) (nI (chPw T S (S 1 / 4))) x17 ((Sv T S (S 1 / 4) (Sv T S ((S 1 / 4 + 1) % 62) (Sv T S ((S 1 / 4 + 61) % 62) V2))).1 40 0 30) (Sv T S (S 1 / 4) (Sv T S ((S 1 / 4 + 1) % 62) (Sv T S ((S 1 / 4 + 61) % 62) V2)))) ∧ (¬ 0 ≤ (Sv T S (S 1 / 4) (Sv T S ((S 1 / 4 + 1) % 62) (Sv T S ((S 1 / 4 + 61) % 62) V2))).1 40 0 29 → b_X11_isFollowed_132 Q (nI c) (nI (S 5)) (nI (chPw T S ((S 1 / 4 + 61) % 62))) (nI (chPw T S ((S 1 / 4 + 1) % 62))) (nI (chPw T S (S 1 / 4))) x17 (-((Sv T S (S 1 / 4) (Sv T S ((S 1 / 4 + 1) % 62) (Sv T S ((S 1 / 4 + 61) % 62) V2))).1 40 0 30)) (Sv T S (S 1 / 4) (Sv T S ((S 1 / 4 + 1) % 62) (Sv T S ((S 1 / 4 + 61) % 62) V2))))
  generalize Sv T S (S 1 / 4) (Sv T S ((S 1 / 4 + 1) % 62) (Sv T S ((S 1 / 4 + 61) % 62) V2)) = V at *
  generalize hE : chPw T S ((S 1 / 4 + 61) % 62) = e at *
  generalize hL : chPw T S ((S 1 / 4 + 1) % 62) = l at *
  generalize hP : chPw T S (S 1 / 4) = pr at *
  generalize hI : chSi T S (S 1 / 4) = I at *
  generalize hQ : chQ T S = q at *
  have hsq : q = if I < 0 then -chSq T S (S 1 / 4) else chSq T S (S 1 / 4) := by rw [← hQ, ← hI]; rfl
  have hcb : chB T S = decide (I < 0) := by rw [← hI]; rfl
  -- from the log on
  have kL : ∀ Z, RY u kk Y Z (gU (gU S 1 (ptS e l (S 1))) 3 (tuS I q (S 3))) → b_X11_isFollowed_236 Q (nI c) (nI (S 5)) (nI pr) (iI I) Z := by
    intro Z hZ
    have body : b_X11_isFollowed_248 Q (nI c) (nI (S 5)) (nI pr) (nI c) (bitV (chB T S)) Z := by
      have hu2 := hu
      refine t11_logs (kk := kk) (c := c) (len := S 8) (L := S 9) (b := chB T S) hk hc b8 hZ.2.2 ?_ ?_ (fun Z2 a1 a2 a3 => ?_)
      · rw [hu]; exact hZ.2.1.1 8 (by decide)
      · rw [hu]; exact hZ.2.1.2
      rw [hu] at a1 a2 a3
      have r8 := RY.log (g := gU (gU S 1 (ptS e l (S 1))) 3 (tuS I q (S 3))) (len := S 8) (L := S 9) rfl rfl b8 hZ a1 a2 a3
      refine ry_at (j := 4) hk hc (by decide) hu.symm r8 ?_
      have e4 : gU (gU (gU (gU S 1 (ptS e l (S 1))) 3 (tuS I q (S 3))) 8 (min 64 (S 8 + 1))) 9 ((2 * S 9 + bN (chB T S)) % 2 ^ 64) 4 = S 4 := rfl
      have e6 : gU (gU (gU (gU S 1 (ptS e l (S 1))) 3 (tuS I q (S 3))) 8 (min 64 (S 8 + 1))) 9 ((2 * S 9 + bN (chB T S)) % 2 ^ 64) 6 = S 6 := rfl
      have hwk : wkS pr (S 4) (S 6) = if 4 * pr < S 4 then S 6 + 1 else 0 := rfl
      have fin : ∀ s3, s3 = nI (wkS pr (S 4) (S 6)) → b_X11_isFollowed_286 Q (nI c) (nI (S 5)) (nI c) 6 s3 Z2 := by
        rintro s3 rfl
        have hlt : wkS pr (S 4) (S 6) < 5 := by unfold wkS; split <;> omega
        have st7 : stepS T S 7 = if wkS pr (S 4) (S 6) = 3 then S 5 + 1 else S 7 := by rw [← hP]; rfl
        have cong : ∀ g6 : Nat → Nat, g6 0 = S 0 → g6 1 = ptS e l (S 1) → g6 2 = S 2 → g6 3 = tuS I q (S 3) → g6 4 = S 4 → g6 5 = S 5 + 1 → g6 6 = wkS pr (S 4) (S 6) → g6 7 = stepS T S 7 → g6 8 = min 64 (S 8 + 1) → g6 9 = (2 * S 9 + bN (chB T S)) % 2 ^ 64 → ∀ k, k < 10 → g6 k = stepS T S k := by
          intro g6 q0 q1 q2 q3 q4 q5 q6 q7 q8 q9 k hk
          have : k = 0 ∨ k = 1 ∨ k = 2 ∨ k = 3 ∨ k = 4 ∨ k = 5 ∨ k = 6 ∨ k = 7 ∨ k = 8 ∨ k = 9 := by omega
          rcases this with rfl | rfl | rfl | rfl | rfl | rfl | rfl | rfl | rfl | rfl
          · exact q0
          · rw [q1, ← hE, ← hL]; rfl
          · exact q2
          · rw [q3, stepS_3, hI, hQ]
          · exact q4
          · exact q5
          · rw [q6, ← hP]; rfl
          · exact q7
          · exact q8
          · exact q9
        refine ry_put (j := 6) hk hc (by decide) hu.symm r8 (fun Z3 r9 => ry_at (j := 6) hk hc (by decide) hu.symm r9 ?_)
        rw [gU_s]
        refine ⟨fun n => ?_, fun n => ?_⟩
        · have hne : wkS pr (S 4) (S 6) ≠ 3 := fun y => n (by rw [y]; rfl)
          unfold b_X11_isFollowed_310
          rw [nI_1]
          refine ry_put (j := 5) hk hc (by decide) hu.symm r9 (fun Z4 r10 => ?_)
          rw [if_neg hne] at st7
          refine h h7 h5 Z4 r10.1 (YS.congr ?_ r10.2.1)
          exact cong _ rfl rfl rfl rfl rfl rfl rfl st7.symm rfl rfl
        · have heq : wkS pr (S 4) (S 6) = 3 := (nI_eq (a := wkS pr (S 4) (S 6)) (b := 3) (by omega) (by decide)).mp n
          rw [nI_1]
          refine ry_put (j := 7) hk hc (by decide) hu.symm r9 (fun Z4 r10 => ?_)
          unfold b_X11_isFollowed_310
          rw [nI_1]
          refine ry_put (j := 5) hk hc (by decide) hu.symm r10 (fun Z5 r11 => ?_)
          rw [if_pos heq] at st7
          refine h h7 h5 Z5 r11.1 (YS.congr ?_ r11.2.1)
          exact cong _ rfl rfl rfl rfl rfl rfl rfl st7.symm rfl rfl
      rw [e4, nI_l (by omega), nI_l (by omega), show (4 : Int64) = lN 4 from rfl, lN_mul, lg_ge (by omega) (by omega)]
      refine ⟨fun y => fin _ ?_, fun y => ry_at (j := 6) hk hc (by decide) hu.symm r8 ?_⟩
      · rw [hwk, if_neg (by omega)]; rfl
      · rw [e6, nI_1]
        exact fin _ (by rw [hwk, if_pos (by omega)])
    unfold b_X11_isFollowed_236
    rw [iI_ge0 (by omega) (by omega)]
    refine ⟨fun y => ?_, fun y => ?_⟩
    · rw [hcb, decide_eq_false (by omega)] at body; exact body
    · rw [hcb, decide_eq_true (by omega)] at body; exact body
  -- the turn
  have kT : ∀ Z, RY u kk Y Z (gU S 1 (ptS e l (S 1))) → b_X11_isFollowed_172 Q (nI c) (nI (S 5)) (nI pr) (iI I) (iI q) Z := by
    intro Z hZ
    have k206 : b_X11_isFollowed_206 Q (nI c) (nI (S 5)) (nI pr) (iI I) (iI q) (nI (2 * q.natAbs)) (nI I.natAbs) Z := by
      unfold b_X11_isFollowed_206
      rw [nI_leI (by omega) (by omega), iI_le0 (by omega) (by omega)]
      have ht : tuS I q (S 3) = if I.natAbs < 2 * q.natAbs then (if 0 < q then (S 3 + 1) % 16 else (S 3 + 15) % 16) else S 3 := rfl
      refine ⟨fun y => kL Z (hZ.congr (fun k hk => ?_)), fun y => ry_at (j := 3) hk hc (by decide) hu.symm hZ ⟨fun x => ?_, fun x => ?_⟩⟩
      · by_cases k3 : k = 3
        · subst k3; rw [gU_s, ht, if_neg (by omega)]; rfl
        · rw [gU_n k3]
      · unfold b_X11_isFollowed_229
        rw [show gU S 1 (ptS e l (S 1)) 3 = S 3 from rfl, show (15 : Int32) = nI 15 from rfl, nI_add, show (16 : Int32) = nI 16 from rfl, pk_rem (by omega) (by decide) (by decide)]
        rw [if_pos (by omega), if_neg (by omega)] at ht
        rw [← ht]
        exact ry_put (j := 3) hk hc (by decide) hu.symm hZ (fun Z' hZ' => kL Z' hZ')
      · unfold b_X11_isFollowed_229
        rw [show gU S 1 (ptS e l (S 1)) 3 = S 3 from rfl, nI_1, show (16 : Int32) = nI 16 from rfl, pk_rem (by omega) (by decide) (by decide)]
        rw [if_pos (by omega), if_pos (by omega)] at ht
        rw [← ht]
        exact ry_put (j := 3) hk hc (by decide) hu.symm hZ (fun Z' hZ' => kL Z' hZ')
    have k189 : b_X11_isFollowed_189 Q (nI c) (nI (S 5)) (nI pr) (iI I) (iI q) (nI (2 * q.natAbs)) Z := by
      unfold b_X11_isFollowed_189
      rw [iI_ge0 (by omega) (by omega), iI_neg]
      refine ⟨fun y => ?_, fun y => ?_⟩
      · rw [show iI I = nI I.natAbs from by rw [← iI_n]; congr 1; omega] at k206 ⊢; exact k206
      · have en : iI (-I) = nI I.natAbs := by rw [← iI_n]; congr 1; omega
        rw [en]; exact k206
    unfold b_X11_isFollowed_172
    rw [iI_ge0 (by omega) (by omega), show (2 : Int32) = iI 2 from rfl, iI_neg, iI_mul, iI_mul]
    refine ⟨fun y => ?_, fun y => ?_⟩
    · rw [show iI (2 * q) = nI (2 * q.natAbs) from by rw [← iI_n]; congr 1; omega]; exact k189
    · rw [show iI (-2 * q) = nI (2 * q.natAbs) from by rw [← iI_n]; congr 1; omega]; exact k189
  -- the point
  have kP : b_X11_isFollowed_132 Q (nI c) (nI (S 5)) (nI e) (nI l) (nI pr) (iI I) (iI q) V := by
    unfold b_X11_isFollowed_132
    rw [nI_leI (by omega) (by omega)]
    have hp : ptS e l (S 1) = if l < e then (S 1 + 247) % 248 else if e < l then (S 1 + 1) % 248 else S 1 := rfl
    refine ⟨fun y => kT V (r5.congr (fun k hk => ?_)), fun y => ry_at (j := 1) hk hc (by decide) hu.symm r5 ⟨fun x => ?_, fun x => ?_⟩⟩
    · have : e = l := (nI_eq (by omega) (by omega)).mp y
      by_cases k1 : k = 1
      · subst k1; rw [gU_s, hp, if_neg (by omega), if_neg (by omega)]
      · rw [gU_n k1]
    · have : e ≠ l := fun z => y (by rw [z])
      unfold b_X11_isFollowed_164
      rw [nI_1, show (248 : Int32) = nI 248 from rfl, pk_rem (by omega) (by decide) (by decide)]
      rw [if_neg (by omega), if_pos (by omega)] at hp
      rw [← hp]
      exact ry_put (j := 1) hk hc (by decide) hu.symm r5 (fun Z' hZ' => kT Z' hZ')
    · unfold b_X11_isFollowed_164
      rw [show (247 : Int32) = nI 247 from rfl, nI_add, show (248 : Int32) = nI 248 from rfl, pk_rem (by omega) (by decide) (by decide)]
      rw [if_pos (by omega)] at hp
      rw [← hp]
      exact ry_put (j := 1) hk hc (by decide) hu.symm r5 (fun Z' hZ' => kT Z' hZ')
  rintro x17 rfl
  rw [s29, s30, iI_ge0 (by omega) (by omega), iI_neg]
  refine ⟨fun y => ?_, fun y => ?_⟩
  · rw [if_neg (by omega)] at hsq
    rw [← hsq]; exact kP
  · rw [if_pos (by omega)] at hsq
    rw [← hsq]; exact kP
