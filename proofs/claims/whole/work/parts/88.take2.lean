theorem t10_take2 {U : Txt} {w b a : Nat} {X : Mem} (H : TkH U w 2 b [a] X) {Q : Mem → Prop} (h : ∀ Z, TkX w X Z → WXw (put U (1 + b) 7 a) w Z → Q Z) : b_X6_take_22 Q 2 X := by
  obtain ⟨hU, hw, h8, hX, hv, _, h1, _⟩ := H
  obtain ⟨hr, hb⟩ := h1 (by decide) (by decide)
  have h5 := hU.1
  have e0 : X.1 3 0 0 = nI a := hv 0 a rfl
  refine ⟨fun z => absurd z (by decide), fun z => absurd z (by decide), fun z => absurd z (by decide), fun z => absurd z (by decide), fun z => absurd z (by decide), fun z => absurd z (by decide), fun z => absurd z (by decide), fun _ _ _ _ _ _ _ => ⟨fun z => absurd (z.symm.trans hr) (fun z => nomatch z), fun q1 _ => ⟨fun z => absurd z (by decide), fun _ => ⟨5 * w + b, hr, by omega, vp_in_nI (n := 0) (by decide) (by decide), ?_⟩, fun z => absurd z (by decide), fun z => absurd z (by decide), fun _ z => absurd rfl z⟩⟩⟩
  rintro M16 rfl
  rw [show (0 : Int32).toNatClampNeg = 0 from rfl, e0]
  refine h _ ((TkX.rf w X).set (by omega)) ?_
  refine hX.bird (b := b) (by omega) h5 (fun f i k y => ?_) (put_r (by omega)) (put_r (by omega)) (fun b' y y2 => put_r (by omega)) ?_
  · rw [sI_n (by omega)]
  · obtain ⟨b1, b2, b3, b4, b5, b6, b7, b8, b9, b10⟩ := hX.2.2.2.2.2.2.2.2.2 b hb
    have es : sndL (put U (1 + b) 7 a) b = sndL U b := sndL_eq (pO (by omega)) (put_r (by omega))
    have ek : ∀ k, k ≠ 7 → put U (1 + b) 7 a (1 + b) k = U (1 + b) k := fun k _ => pO (by omega)
    unfold BX
    rw [es, put_r (a := 6) (by omega), pS, ek 0 (by decide), ek 1 (by decide), ek 2 (by decide), ek 3 (by decide), ek 4 (by decide), ek 5 (by decide), ek 6 (by decide), ek 8 (by decide), ek 9 (by decide), ek 10 (by decide), ek 11 (by decide), ek 12 (by decide), ek 13 (by decide)]
    refine ⟨?_, ?_, ?_, fun y => ?_, ?_, ?_, ?_, ?_, fun y => ?_, fun k i y => ?_⟩
    · simpa [sI] using b1
    · simpa [sI] using b2
    · simpa [sI] using b3
    · simpa [sI] using b4 y
    · simp [sI]
    · simpa [sI] using b6
    · simpa [sI] using b7
    · simpa [sI] using b8
    · simpa [sI] using b9 y
    · simpa [sI] using b10 k i y
theorem t10_take3 {U : Txt} {w b a : Nat} {X : Mem} (H : TkH U w 3 b [a] X) {Q : Mem → Prop} (h : ∀ Z, TkX w X Z → WXw (put U (1 + b) 8 a) w Z → Q Z) : b_X6_take_22 Q 3 X := by
  obtain ⟨hU, hw, h8, hX, hv, _, h1, _⟩ := H
  obtain ⟨hr, hb⟩ := h1 (by decide) (by decide)
  have h5 := hU.1
  have e0 : X.1 3 0 0 = nI a := hv 0 a rfl
  refine ⟨fun z => absurd z (by decide), fun z => absurd z (by decide), fun z => absurd z (by decide), fun z => absurd z (by decide), fun z => absurd z (by decide), fun z => absurd z (by decide), fun z => absurd z (by decide), fun _ _ _ _ _ _ _ => ⟨fun z => absurd (z.symm.trans hr) (fun z => nomatch z), fun q1 _ => ⟨fun z => absurd z (by decide), fun z => absurd z (by decide), fun _ => ⟨5 * w + b, hr, by omega, vp_in_nI (n := 0) (by decide) (by decide), ?_⟩, fun z => absurd z (by decide), fun _ _ z => absurd rfl z⟩⟩⟩
  rintro M16 rfl
  rw [show (0 : Int32).toNatClampNeg = 0 from rfl, e0]
  refine h _ ((TkX.rf w X).set (by omega)) ?_
  refine hX.bird (b := b) (by omega) h5 (fun f i k y => ?_) (put_r (by omega)) (put_r (by omega)) (fun b' y y2 => put_r (by omega)) ?_
  · rw [sI_n (by omega)]
  · obtain ⟨b1, b2, b3, b4, b5, b6, b7, b8, b9, b10⟩ := hX.2.2.2.2.2.2.2.2.2 b hb
    have es : sndL (put U (1 + b) 8 a) b = sndL U b := sndL_eq (pO (by omega)) (put_r (by omega))
    have ek : ∀ k, k ≠ 8 → put U (1 + b) 8 a (1 + b) k = U (1 + b) k := fun k _ => pO (by omega)
    unfold BX
    rw [es, put_r (a := 6) (by omega), pS, ek 0 (by decide), ek 1 (by decide), ek 2 (by decide), ek 3 (by decide), ek 4 (by decide), ek 5 (by decide), ek 6 (by decide), ek 7 (by decide), ek 9 (by decide), ek 10 (by decide), ek 11 (by decide), ek 12 (by decide), ek 13 (by decide)]
    refine ⟨?_, ?_, ?_, fun y => ?_, ?_, ?_, ?_, ?_, fun y => ?_, fun k i y => ?_⟩
    · simpa [sI] using b1
    · simpa [sI] using b2
    · simpa [sI] using b3
    · simpa [sI] using b4 y
    · simpa [sI] using b5
    · simp [sI]
    · simpa [sI] using b7
    · simpa [sI] using b8
    · simpa [sI] using b9 y
    · simpa [sI] using b10 k i y
theorem t10_take5 {U : Txt} {w b a c d : Nat} {X : Mem} (H : TkH U w 5 b [a, c, d] X) {Q : Mem → Prop} (h : ∀ Z, TkX w X Z → WXw (uPlace U b a c d) w Z → Q Z) : b_X6_take_22 Q 5 X := by
  obtain ⟨hU, hw, h8, hX, hv, _, h1, _⟩ := H
  obtain ⟨hr, hb⟩ := h1 (by decide) (by decide)
  have h5 := hU.1
  have e0 : X.1 3 0 0 = nI a := hv 0 a rfl
  have e1 : X.1 3 0 1 = nI c := hv 1 c rfl
  have e2 : X.1 3 0 2 = nI d := hv 2 d rfl
  refine ⟨fun z => absurd z (by decide), fun z => absurd z (by decide), fun z => absurd z (by decide), fun z => absurd z (by decide), fun z => absurd z (by decide), fun z => absurd z (by decide), fun z => absurd z (by decide), fun _ _ _ _ _ _ _ => ⟨fun z => absurd (z.symm.trans hr) (fun z => nomatch z), fun q1 _ => ⟨fun z => absurd z (by decide), fun z => absurd z (by decide), fun z => absurd z (by decide), fun z => absurd z (by decide), fun _ _ _ _ => ⟨5 * w + b, hr, by omega, ?_⟩⟩⟩⟩
  rintro M4 rfl
  refine ⟨5 * w + b, hr, by omega, vp_in_nI (n := 0) (by decide) (by decide), ?_⟩
  rintro M7 rfl
  refine ⟨5 * w + b, hr, by omega, vp_in_nI (n := 1) (by decide) (by decide), ?_⟩
  rintro M10 rfl
  refine ⟨5 * w + b, hr, by omega, vp_in_nI (n := 2) (by decide) (by decide), ?_⟩
  rintro M13 rfl
  rw [show (0 : Int32).toNatClampNeg = 0 from rfl, show (1 : Int32).toNatClampNeg = 1 from rfl, show (2 : Int32).toNatClampNeg = 2 from rfl, sI_n (by omega), sI_n (by omega), sI_n (by omega), sI_n (by omega), sI_n (by omega), sI_n (by omega), e0, e1, e2]
  refine h _ (((((TkX.rf w X).set (by omega)).set (by omega)).set (by omega)).set (by omega)) ?_
  refine hX.bird (b := b) (by omega) h5 (fun f i k y => ?_) ?_ ?_ (fun b' y y2 => ?_) ?_
  · rw [sI_n (by omega), sI_n (by omega), sI_n (by omega), sI_n (by omega)]
  · unfold uPlace; rw [put_r (by omega), put_r (by omega), put_r (by omega), put_r (by omega)]
  · unfold uPlace; rw [put_r (by omega), put_r (by omega), put_r (by omega), put_r (by omega)]
  · unfold uPlace; rw [put_r (by omega), put_r (by omega), put_r (by omega), put_r (by omega)]
  · obtain ⟨b1, b2, b3, b4, b5, b6, b7, b8, b9, b10⟩ := hX.2.2.2.2.2.2.2.2.2 b hb
    have e6 : uPlace U b a c d 6 = U 6 := by unfold uPlace; rw [put_r (by omega), put_r (by omega), put_r (by omega), put_r (by omega)]
    have ek : ∀ k, k < 10 → uPlace U b a c d (1 + b) k = U (1 + b) k := fun k _ => by
      unfold uPlace; rw [pO (by omega), pO (by omega), pO (by omega), pO (by omega)]
    have es : sndL (uPlace U b a c d) b = sndL U b := sndL_eq (by unfold uPlace; rw [put_r (by omega), put_r (by omega), put_r (by omega), put_r (by omega)]) e6
    unfold BX
    rw [es, e6, ek 0 (by decide), ek 1 (by decide), ek 2 (by decide), ek 3 (by decide), ek 4 (by decide), ek 5 (by decide), ek 6 (by decide), ek 7 (by decide), ek 8 (by decide), ek 9 (by decide)]
    refine ⟨?_, ?_, ?_, fun y => ?_, ?_, ?_, ?_, ?_, fun _ => ⟨?_, ?_, ?_⟩, fun k i y => ?_⟩
    · simpa [sI] using b1
    · simpa [sI] using b2
    · simpa [sI] using b3
    · simpa [sI] using b4 y
    · simpa [sI] using b5
    · simpa [sI] using b6
    · simpa [sI] using b7
    · simp [sI, uPlace, put]; rfl
    · simp [sI, uPlace, put]
    · simp [sI, uPlace, put]
    · simp [sI, uPlace, put]
    · simpa [sI] using b10 k i y
/-! what is sent -/
theorem snd_6 {U : Txt} {b a c i : Nat} (h : i < U 0 1) (hb : b < 5) (j : Nat) (hj : j < 3) : uSend U b a c 6 (3 * i + j) = U 6 (3 * i + j) := by
  unfold uSend; rw [pO (by omega), pO (by omega), pO (by omega), pO (by omega), pO (by omega)]
theorem snd_L {U : Txt} {b a c b' : Nat} (hb : b < 5) : sndL (uSend U b a c) b' = sndL U b' ++ (if b = b' then [U 0 1] else []) := by
  have e1 : uSend U b a c 0 1 = U 0 1 + 1 := by unfold uSend; rw [pO (by omega), pS]
  have en : uSend U b a c 6 (3 * U 0 1) = b := by unfold uSend; rw [pO (by omega), pO (by omega), pO (by omega), pO (by omega), pS]
  unfold sndL
  rw [e1, List.range_succ, List.filter_append]
  congr 1
  · refine List.filter_congr (fun i hi => ?_)
    have := snd_6 (U := U) (b := b) (a := a) (c := c) (List.mem_range.mp hi) hb 0 (by decide)
    rw [Nat.add_zero] at this
    rw [this]
  · rw [List.filter_cons, en, List.filter_nil]
    by_cases y : b = b'
    · rw [if_pos y, if_pos (by simpa using y)]
    · rw [if_neg y, if_neg (by simpa using y)]
theorem t10_take4 {U : Txt} {w b a c : Nat} {X : Mem} (H : TkH U w 4 b [a, c] X) (ha : a < 4) (hc : c < 64) {Q : Mem → Prop} (h : ∀ Z, TkX w X Z → WXw (uSend U b a c) w Z → Q Z) : b_X6_take_22 Q 4 X := by
  obtain ⟨hU, hw, h8, hX, hv, _, h1, h4⟩ := H
  have hn := h4 rfl
  obtain ⟨hr, hb⟩ := h1 (by decide) (by decide)
  have h5 := hU.1
  have e0 : X.1 3 0 0 = nI a := hv 0 a rfl
  have e1 : X.1 3 0 1 = nI c := hv 1 c rfl
  have hBX := hX.2.2.2.2.2.2.2.2.2
  obtain ⟨b1, b2, b3, b4, b5, b6, b7, b8, b9, b10⟩ := hBX b hb
  have hlen := (hU.2.2.2.2.2.2.2.2.2.2.2.2.1 b hb).2.2.2.2.2.2.2.2.2.1
  have hl2 := sndL_len U b
  obtain ⟨f1, f2, f3⟩ := frm_e a ha c hc
  refine ⟨fun z => absurd z (by decide), fun z => absurd z (by decide), fun z => absurd z (by decide), fun z => absurd z (by decide), fun z => absurd z (by decide), fun z => absurd z (by decide), fun z => absurd z (by decide), fun _ _ _ _ _ _ _ => ⟨fun z => absurd (z.symm.trans hr) (fun z => nomatch z), fun q1 _ => ⟨fun z => absurd z (by decide), fun z => absurd z (by decide), fun z => absurd z (by decide), fun _ => ⟨5 * w + b, hr, by omega, vp_in_nI (n := 0) (by decide) (by decide), vp_in_nI (n := 1) (by decide) (by decide), ?_⟩, fun _ _ _ z => absurd rfl z⟩⟩⟩
  rw [show (0 : Int32).toNatClampNeg = 0 from rfl, show (1 : Int32).toNatClampNeg = 1 from rfl, e0, e1]
  rintro x1 rfl
  rw [f1]
  refine t10_par ?_
  rw [par10_e _ (by omega), f2]
  unfold p_X0_addSubframe
  show (10 ≤ X.1 25 (5 * w + b) 14 → _) ∧ (¬ 10 ≤ X.1 25 (5 * w + b) 14 → vp_in (X.1 25 (5 * w + b) 14) 10 ∧ ∀ M2 : Mem, M2 = sI X 26 (5 * w + b) (X.1 25 (5 * w + b) 14).toNatClampNeg (nI (frmN a c)) → _)
  rw [b7, nI_clamp (by omega)]
  refine ⟨fun z => absurd z (nI_ge (b := 10) (by omega) (by decide)), fun _ => ⟨vp_in_nI (by omega) (by decide), ?_⟩⟩
  rintro M2 rfl M3 rfl
  refine ⟨w, h8, hw, ?_⟩
  rintro M38 rfl
  rw [sI_n (f := 26) (f' := 25) (by omega), b7, sI_n (f := 25) (f' := 23) (by omega), sI_n (f := 26) (f' := 23) (by omega), hX.2.1, nI_1, nI_1]
  refine h _ ((((TkX.rf w X).set (by omega)).set (by omega)).set (by omega)) ?_
  have u01 : uSend U b a c 0 1 = U 0 1 + 1 := by unfold uSend; rw [pO (by omega), pS]
  have u0 : ∀ k, k ≠ 1 → uSend U b a c 0 k = U 0 k := fun k hk => by unfold uSend; rw [pO (by omega), pO (by omega), pO (by omega), pO (by omega), pO (by omega)]
  have ur : ∀ b', b' ≠ b → b' < 5 → uSend U b a c (1 + b') = U (1 + b') := fun b' y y2 => by unfold uSend; rw [put_r (by omega), put_r (by omega), put_r (by omega), put_r (by omega), put_r (by omega)]
  have ub : ∀ k, k ≠ 9 → uSend U b a c (1 + b) k = U (1 + b) k := fun k hk => by unfold uSend; rw [pO (by omega), pO (by omega), pO (by omega), pO (by omega), pO (by omega)]
  have ub9 : uSend U b a c (1 + b) 9 = U (1 + b) 9 + 1 := by unfold uSend; exact pS
  obtain ⟨a1, a2, a3, a4, a5, a6, a7, a8, a9, a10⟩ := hX
  unfold WXw
  rw [u01, u0 0 (by decide), u0 2 (by decide), u0 3 (by decide), u0 4 (by decide), u0 5 (by decide), u0 6 (by decide), u0 7 (by decide), u0 8 (by decide), u0 9 (by decide), u0 10 (by decide), u0 11 (by decide)]
  refine ⟨?_, ?_, ?_, ?_, ?_, ?_, ?_, ?_, fun y => ?_, fun b' hb' => ?_⟩
  · simpa [sI] using a1
  · simp [sI]
  · simpa [sI] using a3
  · simpa [sI] using a4
  · simpa [sI] using a5
  · simpa [sI] using a6
  · simpa [sI] using a7
  · simpa [sI] using a8
  · simpa [sI] using a9 y
  · by_cases y : b' = b
    · subst y
      unfold BX
      rw [snd_L (by omega), if_pos rfl, ub9, ub 0 (by decide), ub 1 (by decide), ub 2 (by decide), ub 3 (by decide), ub 4 (by decide), ub 5 (by decide), ub 6 (by decide), ub 7 (by decide), ub 8 (by decide), ub 10 (by decide), ub 11 (by decide), ub 12 (by decide), ub 13 (by decide)]
      refine ⟨?_, ?_, ?_, fun y => ?_, ?_, ?_, ?_, ?_, fun y => ?_, fun k i y => ?_⟩
      · simpa [sI] using b1
      · simpa [sI] using b2
      · simpa [sI] using b3
      · simpa [sI] using b4 y
      · simpa [sI] using b5
      · simpa [sI] using b6
      · simp [sI]
      · simpa [sI] using b8
      · simpa [sI] using b9 y
      · rcases Nat.lt_or_ge k (sndL U b').length with q | q
        · rw [List.getElem?_append_left q] at y
          have hi := sndL_mem y
          rw [sI_n (by omega), sI_n (by omega), sI_n (by omega), snd_6 hi (by omega) 1 (by decide), snd_6 hi (by omega) 2 (by decide)]
          exact b10 k i y
        · rw [List.getElem?_append_right q] at y
          have hk : k = (sndL U b').length := by
            rcases Nat.eq_zero_or_pos (k - (sndL U b').length) with z | z
            · omega
            · obtain ⟨m, hm⟩ : ∃ m, k - (sndL U b').length = m + 1 := ⟨k - (sndL U b').length - 1, by omega⟩
              rw [hm] at y; exact absurd y (fun z => nomatch z)
          rw [hk, Nat.sub_self] at y
          have hi : U 0 1 = i := Option.some.inj y
          have v1 : uSend U b' a c 6 (3 * i + 1) = a := by rw [← hi]; unfold uSend; rw [pO (by omega), pO (by omega), pO (by omega), pS]
          have v2 : uSend U b' a c 6 (3 * i + 2) = c := by rw [← hi]; unfold uSend; rw [pO (by omega), pO (by omega), pS]
          rw [sI_n (by omega), sI_n (by omega), v1, v2, hk, hlen, sI_s]
    · refine (a10 b' hb').mv (fun k => ?_) (fun k => ?_) (ur b' y (by omega)) (fun k i z => ?_)
      · rw [sI_n (by omega), sI_n (by omega), sI_n (by omega)]
      · rw [sI_n (by omega), sI_n (by omega), sI_n (by omega)]
      · rw [snd_L (by omega), if_neg (by omega), List.append_nil] at z
        have hi := sndL_mem z
        exact ⟨z, snd_6 hi (by omega) 1 (by decide), snd_6 hi (by omega) 2 (by decide)⟩
/-! what is told once -/
theorem bx_home {U U' : Txt} {w : Nat} {X Z : Mem} (hZ : ∀ f i k, f ≠ 23 → Z.1 f i k = X.1 f i k) (h0 : U' 0 0 = U 0 0) (h1 : U' 0 1 = U 0 1) (hr : ∀ a, a ≠ 0 → U' a = U a) (H : WXw U w X) : ∀ b, b < U' 0 0 → BX U' b (5 * w + b) Z := by
  intro b hb
  refine (H.2.2.2.2.2.2.2.2.2 b (by omega)).mv (fun k => hZ _ _ _ (by decide)) (fun k => hZ _ _ _ (by decide)) (hr _ (by omega)) (fun k i z => ?_)
  rw [sndL_eq h1 (hr 6 (by decide))] at z
  exact ⟨z, by rw [hr 6 (by decide)], by rw [hr 6 (by decide)]⟩
theorem t10_take6 {U : Txt} {w b a c d e : Nat} {X : Mem} (H : TkH U w 6 b [a, c, d, e] X) {Q : Mem → Prop} (h : ∀ Z, TkX w X Z → WXw (uHome U a c d e) w Z → Q Z) : b_X6_take_22 Q 6 X := by
  obtain ⟨hU, hw, h8, hX, hv, _, _, _⟩ := H
  have e0 : X.1 3 0 0 = nI a := hv 0 a rfl
  have e1 : X.1 3 0 1 = nI c := hv 1 c rfl
  have e2 : X.1 3 0 2 = nI d := hv 2 d rfl
  have e3 : X.1 3 0 3 = nI e := hv 3 e rfl
  refine ⟨fun z => absurd z (by decide), fun _ => ⟨w, h8, hw, ?_⟩, fun z => absurd z (by decide), fun z => absurd z (by decide), fun z => absurd z (by decide), fun z => absurd z (by decide), fun z => absurd z (by decide), fun _ z => absurd rfl z⟩
  rintro M2 rfl
  refine ⟨w, h8, hw, vp_in_nI (n := 0) (by decide) (by decide), ?_⟩
  rintro M5 rfl
  refine ⟨w, h8, hw, vp_in_nI (n := 1) (by decide) (by decide), ?_⟩
  rintro M8 rfl
  refine ⟨w, h8, hw, vp_in_nI (n := 2) (by decide) (by decide), ?_⟩
  rintro M11 rfl
  refine ⟨w, h8, hw, vp_in_nI (n := 3) (by decide) (by decide), ?_⟩
  rintro M14 rfl
  rw [show (0 : Int32).toNatClampNeg = 0 from rfl, show (1 : Int32).toNatClampNeg = 1 from rfl, show (2 : Int32).toNatClampNeg = 2 from rfl, show (3 : Int32).toNatClampNeg = 3 from rfl]
  simp only [sI_n (f := 23) (f' := 3) (show ¬ (3 = 23 ∧ _) from fun z => absurd z.1 (by decide)), e0, e1, e2, e3]
  refine h _ ((((((TkX.rf w X).set (by omega)).set (by omega)).set (by omega)).set (by omega)).set (by omega)) ?_
  obtain ⟨a1, a2, a3, a4, a5, a6, a7, a8, a9, a10⟩ := hX
  have u0 : ∀ k, k < 7 → uHome U a c d e 0 k = U 0 k := fun k hk => by unfold uHome; rw [pO (by omega), pO (by omega), pO (by omega), pO (by omega), pO (by omega)]
  refine ⟨?_, ?_, ?_, ?_, ?_, ?_, ?_, ?_, fun _ => ⟨?_, ?_, ?_, ?_⟩, bx_home (U := U) (X := X) (fun f i k y => ?_) (u0 0 (by decide)) (u0 1 (by decide)) (fun a' y => ?_) ⟨a1, a2, a3, a4, a5, a6, a7, a8, a9, a10⟩⟩
  · rw [u0 0 (by decide)]; simpa [sI] using a1
  · rw [u0 1 (by decide)]; simpa [sI] using a2
  · rw [u0 2 (by decide)]; simpa [sI] using a3
  · rw [u0 3 (by decide)]; simpa [sI] using a4
  · rw [u0 4 (by decide)]; simpa [sI] using a5
  · rw [u0 5 (by decide)]; simpa [sI] using a6
  · rw [u0 6 (by decide)]; simpa [sI] using a7
  · simp [sI, uHome, put]; rfl
  · simp [sI, uHome, put]
  · simp [sI, uHome, put]
  · simp [sI, uHome, put]
  · simp [sI, uHome, put]
  · rw [sI_n (by omega), sI_n (by omega), sI_n (by omega), sI_n (by omega), sI_n (by omega)]
  · unfold uHome; rw [put_r y, put_r y, put_r y, put_r y, put_r y]
theorem t10_take7 {U : Txt} {w b a : Nat} {X : Mem} (H : TkH U w 7 b [a] X) {Q : Mem → Prop} (h : ∀ Z, TkX w X Z → WXw (put U 0 2 a) w Z → Q Z) : b_X6_take_22 Q 7 X := by
  obtain ⟨hU, hw, h8, hX, hv, _, _, _⟩ := H
  have e0 : X.1 3 0 0 = nI a := hv 0 a rfl
  refine ⟨fun z => absurd z (by decide), fun z => absurd z (by decide), fun _ => ⟨w, h8, hw, vp_in_nI (n := 0) (by decide) (by decide), ?_⟩, fun z => absurd z (by decide), fun z => absurd z (by decide), fun z => absurd z (by decide), fun z => absurd z (by decide), fun _ _ z _ _ _ _ => absurd rfl z⟩
  rintro M2 rfl
  rw [show (0 : Int32).toNatClampNeg = 0 from rfl, e0]
  refine h _ ((TkX.rf w X).set (by omega)) ?_
  obtain ⟨a1, a2, a3, a4, a5, a6, a7, a8, a9, a10⟩ := hX
  refine ⟨?_, ?_, ?_, ?_, ?_, ?_, ?_, ?_, fun y => ?_, bx_home (U := U) (X := X) (fun f i k y => sI_n (by omega)) (pO (by omega)) (pO (by omega)) (fun a' y => put_r y) ⟨a1, a2, a3, a4, a5, a6, a7, a8, a9, a10⟩⟩
  · rw [pO (by omega)]; simpa [sI] using a1
  · rw [pO (by omega)]; simpa [sI] using a2
  · rw [pS]; simp [sI]
  · rw [pO (by omega)]; simpa [sI] using a4
  · rw [pO (by omega)]; simpa [sI] using a5
  · rw [pO (by omega)]; simpa [sI] using a6
  · rw [pO (by omega)]; simpa [sI] using a7
  · rw [pO (by omega)]; simpa [sI] using a8
  · rw [pO (by omega)] at y
    rw [pO (by omega), pO (by omega), pO (by omega), pO (by omega)]
    simpa [sI] using a9 y
theorem t10_take8 {U : Txt} {w b a : Nat} {X : Mem} (H : TkH U w 8 b [a] X) {Q : Mem → Prop} (h : ∀ Z, TkX w X Z → WXw (put U 0 3 a) w Z → Q Z) : b_X6_take_22 Q 8 X := by
  obtain ⟨hU, hw, h8, hX, hv, _, _, _⟩ := H
  have e0 : X.1 3 0 0 = nI a := hv 0 a rfl
  refine ⟨fun z => absurd z (by decide), fun z => absurd z (by decide), fun z => absurd z (by decide), fun _ => ⟨w, h8, hw, vp_in_nI (n := 0) (by decide) (by decide), ?_⟩, fun z => absurd z (by decide), fun z => absurd z (by decide), fun z => absurd z (by decide), fun _ _ _ z _ _ _ => absurd rfl z⟩
  rintro M2 rfl
  rw [show (0 : Int32).toNatClampNeg = 0 from rfl, e0]
  refine h _ ((TkX.rf w X).set (by omega)) ?_
  obtain ⟨a1, a2, a3, a4, a5, a6, a7, a8, a9, a10⟩ := hX
  refine ⟨?_, ?_, ?_, ?_, ?_, ?_, ?_, ?_, fun y => ?_, bx_home (U := U) (X := X) (fun f i k y => sI_n (by omega)) (pO (by omega)) (pO (by omega)) (fun a' y => put_r y) ⟨a1, a2, a3, a4, a5, a6, a7, a8, a9, a10⟩⟩
  · rw [pO (by omega)]; simpa [sI] using a1
  · rw [pO (by omega)]; simpa [sI] using a2
  · rw [pO (by omega)]; simpa [sI] using a3
  · rw [pS]; simp [sI]
  · rw [pO (by omega)]; simpa [sI] using a5
  · rw [pO (by omega)]; simpa [sI] using a6
  · rw [pO (by omega)]; simpa [sI] using a7
  · rw [pO (by omega)]; simpa [sI] using a8
  · rw [pO (by omega)] at y
    rw [pO (by omega), pO (by omega), pO (by omega), pO (by omega)]
    simpa [sI] using a9 y
theorem t10_take9 {U : Txt} {w b a : Nat} {X : Mem} (H : TkH U w 9 b [a] X) {Q : Mem → Prop} (h : ∀ Z, TkX w X Z → WXw (put U 0 4 a) w Z → Q Z) : b_X6_take_22 Q 9 X := by
  obtain ⟨hU, hw, h8, hX, hv, _, _, _⟩ := H
  have e0 : X.1 3 0 0 = nI a := hv 0 a rfl
  refine ⟨fun z => absurd z (by decide), fun z => absurd z (by decide), fun z => absurd z (by decide), fun z => absurd z (by decide), fun _ => ⟨w, h8, hw, vp_in_nI (n := 0) (by decide) (by decide), ?_⟩, fun z => absurd z (by decide), fun z => absurd z (by decide), fun _ _ _ _ z _ _ => absurd rfl z⟩
  rintro M2 rfl
  rw [show (0 : Int32).toNatClampNeg = 0 from rfl, e0]
  refine h _ ((TkX.rf w X).set (by omega)) ?_
  obtain ⟨a1, a2, a3, a4, a5, a6, a7, a8, a9, a10⟩ := hX
  refine ⟨?_, ?_, ?_, ?_, ?_, ?_, ?_, ?_, fun y => ?_, bx_home (U := U) (X := X) (fun f i k y => sI_n (by omega)) (pO (by omega)) (pO (by omega)) (fun a' y => put_r y) ⟨a1, a2, a3, a4, a5, a6, a7, a8, a9, a10⟩⟩
  · rw [pO (by omega)]; simpa [sI] using a1
  · rw [pO (by omega)]; simpa [sI] using a2
  · rw [pO (by omega)]; simpa [sI] using a3
  · rw [pO (by omega)]; simpa [sI] using a4
  · rw [pS]; simp [sI]
  · rw [pO (by omega)]; simpa [sI] using a6
  · rw [pO (by omega)]; simpa [sI] using a7
  · rw [pO (by omega)]; simpa [sI] using a8
  · rw [pO (by omega)] at y
    rw [pO (by omega), pO (by omega), pO (by omega), pO (by omega)]
    simpa [sI] using a9 y
theorem t10_take10 {U : Txt} {w b a : Nat} {X : Mem} (H : TkH U w 10 b [a] X) {Q : Mem → Prop} (h : ∀ Z, TkX w X Z → WXw (put U 0 5 a) w Z → Q Z) : b_X6_take_22 Q 10 X := by
  obtain ⟨hU, hw, h8, hX, hv, _, _, _⟩ := H
  have e0 : X.1 3 0 0 = nI a := hv 0 a rfl
  refine ⟨fun z => absurd z (by decide), fun z => absurd z (by decide), fun z => absurd z (by decide), fun z => absurd z (by decide), fun z => absurd z (by decide), fun _ => ⟨w, h8, hw, vp_in_nI (n := 0) (by decide) (by decide), ?_⟩, fun z => absurd z (by decide), fun _ _ _ _ _ z _ => absurd rfl z⟩
  rintro M2 rfl
  rw [show (0 : Int32).toNatClampNeg = 0 from rfl, e0]
  refine h _ ((TkX.rf w X).set (by omega)) ?_
  obtain ⟨a1, a2, a3, a4, a5, a6, a7, a8, a9, a10⟩ := hX
  refine ⟨?_, ?_, ?_, ?_, ?_, ?_, ?_, ?_, fun y => ?_, bx_home (U := U) (X := X) (fun f i k y => sI_n (by omega)) (pO (by omega)) (pO (by omega)) (fun a' y => put_r y) ⟨a1, a2, a3, a4, a5, a6, a7, a8, a9, a10⟩⟩
  · rw [pO (by omega)]; simpa [sI] using a1
  · rw [pO (by omega)]; simpa [sI] using a2
  · rw [pO (by omega)]; simpa [sI] using a3
  · rw [pO (by omega)]; simpa [sI] using a4
  · rw [pO (by omega)]; simpa [sI] using a5
  · rw [pS]; simp [sI]
  · rw [pO (by omega)]; simpa [sI] using a7
  · rw [pO (by omega)]; simpa [sI] using a8
  · rw [pO (by omega)] at y
    rw [pO (by omega), pO (by omega), pO (by omega), pO (by omega)]
    simpa [sI] using a9 y
theorem t10_take11 {U : Txt} {w b a : Nat} {X : Mem} (H : TkH U w 11 b [a] X) {Q : Mem → Prop} (h : ∀ Z, TkX w X Z → WXw (put U 0 6 a) w Z → Q Z) : b_X6_take_22 Q 11 X := by
  obtain ⟨hU, hw, h8, hX, hv, _, _, _⟩ := H
  have e0 : X.1 3 0 0 = nI a := hv 0 a rfl
  refine ⟨fun z => absurd z (by decide), fun z => absurd z (by decide), fun z => absurd z (by decide), fun z => absurd z (by decide), fun z => absurd z (by decide), fun z => absurd z (by decide), fun _ => ⟨w, h8, hw, vp_in_nI (n := 0) (by decide) (by decide), ?_⟩, fun _ _ _ _ _ _ z => absurd rfl z⟩
  rintro M2 rfl
  rw [show (0 : Int32).toNatClampNeg = 0 from rfl, e0]
  refine h _ ((TkX.rf w X).set (by omega)) ?_
  obtain ⟨a1, a2, a3, a4, a5, a6, a7, a8, a9, a10⟩ := hX
  refine ⟨?_, ?_, ?_, ?_, ?_, ?_, ?_, ?_, fun y => ?_, bx_home (U := U) (X := X) (fun f i k y => sI_n (by omega)) (pO (by omega)) (pO (by omega)) (fun a' y => put_r y) ⟨a1, a2, a3, a4, a5, a6, a7, a8, a9, a10⟩⟩
  · rw [pO (by omega)]; simpa [sI] using a1
  · rw [pO (by omega)]; simpa [sI] using a2
  · rw [pO (by omega)]; simpa [sI] using a3
  · rw [pO (by omega)]; simpa [sI] using a4
  · rw [pO (by omega)]; simpa [sI] using a5
  · rw [pO (by omega)]; simpa [sI] using a6
  · rw [pS]; simp [sI]
  · rw [pO (by omega)]; simpa [sI] using a8
  · rw [pO (by omega)] at y
    rw [pO (by omega), pO (by omega), pO (by omega), pO (by omega)]
    simpa [sI] using a9 y
