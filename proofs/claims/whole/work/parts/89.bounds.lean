/-! the numbers stay in their ranges -/
theorem TB.bird {U U' : Txt} {b : Nat} (h : TB U) (h0 : U' 0 = U 0) (h6 : U' 6 = U 6) (hr : ∀ b', b' ≠ b → b' < 5 → U' (1 + b') = U (1 + b')) (hB : TBb U' b) : TB U' := by
  have h5 := h.1
  unfold TB at h ⊢
  rw [h0, h6]
  obtain ⟨a1, a2, a3, a4, a5, a6, a7, a8, a9, a10, a11, a12, a13, a14⟩ := h
  refine ⟨a1, a2, a3, a4, a5, a6, a7, a8, a9, a10, a11, a12, fun b' hb' => ?_, a14⟩
  by_cases y : b' = b
  · rw [y]; exact hB
  · have := a13 b' hb'
    unfold TBb at this ⊢
    rw [hr b' y (by omega), sndL_eq (by rw [h0]) h6]
    exact this
theorem TB.home {U U' : Txt} (h : TB U) (h0 : U' 0 0 = U 0 0) (h1 : U' 0 1 = U 0 1) (hr : ∀ a, a ≠ 0 → U' a = U a) (hh : (1 ≤ U' 0 2 ∧ U' 0 2 < 32) ∧ (1 ≤ U' 0 3 ∧ U' 0 3 < 32) ∧ U' 0 4 < 100 ∧ U' 0 5 < 100000 ∧ (10 ≤ U' 0 6 ∧ U' 0 6 < 100) ∧ U' 0 7 < 2 ∧ U' 0 8 < 16 ∧ U' 0 9 < 16 ∧ U' 0 10 < 16 ∧ U' 0 11 < 21) : TB U' := by
  unfold TB at h ⊢
  rw [h0, h1, hr 6 (by decide)]
  obtain ⟨a1, a2, a3, a4, a5, a6, a7, a8, a9, a10, a11, a12, a13, a14⟩ := h
  obtain ⟨c3, c4, c5, c6, c7, c8, c9, c10, c11, c12⟩ := hh
  refine ⟨a1, a2, c3, c4, c5, c6, c7, c8, c9, c10, c11, c12, fun b' hb' => ?_, a14⟩
  have := a13 b' hb'
  unfold TBb at this ⊢
  rw [hr (1 + b') (by omega), sndL_eq h1 (hr 6 (by decide))]
  exact this
theorem tbU_0 {U : Txt} {b a : Nat} (h : TB U) (hn : U 0 0 < 5) (hb : b < 2 ^ 30) (ha : a ≤ 30) : TB (uBird U b a) := by
  have e00 : uBird U b a 0 0 = U 0 0 + 1 := pS
  have e0k : ∀ k, k ≠ 0 → uBird U b a 0 k = U 0 k := fun k hk => by unfold uBird; rw [pO (by omega)]; exact if_neg (by omega)
  have e6 : uBird U b a 6 = U 6 := by funext c; unfold uBird; rw [pO (by omega)]; exact if_neg (by omega)
  have er : ∀ b', b' ≠ U 0 0 → uBird U b a (1 + b') = U (1 + b') := fun b' hb' => by funext c; unfold uBird; rw [pO (by omega)]; exact if_neg (by omega)
  have en : ∀ c, uBird U b a (1 + U 0 0) c = (if c = 0 then b else if c = 1 then a else 0) := fun c => by unfold uBird; rw [pO (by omega)]; exact if_pos rfl
  have es : ∀ b', sndL (uBird U b a) b' = sndL U b' := fun b' => sndL_eq (e0k 1 (by decide)) e6
  unfold TB at h ⊢
  rw [e00, e6, e0k 1 (by decide), e0k 2 (by decide), e0k 3 (by decide), e0k 4 (by decide), e0k 5 (by decide), e0k 6 (by decide), e0k 7 (by decide), e0k 8 (by decide), e0k 9 (by decide), e0k 10 (by decide), e0k 11 (by decide)]
  obtain ⟨a1, a2, a3, a4, a5, a6, a7, a8, a9, a10, a11, a12, a13, a14⟩ := h
  refine ⟨by omega, a2, a3, a4, a5, a6, a7, a8, a9, a10, a11, a12, fun b' hb' => ?_, fun i hi => ⟨by have := (a14 i hi).1; omega, (a14 i hi).2⟩⟩
  by_cases y : b' = U 0 0
  · subst y
    have hl : (sndL U (U 0 0)).length = 0 := by
      unfold sndL
      rw [List.length_eq_zero_iff, List.filter_eq_nil_iff]
      intro i hi
      have := (a14 i (List.mem_range.mp hi)).1
      simp; omega
    unfold TBb
    simp only [en, es, hl]
    refine ⟨?_, ?_, ?_, ?_, ?_, ?_, ?_, ?_, ?_, ?_, ?_, ?_, ?_, ?_, ?_⟩ <;> simp <;> omega
  · have := a13 b' (by omega)
    unfold TBb at this ⊢
    rw [er b' y, es]
    exact this
theorem tbU_1 {U : Txt} {b a c d e : Nat} (h : TB U) (hb : b < U 0 0) (ha : a ≤ 61) (hc : c ≤ 14) (hd : d ≤ 15) (he : 1 ≤ e ∧ e ≤ 9) : TB (uHear U b a c d e) := by
  have h5 := h.1
  have e6 : uHear U b a c d e 6 = U 6 := by unfold uHear; rw [put_r (by omega), put_r (by omega), put_r (by omega), put_r (by omega), put_r (by omega)]
  have e0 : uHear U b a c d e 0 = U 0 := by unfold uHear; rw [put_r (by omega), put_r (by omega), put_r (by omega), put_r (by omega), put_r (by omega)]
  refine h.bird (b := b) e0 e6 (fun b' y y2 => ?_) ?_
  · unfold uHear; rw [put_r (by omega), put_r (by omega), put_r (by omega), put_r (by omega), put_r (by omega)]
  · have ek : ∀ k, k ≠ 2 → k ≠ 3 → k ≠ 4 → k ≠ 5 → k ≠ 6 → uHear U b a c d e (1 + b) k = U (1 + b) k := fun k _ _ _ _ _ => by
      unfold uHear; rw [pO (by omega), pO (by omega), pO (by omega), pO (by omega), pO (by omega)]
    have k2 : uHear U b a c d e (1 + b) 2 = 1 := by simp [uHear, put]
    have k3 : uHear U b a c d e (1 + b) 3 = a := by simp [uHear, put]
    have k4 : uHear U b a c d e (1 + b) 4 = c := by simp [uHear, put]
    have k5 : uHear U b a c d e (1 + b) 5 = d := by simp [uHear, put]
    have k6 : uHear U b a c d e (1 + b) 6 = e := by simp [uHear, put]
    have es : sndL (uHear U b a c d e) b = sndL U b := sndL_eq (by rw [e0]) e6
    have := h.2.2.2.2.2.2.2.2.2.2.2.2.1 b hb
    unfold TBb at this ⊢
    rw [es, k2, k3, k4, k5, k6, ek 0 (by decide) (by decide) (by decide) (by decide) (by decide), ek 1 (by decide) (by decide) (by decide) (by decide) (by decide), ek 7 (by decide) (by decide) (by decide) (by decide) (by decide), ek 8 (by decide) (by decide) (by decide) (by decide) (by decide), ek 9 (by decide) (by decide) (by decide) (by decide) (by decide), ek 10 (by decide) (by decide) (by decide) (by decide) (by decide), ek 11 (by decide) (by decide) (by decide) (by decide) (by decide), ek 12 (by decide) (by decide) (by decide) (by decide) (by decide), ek 13 (by decide) (by decide) (by decide) (by decide) (by decide)]
    omega
theorem tbU_2 {U : Txt} {b a : Nat} (h : TB U) (hb : b < U 0 0) (ha : a ≤ 20) : TB (put U (1 + b) 7 a) := by
  have h5 := h.1
  refine h.bird (b := b) (put_r (by omega)) (put_r (by omega)) (fun b' y y2 => put_r (by omega)) ?_
  have es : sndL (put U (1 + b) 7 a) b = sndL U b := sndL_eq (pO (by omega)) (put_r (by omega))
  have ek : ∀ k, k ≠ 7 → put U (1 + b) 7 a (1 + b) k = U (1 + b) k := fun k _ => pO (by omega)
  have := h.2.2.2.2.2.2.2.2.2.2.2.2.1 b hb
  unfold TBb at this ⊢
  rw [es, pS, ek 0 (by decide), ek 1 (by decide), ek 2 (by decide), ek 3 (by decide), ek 4 (by decide), ek 5 (by decide), ek 6 (by decide), ek 8 (by decide), ek 9 (by decide), ek 10 (by decide), ek 11 (by decide), ek 12 (by decide), ek 13 (by decide)]
  omega
theorem tbU_3 {U : Txt} {b a : Nat} (h : TB U) (hb : b < U 0 0) (ha : a ≤ 199) : TB (put U (1 + b) 8 a) := by
  have h5 := h.1
  refine h.bird (b := b) (put_r (by omega)) (put_r (by omega)) (fun b' y y2 => put_r (by omega)) ?_
  have es : sndL (put U (1 + b) 8 a) b = sndL U b := sndL_eq (pO (by omega)) (put_r (by omega))
  have ek : ∀ k, k ≠ 8 → put U (1 + b) 8 a (1 + b) k = U (1 + b) k := fun k _ => pO (by omega)
  have := h.2.2.2.2.2.2.2.2.2.2.2.2.1 b hb
  unfold TBb at this ⊢
  rw [es, pS, ek 0 (by decide), ek 1 (by decide), ek 2 (by decide), ek 3 (by decide), ek 4 (by decide), ek 5 (by decide), ek 6 (by decide), ek 7 (by decide), ek 9 (by decide), ek 10 (by decide), ek 11 (by decide), ek 12 (by decide), ek 13 (by decide)]
  omega
theorem tbU_5 {U : Txt} {b a c d : Nat} (h : TB U) (hb : b < U 0 0) (ha : a ≤ 15) (hc : c ≤ 15) (hd : d ≤ 15) : TB (uPlace U b a c d) := by
  have h5 := h.1
  have e6 : uPlace U b a c d 6 = U 6 := by unfold uPlace; rw [put_r (by omega), put_r (by omega), put_r (by omega), put_r (by omega)]
  have e0 : uPlace U b a c d 0 = U 0 := by unfold uPlace; rw [put_r (by omega), put_r (by omega), put_r (by omega), put_r (by omega)]
  refine h.bird (b := b) e0 e6 (fun b' y y2 => ?_) ?_
  · unfold uPlace; rw [put_r (by omega), put_r (by omega), put_r (by omega), put_r (by omega)]
  · have ek : ∀ k, k < 10 → uPlace U b a c d (1 + b) k = U (1 + b) k := fun k _ => by
      unfold uPlace; rw [pO (by omega), pO (by omega), pO (by omega), pO (by omega)]
    have k2 : uPlace U b a c d (1 + b) 10 = 1 := by simp [uPlace, put]
    have k3 : uPlace U b a c d (1 + b) 11 = a := by simp [uPlace, put]
    have k4 : uPlace U b a c d (1 + b) 12 = c := by simp [uPlace, put]
    have k5 : uPlace U b a c d (1 + b) 13 = d := by simp [uPlace, put]
    have es : sndL (uPlace U b a c d) b = sndL U b := sndL_eq (by rw [e0]) e6
    have := h.2.2.2.2.2.2.2.2.2.2.2.2.1 b hb
    unfold TBb at this ⊢
    rw [es, k2, k3, k4, k5, ek 0 (by decide), ek 1 (by decide), ek 2 (by decide), ek 3 (by decide), ek 4 (by decide), ek 5 (by decide), ek 6 (by decide), ek 7 (by decide), ek 8 (by decide), ek 9 (by decide)]
    omega
theorem tbU_4 {U : Txt} {b a c : Nat} (h : TB U) (hb : b < U 0 0) (hn : U 0 1 < 10) (ha : a ≤ 3) (hc : c ≤ 63) : TB (uSend U b a c) := by
  have h5 := h.1
  have u01 : uSend U b a c 0 1 = U 0 1 + 1 := by unfold uSend; rw [pO (by omega), pS]
  have u0 : ∀ k, k ≠ 1 → uSend U b a c 0 k = U 0 k := fun k hk => by unfold uSend; rw [pO (by omega), pO (by omega), pO (by omega), pO (by omega), pO (by omega)]
  have ur : ∀ b', b' ≠ b → b' < 5 → uSend U b a c (1 + b') = U (1 + b') := fun b' y y2 => by unfold uSend; rw [put_r (by omega), put_r (by omega), put_r (by omega), put_r (by omega), put_r (by omega)]
  have ub : ∀ k, k ≠ 9 → uSend U b a c (1 + b) k = U (1 + b) k := fun k hk => by unfold uSend; rw [pO (by omega), pO (by omega), pO (by omega), pO (by omega), pO (by omega)]
  have ub9 : uSend U b a c (1 + b) 9 = U (1 + b) 9 + 1 := by unfold uSend; exact pS
  unfold TB at h ⊢
  rw [u01, u0 0 (by decide), u0 2 (by decide), u0 3 (by decide), u0 4 (by decide), u0 5 (by decide), u0 6 (by decide), u0 7 (by decide), u0 8 (by decide), u0 9 (by decide), u0 10 (by decide), u0 11 (by decide)]
  obtain ⟨a1, a2, a3, a4, a5, a6, a7, a8, a9, a10, a11, a12, a13, a14⟩ := h
  refine ⟨a1, by omega, a3, a4, a5, a6, a7, a8, a9, a10, a11, a12, fun b' hb' => ?_, fun i hi => ?_⟩
  · have t := a13 b' hb'
    by_cases y : b' = b
    · subst y
      unfold TBb at t ⊢
      rw [snd_L (by omega), if_pos rfl, List.length_append, ub9, ub 0 (by decide), ub 1 (by decide), ub 2 (by decide), ub 3 (by decide), ub 4 (by decide), ub 5 (by decide), ub 6 (by decide), ub 7 (by decide), ub 8 (by decide), ub 10 (by decide), ub 11 (by decide), ub 12 (by decide), ub 13 (by decide)]
      have : [U 0 1].length = 1 := rfl
      omega
    · unfold TBb at t ⊢
      rw [snd_L (by omega), if_neg (by omega), List.append_nil, ur b' y (by omega)]
      exact t
  · rcases Nat.lt_or_ge i (U 0 1) with y | y
    · have := snd_6 (U := U) (b := b) (a := a) (c := c) y (by omega) 0 (by decide)
      rw [Nat.add_zero] at this
      rw [this, snd_6 y (by omega) 1 (by decide), snd_6 y (by omega) 2 (by decide)]
      exact a14 i y
    · have e : i = U 0 1 := by omega
      have v0 : uSend U b a c 6 (3 * i) = b := by rw [e]; unfold uSend; rw [pO (by omega), pO (by omega), pO (by omega), pO (by omega), pS]
      have v1 : uSend U b a c 6 (3 * i + 1) = a := by rw [e]; unfold uSend; rw [pO (by omega), pO (by omega), pO (by omega), pS]
      have v2 : uSend U b a c 6 (3 * i + 2) = c := by rw [e]; unfold uSend; rw [pO (by omega), pO (by omega), pS]
      rw [v0, v1, v2]
      omega
theorem tbU_6 {U : Txt} {a c d e : Nat} (h : TB U) (ha : a ≤ 15) (hc : c ≤ 15) (hd : d ≤ 15) (he : e ≤ 20) : TB (uHome U a c d e) := by
  have u0 : ∀ k, k < 7 → uHome U a c d e 0 k = U 0 k := fun k hk => by unfold uHome; rw [pO (by omega), pO (by omega), pO (by omega), pO (by omega), pO (by omega)]
  have k2 : uHome U a c d e 0 7 = 1 := by simp [uHome, put]
  have k3 : uHome U a c d e 0 8 = a := by simp [uHome, put]
  have k4 : uHome U a c d e 0 9 = c := by simp [uHome, put]
  have k5 : uHome U a c d e 0 10 = d := by simp [uHome, put]
  have k6 : uHome U a c d e 0 11 = e := by simp [uHome, put]
  refine h.home (u0 0 (by decide)) (u0 1 (by decide)) (fun a' y => ?_) ?_
  · unfold uHome; rw [put_r y, put_r y, put_r y, put_r y, put_r y]
  · rw [k2, k3, k4, k5, k6, u0 2 (by decide), u0 3 (by decide), u0 4 (by decide), u0 5 (by decide), u0 6 (by decide)]
    obtain ⟨a1, a2, a3, a4, a5, a6, a7, a8, a9, a10, a11, a12, a13, a14⟩ := h
    omega
theorem tbU_7 {U : Txt} {k a lo hi : Nat} (h : TB U) (hk : k = 7 ∨ k = 8 ∨ k = 9 ∨ k = 10 ∨ k = 11) (hr : (rg k)[0]? = some (lo, hi)) (ha : lo ≤ a ∧ a ≤ hi) : TB (put U 0 (k - 5) a) := by
  obtain ⟨a1, a2, a3, a4, a5, a6, a7, a8, a9, a10, a11, a12, a13, a14⟩ := id h
  refine h.home (pO (by omega)) (pO (by omega)) (fun a' y => put_r y) ?_
  rcases hk with rfl | rfl | rfl | rfl | rfl
  · have e : ((1, 31) : Nat × Nat) = (lo, hi) := Option.some.inj hr
    have e1 : 1 = lo := congrArg Prod.fst e
    have e2 : 31 = hi := congrArg Prod.snd e
    show _ ∧ _; simp only [put]; simp; omega
  · have e : ((1, 31) : Nat × Nat) = (lo, hi) := Option.some.inj hr
    have e1 : 1 = lo := congrArg Prod.fst e
    have e2 : 31 = hi := congrArg Prod.snd e
    show _ ∧ _; simp only [put]; simp; omega
  · have e : ((0, 99) : Nat × Nat) = (lo, hi) := Option.some.inj hr
    have e1 : 0 = lo := congrArg Prod.fst e
    have e2 : 99 = hi := congrArg Prod.snd e
    show _ ∧ _; simp only [put]; simp; omega
  · have e : ((0, 99999) : Nat × Nat) = (lo, hi) := Option.some.inj hr
    have e1 : 0 = lo := congrArg Prod.fst e
    have e2 : 99999 = hi := congrArg Prod.snd e
    show _ ∧ _; simp only [put]; simp; omega
  · have e : ((10, 99) : Nat × Nat) = (lo, hi) := Option.some.inj hr
    have e1 : 10 = lo := congrArg Prod.fst e
    have e2 : 99 = hi := congrArg Prod.snd e
    show _ ∧ _; simp only [put]; simp; omega
