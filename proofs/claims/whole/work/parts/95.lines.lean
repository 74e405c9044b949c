theorem midS_ok {B : Nat → Nat} {N : Nat} {U : Txt} {O : Nat → Bool} {k p : Nat} (hp : p ≤ N) {R : Txt × (Nat → Bool) × Nat} (h : midS B N U O k p = .inr R) : R.2.2 ≤ N := by
  have p1 := (tkE_le (B := B) hp).2
  have p2 := (tkE_le (B := B) p1).2
  have tl : ∀ b q, q ≤ N → tailM B N U O k b q = .inr R → R.2.2 ≤ N := by
    intro b q hq h
    unfold tailM at h
    cases e : rd B N (rg k) q with
    | inl x => simp only [e] at h; exact absurd h (fun z => nomatch z)
    | inr y =>
      simp only [e] at h
      rw [← Sum.inr.inj h]
      exact (rd_ok (rg k) q y.1 y.2 hq e).2.1
  unfold midS at h
  split at h
  · exact absurd h (fun z => nomatch z)
  · split at h
    · exact absurd h (fun z => nomatch z)
    · split at h
      · cases e : nmS B N U k (tkE B N p) with
        | inl x => simp only [e] at h; exact absurd h (fun z => nomatch z)
        | inr b => simp only [e] at h; exact tl b _ p2 h
      · exact tl 0 _ p1 h
theorem t11_line {U : Txt} {O : Nat → Bool} {B : Nat → Nat} {N p : Nat} (hB : TxB B N) (hU : TB U) (hp : p ≤ N) {Y : Mem} (hS : LnY U O B N p Y) {Q : Int32 → Mem → Prop} (h : LineY B N (lineS B N U O p) Y Q) : p_X11_lineRead Y Q := by
  have hKl := kd_le (B := B) (N := N) (p := p) (W := tkW B N p)
  unfold p_X11_lineRead
  rw [hS.2.2.2.1]
  refine ⟨fun z => ?_, fun z => ?_⟩
  · have kK := kd_1.mp ((nI_eq (b := 1) (by omega) (by decide)).mp z)
    have h9 : Y.1 40 0 9 = nI (wI (tkW B N p)) := by have := hS.2.2.2.2.1 kK.1; rw [if_pos kK.2] at this; exact this
    have e : lineS B N U O p = bodyS B N U O (wI (tkW B N p)) p := by unfold lineS; rw [if_pos kK]
    rw [e] at h
    rintro x2 rfl
    rw [h9]
    have h9' := h9
    revert h h9'
    have hk := kK.2
    clear e h9 kK z
    revert hk
    generalize wI (tkW B N p) = k
    intro hk h h9
    have h' := t11_130 hB hk hU hp (fun R e => midS_ok hp e) h
    have : k = 0 ∨ k = 1 ∨ k = 2 ∨ k = 3 ∨ k = 4 ∨ k = 5 ∨ k = 6 ∨ k = 7 ∨ k = 8 ∨ k = 9 ∨ k = 10 ∨ k = 11 := by omega
    rcases this with rfl | rfl | rfl | rfl | rfl | rfl | rfl | rfl | rfl | rfl | rfl | rfl
    · exact ⟨fun _ => t11_birdL hB hU hp hS h', fun z => absurd z (by decide), fun z => absurd z (by decide), fun z => absurd z (by decide), fun z => absurd z (by decide), fun z => absurd z (by decide), fun z => absurd z (by decide), fun z => absurd rfl z⟩
    · exact ⟨fun z => absurd z (by decide), fun _ => t11_heardL hB hU hp hS h', fun z => absurd z (by decide), fun z => absurd z (by decide), fun z => absurd z (by decide), fun z => absurd z (by decide), fun z => absurd z (by decide), fun _ z => absurd rfl z⟩
    · exact ⟨fun z => absurd z (by decide), fun z => absurd z (by decide), fun _ => t11_oneL (k := 2) (hi := 20) hB hU (Or.inl ⟨rfl, rfl⟩) hp hS h', fun z => absurd z (by decide), fun z => absurd z (by decide), fun z => absurd z (by decide), fun z => absurd z (by decide), fun _ _ z => absurd rfl z⟩
    · exact ⟨fun z => absurd z (by decide), fun z => absurd z (by decide), fun z => absurd z (by decide), fun _ => t11_oneL (k := 3) (hi := 199) hB hU (Or.inr ⟨rfl, rfl⟩) hp hS h', fun z => absurd z (by decide), fun z => absurd z (by decide), fun z => absurd z (by decide), fun _ _ _ z => absurd rfl z⟩
    · exact ⟨fun z => absurd z (by decide), fun z => absurd z (by decide), fun z => absurd z (by decide), fun z => absurd z (by decide), fun _ => t11_sendL hB hU hp hS h', fun z => absurd z (by decide), fun z => absurd z (by decide), fun _ _ _ _ z => absurd rfl z⟩
    · exact ⟨fun z => absurd z (by decide), fun z => absurd z (by decide), fun z => absurd z (by decide), fun z => absurd z (by decide), fun z => absurd z (by decide), fun _ => t11_placeL hB hU hp hS h', fun z => absurd z (by decide), fun _ _ _ _ _ z => absurd rfl z⟩
    · exact ⟨fun z => absurd z (by decide), fun z => absurd z (by decide), fun z => absurd z (by decide), fun z => absurd z (by decide), fun z => absurd z (by decide), fun z => absurd z (by decide), fun _ => t11_homeL hB hU hp hS h', fun _ _ _ _ _ _ z => absurd rfl z⟩
    all_goals exact ⟨fun z => absurd z (by decide), fun z => absurd z (by decide), fun z => absurd z (by decide), fun z => absurd z (by decide), fun z => absurd z (by decide), fun z => absurd z (by decide), fun z => absurd z (by decide), fun _ _ _ _ _ _ _ => t11_wordL hB (by decide) (by decide) hp hS h9 h'⟩
  · have kK : ¬ (tkK B N p = 1 ∧ wI (tkW B N p) < 12) := fun y => z (by rw [kd_1.mpr y]; rfl)
    refine t_wrong hS.2.1 1 (fun Z g => h.1 _ ?_ Z g)
    unfold lineS; rw [if_neg kK]
/-! the whole text: a refusal on both sides, or all lines read on both -/
theorem text_loop {w : Nat} {B : Nat → Nat} {N : Nat} (hB : TxB B N) (hw : w < 2) : ∀ (d c p : Nat) (U : Txt) (O : Nat → Bool), c ≤ p → p ≤ N → N - p ≤ d → TB U →
    (∃ e, (∀ (X : Mem) (Q : Int32 → Mem → Prop), LnX U O w B N p X → (∀ Z, ErX w X e Z → Q (-1) Z) → b_X6_readAll_1_52 Q (d + 1) (nI c) (nI c) X) ∧ ∀ (Y : Mem) (Q : Int32 → Mem → Prop), LnY U O B N p Y → (∀ Z, ErY Y e Z → Q (-1) Z) → b_X11_text_55 Q (d + 1) (nI c) Y) ∨
    (∃ U' O' p' c', TB U' ∧ c' ≤ N ∧ (∀ (X : Mem) (Q : Int32 → Mem → Prop), LnX U O w B N p X → (∀ Z, FwX w X Z → LnX U' O' w B N p' Z → b_X6_readAll_1_86 Q (nI c') Z) → b_X6_readAll_1_52 Q (d + 1) (nI c) (nI c) X) ∧ ∀ (Y : Mem) (Q : Int32 → Mem → Prop), LnY U O B N p Y → (∀ Z, FwY Y Z → LnY U' O' B N p' Z → p_X11_keepText Z (fun M => Q (nI c') M)) → b_X11_text_55 Q (d + 1) (nI c) Y) := by
  have hN := hB.n
  have fin : ∀ (d c p : Nat) (U : Txt) (O : Nat → Bool), c ≤ p → p ≤ N → TB U → tkK B N p = 0 →
      (∃ U' O' p' c', TB U' ∧ c' ≤ N ∧ (∀ (X : Mem) (Q : Int32 → Mem → Prop), LnX U O w B N p X → (∀ Z, FwX w X Z → LnX U' O' w B N p' Z → b_X6_readAll_1_86 Q (nI c') Z) → b_X6_readAll_1_52 Q (d + 1) (nI c) (nI c) X) ∧ ∀ (Y : Mem) (Q : Int32 → Mem → Prop), LnY U O B N p Y → (∀ Z, FwY Y Z → LnY U' O' B N p' Z → p_X11_keepText Z (fun M => Q (nI c') M)) → b_X11_text_55 Q (d + 1) (nI c) Y) := by
    intro d c p U O hc hp hU hk
    refine ⟨U, O, p, c, hU, by omega, fun X Q hS h => ?_, fun Y Q hS h => ?_⟩
    · exact ⟨fun _ => h X (FwX.rf w X) hS, fun _ => ⟨fun _ => h X (FwX.rf w X) hS, fun z => absurd (by rw [hS.2.2.2.1, hk]; rfl) z⟩⟩
    · exact ⟨fun _ => h Y (FwY.rf Y) hS, fun z => absurd (by rw [hS.2.2.2.1, kd_0.mpr hk]; rfl) z⟩
  intro d
  induction d with
  | zero =>
    intro c p U O hc hp hd hU
    refine Or.inr (fin 0 c p U O hc hp hU ?_)
    have : p = N := by omega
    subst this
    unfold tkK tkP
    rw [Nat.sub_self, rn, if_pos (Nat.le_refl _)]
  | succ d ih =>
    intro c p U O hc hp hd hU
    by_cases hk : tkK B N p = 0
    · exact Or.inr (fin (d + 1) c p U O hc hp hU hk)
    · have hcN : c < N := by
        have := tkE_gt hp hk
        have := (tkE_le (B := B) hp).2
        omega
      have hKl := tkK_le (B := B) (N := N) (p := p)
      have hKl2 := kd_le (B := B) (N := N) (p := p) (W := tkW B N p)
      have sx : ∀ (X : Mem) (Q : Int32 → Mem → Prop), LnX U O w B N p X → p_X6_readLine X (fun r14 M14 => (¬ r14 = 0 → ∀ x16 : Int32, x16 = nI c + 1 → ∀ x17 : Int32, x17 = nI c + 1 → b_X6_readAll_1_52 Q (d + 1) x16 x17 M14) ∧ (r14 = 0 → Q (-1) M14)) → b_X6_readAll_1_52 Q (d + 1 + 1) (nI c) (nI c) X := by
        intro X Q hS h
        refine ⟨fun z => absurd z (by rw [hS.1.1.1]; exact nI_ge hcN (by omega)), fun _ => ⟨fun z => absurd ((nI_eq (b := 0) (by omega) (by decide)).mp (by rw [hS.2.2.2.1] at z; exact z)) hk, fun _ => h⟩⟩
      have sy : ∀ (Y : Mem) (Q : Int32 → Mem → Prop), LnY U O B N p Y → p_X11_lineRead Y (fun r13 M13 => (¬ r13 = 0 → ∀ x15 : Int32, x15 = nI c + 1 → b_X11_text_55 Q (d + 1) x15 M13) ∧ (r13 = 0 → Q (-1) M13)) → b_X11_text_55 Q (d + 1 + 1) (nI c) Y := by
        intro Y Q hS h
        exact ⟨fun z => absurd ((kd_0 (W := tkW B N p)).mp ((nI_eq (b := 0) (by omega) (by decide)).mp (by rw [hS.2.2.2.1] at z; exact z))) hk, fun _ => h⟩
      cases el : lineS B N U O p with
      | inl e =>
        refine Or.inl ⟨e, fun X Q hS h => sx X Q hS ?_, fun Y Q hS h => sy Y Q hS ?_⟩
        · refine t10_line hB hU hw hp hS (fun e' he Z hZ => ⟨fun z => absurd rfl z, fun _ => h Z ?_⟩) (fun R he => ?_)
          · rw [el] at he; rw [Sum.inl.inj he]; exact hZ
          · rw [el] at he; exact absurd he (fun z => nomatch z)
        · refine t11_line hB hU hp hS ⟨fun e' he Z hZ => ⟨fun z => absurd rfl z, fun _ => h Z ?_⟩, fun R he => ?_⟩
          · rw [el] at he; rw [Sum.inl.inj he]; exact hZ
          · rw [el] at he; exact absurd he (fun z => nomatch z)
      | inr R =>
        obtain ⟨r1, r2, r3⟩ := lineS_ok hU hp el
        have kx : ∀ (X : Mem) (Q : Int32 → Mem → Prop), LnX U O w B N p X → (∀ Z, FwX w X Z → LnX R.1 R.2.1 w B N R.2.2 Z → b_X6_readAll_1_52 Q (d + 1) (nI (c + 1)) (nI (c + 1)) Z) → b_X6_readAll_1_52 Q (d + 1 + 1) (nI c) (nI c) X := by
          intro X Q hS h
          refine sx X Q hS (t10_line hB hU hw hp hS (fun e' he => ?_) (fun R' he Z hF hL => ⟨fun _ => ?_, fun z => absurd z z1n⟩))
          · rw [el] at he; exact absurd he (fun z => nomatch z)
          · rw [el] at he
            have := Sum.inr.inj he
            subst this
            rintro x16 rfl x17 rfl
            rw [nI_1]
            exact h Z hF hL
        have ky : ∀ (Y : Mem) (Q : Int32 → Mem → Prop), LnY U O B N p Y → (∀ Z, FwY Y Z → LnY R.1 R.2.1 B N R.2.2 Z → b_X11_text_55 Q (d + 1) (nI (c + 1)) Z) → b_X11_text_55 Q (d + 1 + 1) (nI c) Y := by
          intro Y Q hS h
          refine sy Y Q hS (t11_line hB hU hp hS ⟨fun e' he => ?_, fun R' he Z hF hL => ⟨fun _ => ?_, fun z => absurd z z1n⟩⟩)
          · rw [el] at he; exact absurd he (fun z => nomatch z)
          · rw [el] at he
            have := Sum.inr.inj he
            subst this
            rintro x15 rfl
            rw [nI_1]
            exact h Z hF hL
        rcases ih (c + 1) R.2.2 R.1 R.2.1 (by omega) r3 (by omega) r1 with ⟨e, i1, i2⟩ | ⟨U', O', p', c', j1, j2, j3, j4⟩
        · refine Or.inl ⟨e, fun X Q hS h => kx X Q hS (fun Z hF hL => i1 Z Q hL (fun Z2 hZ => h Z2 ⟨hF.tr hZ.1, hZ.2⟩)), fun Y Q hS h => ky Y Q hS (fun Z hF hL => i2 Z Q hL (fun Z2 hZ => h Z2 ⟨hF.tr hZ.1, hZ.2⟩))⟩
        · exact Or.inr ⟨U', O', p', c', j1, j2, fun X Q hS h => kx X Q hS (fun Z hF hL => j3 Z Q hL (fun Z2 h2 hL2 => h Z2 (hF.tr h2) hL2)), fun Y Q hS h => ky Y Q hS (fun Z hF hL => j4 Z Q hL (fun Z2 h2 hL2 => h Z2 (hF.tr h2) hL2))⟩
