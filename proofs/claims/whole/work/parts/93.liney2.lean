theorem heard_step {U : Txt} {O : Nat → Bool} {B : Nat → Nat} {N b j lo hi q q0 : Nat} {l0 t : List (Nat × Nat)} {pre : List Nat} (hB : TxB B N) (hU : U 0 0 ≤ 5) (hb : b < U 0 0) (hj : j < 14) (hlo : lo ≤ 10) (hhi : hi ≤ 99999) (hq : q ≤ N) (hP : Pre B N l0 q0 pre ((lo, hi) :: t) q) {Y Z : Mem} (hF : FwY Y Z) (hS : LnY U O B N q Z) {Q : Int32 → Mem → Prop} {K : Int32 → Int32 → Mem → Prop} (hE : ∀ e, rd B N l0 q0 = .inl e → ∀ Z, ErY Y e Z → Q 0 Z) (hK : ∀ v Z2, FwY Y Z2 → LnY (put U (1 + b) j v) O B N (tkE B N q) Z2 → Pre B N l0 q0 (pre ++ [v]) t (tkE B N q) → K (nI b) (nI (j + 1)) Z2) : b_X11_heardLine_74 Q K (nI b) (nI j) (nI lo) (nI hi) Z := by
  refine t11_number hB hq hlo hhi hS (fun e he Z2 hZ => ⟨fun z => absurd rfl z, fun _ => hE e (hP.err he) Z2 ⟨hF.tr hZ.1, hZ.2⟩⟩) (fun v he Z2 q1 q2 q3 q4 => ⟨fun _ => ?_, fun z => absurd z z1n⟩)
  rw [q4]
  refine t11_readP (by omega) hj ?_
  rintro x13 rfl
  rw [nI_1]
  exact hK v _ ((hF.tr q1).tr (FwY.set (by omega))) ⟨q3.1.read hU hb hj, q3.2.set (by decide)⟩ (hP.step he)
theorem mid_name {B : Nat → Nat} {N : Nat} {U : Txt} {O : Nat → Bool} {k p : Nat} (h0 : 0 < k) (h6 : k < 6) (h4 : ¬ (k = 4 ∧ 10 ≤ U 0 1)) : midS B N U O k p = (match nmS B N U k (tkE B N p) with | .inl e => .inl e | .inr b => tailM B N U O k b (tkE B N (tkE B N p))) := by
  unfold midS; rw [if_neg (by omega), if_neg (by omega), if_pos h6]; cases nmS B N U k (tkE B N p) <;> rfl
theorem t11_heardL {U : Txt} {O : Nat → Bool} {B : Nat → Nat} {N p : Nat} (hB : TxB B N) (hU : TB U) (hp : p ≤ N) {Y : Mem} (hS : LnY U O B N p Y) {Q : Int32 → Mem → Prop} (h : LineY B N (midS B N U O 1 p) Y Q) : p_X11_heardLine Y Q := by
  have p1 := (tkE_le (B := B) hp).2
  have p2 := (tkE_le (B := B) p1).2
  have h5 := hU.1
  rw [mid_name (by decide) (by decide) (by omega)] at h
  refine t11_birdRead (k := 1) hB hU (by decide) (by decide) (Or.inr ⟨by decide, rfl⟩) hp hS (fun e he Z hZ => ⟨fun z => absurd rfl z, fun _ => h.1 e (by simp only [he]) Z hZ⟩) (fun b he Z f1 f2 f3 f4 => ⟨fun _ => ?_, fun z => absurd z z1n⟩)
  have hb := ((nmS_ok he).2 (by decide)).1
  simp only [he] at h
  rintro x3 rfl
  rw [f4]
  have hE : ∀ e, rd B N (rg 1) (tkE B N (tkE B N p)) = .inl e → ∀ Z, ErY Y e Z → Q 0 Z := fun e he => h.1 e (by unfold tailM; simp only [he])
  refine t11_readP (j := 2) (by omega) (by decide) ?_
  have g0 := f3.1.read (j := 2) (v := 1) h5 hb (by decide)
  have F0 : FwY Y (sI Z 43 0 (70 + 14 * b + 2) (nI 1)) := f1.tr (FwY.set (by omega))
  refine ⟨5, fun z => absurd z (by decide), fun _ => ⟨fun _ => ⟨fun z => absurd rfl z, fun _ => ?_⟩, fun z => absurd z (by decide)⟩⟩
  refine heard_step (j := 3) (lo := 0) (hi := 61) hB (by rw [pO (by omega)]; exact h5) (by rw [pO (by omega)]; exact hb) (by decide) (by decide) (by decide) p2 (Pre.rf (l := rg 1)) F0 ⟨g0, f3.2.set (by decide)⟩ hE (fun v0 Z1 F1 g1 r1 => ?_)
  have q3 := (tkE_le (B := B) p2).2
  refine ⟨fun z => absurd z (by decide), fun _ => ⟨fun _ => ⟨fun _ => ⟨fun z => absurd rfl z, fun _ => ?_⟩, fun z => absurd z (by decide)⟩, fun z => absurd z (by decide)⟩⟩
  refine heard_step (j := 4) (lo := 0) (hi := 14) hB (by rw [pO (by omega), pO (by omega)]; exact h5) (by rw [pO (by omega), pO (by omega)]; exact hb) (by decide) (by decide) (by decide) q3 r1 F1 g1 hE (fun v1 Z2 F2 g2 r2 => ?_)
  have q4 := (tkE_le (B := B) q3).2
  refine ⟨fun z => absurd z (by decide), fun _ => ⟨fun _ => ⟨fun _ => ⟨fun _ => ⟨fun z => absurd rfl z, fun _ => ?_⟩, fun z => absurd z (by decide)⟩, fun z => absurd z (by decide)⟩, fun z => absurd z (by decide)⟩⟩
  refine heard_step (j := 5) (lo := 0) (hi := 15) hB (by rw [pO (by omega), pO (by omega), pO (by omega)]; exact h5) (by rw [pO (by omega), pO (by omega), pO (by omega)]; exact hb) (by decide) (by decide) (by decide) q4 r2 F2 g2 hE (fun v2 Z3 F3 g3 r3 => ?_)
  have q5 := (tkE_le (B := B) q4).2
  refine ⟨fun z => absurd z (by decide), fun _ => ⟨fun z => absurd rfl z, fun _ => ⟨fun _ => ⟨fun _ => ⟨fun _ => ?_, fun z => absurd z (by decide)⟩, fun z => absurd z (by decide)⟩, fun z => absurd z (by decide)⟩⟩⟩
  refine heard_step (j := 6) (lo := 1) (hi := 9) hB (by rw [pO (by omega), pO (by omega), pO (by omega), pO (by omega)]; exact h5) (by rw [pO (by omega), pO (by omega), pO (by omega), pO (by omega)]; exact hb) (by decide) (by decide) (by decide) q5 r3 F3 g3 hE (fun v3 Z4 F4 g4 r4 => ?_)
  refine ⟨fun _ => ?_, fun z => absurd (by decide) z⟩
  refine h.2 (updU U 1 b [v0, v1, v2, v3], (fun j => O j || j == 1), _) ?_ Z4 F4 ⟨g4.1.low (by decide), g4.2⟩
  unfold tailM; simp only [r4.fin]; rfl
theorem t11_placeL {U : Txt} {O : Nat → Bool} {B : Nat → Nat} {N p : Nat} (hB : TxB B N) (hU : TB U) (hp : p ≤ N) {Y : Mem} (hS : LnY U O B N p Y) {Q : Int32 → Mem → Prop} (h : LineY B N (midS B N U O 5 p) Y Q) : p_X11_placeLine Y Q := by
  have p1 := (tkE_le (B := B) hp).2
  have p2 := (tkE_le (B := B) p1).2
  have h5 := hU.1
  rw [mid_name (by decide) (by decide) (by omega)] at h
  refine t11_birdRead (k := 5) hB hU (by decide) (by decide) (Or.inr ⟨by decide, rfl⟩) hp hS (fun e he Z hZ => ⟨fun z => absurd rfl z, fun _ => h.1 e (by simp only [he]) Z hZ⟩) (fun b he Z f1 f2 f3 f4 => ⟨fun _ => ?_, fun z => absurd z z1n⟩)
  have hb := ((nmS_ok he).2 (by decide)).1
  simp only [he] at h
  rintro x3 rfl
  rw [f4]
  have hE : ∀ e, rd B N (rg 5) (tkE B N (tkE B N p)) = .inl e → ∀ Z, ErY Y e Z → Q 0 Z := fun e he => h.1 e (by unfold tailM; simp only [he])
  have st : ∀ (U' : Txt) (i q : Nat) (t : List (Nat × Nat)) (pre : List Nat) (Z : Mem) (K : Int32 → Mem → Prop), U' 0 0 = U 0 0 → i < 3 → q ≤ N → Pre B N (rg 5) (tkE B N (tkE B N p)) pre ((0, 15) :: t) q → FwY Y Z → LnY U' O B N q Z → (∀ v Z2, FwY Y Z2 → LnY (put U' (1 + b) (11 + i) v) O B N (tkE B N q) Z2 → Pre B N (rg 5) (tkE B N (tkE B N p)) (pre ++ [v]) t (tkE B N q) → K (nI (i + 1)) Z2) → p_X11_number 0 15 Z (fun r6 M6 => (¬ r6 = 0 → p_X11_read (nI b) ((11 : Int32) + nI i) (M6.1 40 0 19) M6 (fun M8 => ∀ x9 : Int32, x9 = nI i + 1 → K x9 M8)) ∧ (r6 = 0 → Q 0 M6)) := by
    intro U' i q t pre Z K hu hi hq hP hF hS' hK
    refine t11_number (lo := 0) (hi := 15) hB hq (by decide) (by decide) hS' (fun e he Z2 hZ => ⟨fun z => absurd rfl z, fun _ => hE e (hP.err he) Z2 ⟨hF.tr hZ.1, hZ.2⟩⟩) (fun v he Z2 q1 q2 q3 q4 => ⟨fun _ => ?_, fun z => absurd z z1n⟩)
    rw [q4, show (11 : Int32) = nI 11 from rfl, nI_add]
    refine t11_readP (by omega) (by omega) ?_
    rintro x9 rfl
    rw [nI_1]
    exact hK v _ ((hF.tr q1).tr (FwY.set (by omega))) ⟨q3.1.read (by omega) (by omega) (by omega), q3.2.set (by decide)⟩ (hP.step he)
  refine t11_readP (j := 10) (by omega) (by decide) ?_
  have g0 := f3.1.read (j := 10) (v := 1) h5 hb (by decide)
  have F0 : FwY Y (sI Z 43 0 (70 + 14 * b + 10) (nI 1)) := f1.tr (FwY.set (by omega))
  refine ⟨4, fun z => absurd z (by decide), fun _ => ?_⟩
  refine st _ 0 _ _ _ _ (fun x9 M8 => b_X11_placeLine_26 Q 3 (nI b) x9 M8) (pO (by omega)) (by decide) p2 (Pre.rf (l := rg 5)) F0 ⟨g0, f3.2.set (by decide)⟩ (fun v0 Z1 F1 g1 r1 => ?_)
  have q3 := (tkE_le (B := B) p2).2
  refine ⟨fun z => absurd z (by decide), fun _ => ?_⟩
  refine st _ 1 _ _ _ _ (fun x9 M8 => b_X11_placeLine_26 Q 2 (nI b) x9 M8) (by rw [pO (by omega), pO (by omega)]) (by decide) q3 r1 F1 g1 (fun v1 Z2 F2 g2 r2 => ?_)
  have q4 := (tkE_le (B := B) q3).2
  refine ⟨fun z => absurd z (by decide), fun _ => ?_⟩
  refine st _ 2 _ _ _ _ (fun x9 M8 => b_X11_placeLine_26 Q 1 (nI b) x9 M8) (by rw [pO (by omega), pO (by omega), pO (by omega)]) (by decide) q4 r2 F2 g2 (fun v2 Z3 F3 g3 r3 => ?_)
  refine ⟨fun _ => ?_, fun z => absurd (by decide) z⟩
  refine h.2 (updU U 5 b [v0, v1, v2], (fun j => O j || j == 5), _) ?_ Z3 F3 ⟨g3.1.low (by decide), g3.2⟩
  unfold tailM; simp only [r3.fin]; rfl
theorem t11_homeL {U : Txt} {O : Nat → Bool} {B : Nat → Nat} {N p : Nat} (hB : TxB B N) (hU : TB U) (hp : p ≤ N) {Y : Mem} (hS : LnY U O B N p Y) {Q : Int32 → Mem → Prop} (h : LineY B N (midS B N U O 6 p) Y Q) : p_X11_homeLine Y Q := by
  have p1 := (tkE_le (B := B) hp).2
  unfold p_X11_homeLine
  rw [show (6 : Int32).toNatClampNeg = 6 from rfl, hS.1.2.2.2.2 6 (by decide) (by decide)]
  refine ⟨vp_in_nI (n := 6) (by decide) (by decide), ?_⟩
  cases eo : O 6
  · refine ⟨fun _ => ⟨vp_in_nI (n := 6) (by decide) (by decide), ?_⟩, fun z => absurd rfl z⟩
    rintro M4 rfl
    refine (hS.1.mark (k := 6)).adv hB hp ((sI_n (by omega)).trans hS.2.2.1) (fun Y1 g1 g2 => ?_)
    have f1 : FwY Y Y1 := (FwY.set (by omega)).tr g1.fy
    have em : midS B N U O 6 p = tailM B N U O 6 0 (tkE B N p) := by unfold midS; rw [if_neg (by omega), if_neg (by rw [eo]; rintro ⟨_, z⟩; exact Bool.false_ne_true z), if_neg (by decide)]
    rw [em] at h
    have hE : ∀ e, rd B N (rg 6) (tkE B N p) = .inl e → ∀ Z, ErY Y e Z → Q 0 Z := fun e he => h.1 e (by unfold tailM; simp only [he])
    have st : ∀ (U' : Txt) (i q hi : Nat) (t : List (Nat × Nat)) (pre : List Nat) (Z : Mem) (K : Int32 → Mem → Prop), i < 4 → hi ≤ 99999 → q ≤ N → Pre B N (rg 6) (tkE B N p) pre ((0, hi) :: t) q → FwY Y Z → LnY U' (fun j => O j || j == 6) B N q Z → (∀ v Z2, FwY Y Z2 → LnY (put U' 0 (8 + i) v) (fun j => O j || j == 6) B N (tkE B N q) Z2 → Pre B N (rg 6) (tkE B N p) (pre ++ [v]) t (tkE B N q) → K (nI (i + 1)) Z2) → b_X11_homeLine_49 Q K (nI i) 0 (nI hi) Z := by
      intro U' i q hi t pre Z K hi4 hhi hq hP hF hS' hK
      refine t11_number (lo := 0) hB hq (by decide) hhi hS' (fun e he Z2 hZ => ⟨fun z => absurd rfl z, fun _ => hE e (hP.err he) Z2 ⟨hF.tr hZ.1, hZ.2⟩⟩) (fun v he Z2 q1 q2 q3 q4 => ⟨fun _ => ?_, fun z => absurd z z1n⟩)
      rw [q4, show (30 : Int32) = nI 30 from rfl, nI_add, nI_clamp (by omega)]
      refine ⟨vp_in_nI (by omega) (by decide), ?_⟩
      rintro M10 rfl x11 rfl
      rw [nI_1, show 30 + i = 24 + (6 + i) from by omega]
      have := q3.1.word (i := 6 + i) (v := v) (by omega)
      rw [show 2 + (6 + i) = 8 + i from by omega] at this
      exact hK v _ ((hF.tr q1).tr (FwY.set (by omega))) ⟨this, q3.2.set (by decide)⟩ (hP.step he)
    refine ⟨5, fun z => absurd z (by decide), fun _ => ⟨fun _ => ?_, fun z => absurd z (by decide)⟩⟩
    refine st U 0 _ 15 _ _ _ _ (by decide) (by decide) p1 (Pre.rf (l := rg 6)) f1 g2 (fun v0 Z1 F1 h1 r1 => ?_)
    have q2 := (tkE_le (B := B) p1).2
    refine ⟨fun z => absurd z (by decide), fun _ => ⟨fun _ => ?_, fun z => absurd z (by decide)⟩⟩
    refine st _ 1 _ 15 _ _ _ _ (by decide) (by decide) q2 r1 F1 h1 (fun v1 Z2 F2 h2 r2 => ?_)
    have q3 := (tkE_le (B := B) q2).2
    refine ⟨fun z => absurd z (by decide), fun _ => ⟨fun _ => ?_, fun z => absurd z (by decide)⟩⟩
    refine st _ 2 _ 15 _ _ _ _ (by decide) (by decide) q3 r2 F2 h2 (fun v2 Z3 F3 h3 r3 => ?_)
    have q4 := (tkE_le (B := B) q3).2
    refine ⟨fun z => absurd z (by decide), fun _ => ⟨fun z => absurd rfl z, fun _ => ?_⟩⟩
    refine st _ 3 _ 20 _ _ _ _ (by decide) (by decide) q4 r3 F3 h3 (fun v3 Z4 F4 h4 r4 => ?_)
    refine ⟨fun _ => ⟨vp_in_nI (n := 29) (by decide) (by decide), ?_⟩, fun z => absurd (by decide) z⟩
    rintro M6 rfl
    refine h.2 (updU U 6 0 [v0, v1, v2, v3], (fun j => O j || j == 6), _) ?_ _ (F4.tr (FwY.set (k := (29 : Int32).toNatClampNeg) (by right; right; right; left; decide))) ⟨h4.1.word (i := 5) (v := 1) (by decide), h4.2.set (by decide)⟩
    unfold tailM; simp only [r4.fin]; rfl
  · refine ⟨fun z => absurd z (by decide), fun _ => t_wrong hS.2.1 3 (fun Z g => h.1 _ ?_ Z g)⟩
    unfold midS; rw [if_neg (by omega), if_pos ⟨by decide, eo⟩]
