/-! the reference: a text begun, a text kept -/
theorem t11_cp43 {Y : Mem} {Q : Mem → Prop} (h : ∀ Z, Z.2 = Y.2 → (∀ f i k, ¬ (f = 43 ∧ k < 70) → Z.1 f i k = Y.1 f i k) → (∀ k, k < 70 → Z.1 43 0 k = Y.1 43 0 (70 + k)) → Q Z) : p_X11_copies_43 70 Y Q := by
  have lp : ∀ d j (Z : Mem), j + d = 70 → Z.2 = Y.2 → (∀ f i k, ¬ (f = 43 ∧ k < j) → Z.1 f i k = Y.1 f i k) → (∀ k, k < j → Z.1 43 0 k = Y.1 43 0 (70 + k)) → b_X11_copies_43_2 Q (d + 1) 70 (nI j) Z := by
    intro d
    induction d with
    | zero =>
      intro j Z hj h2 hf hc
      have : j = 70 := by omega
      subst this
      exact ⟨fun _ => h Z h2 hf hc, fun z => absurd (by decide) z⟩
    | succ d ih =>
      intro j Z hj h2 hf hc
      refine ⟨fun z => absurd z (nI_ge (a := j) (b := 70) (by omega) (by decide)), fun _ => ?_⟩
      rw [show (70 : Int32) = nI 70 from rfl, nI_add, nI_clamp (by omega), nI_clamp (by omega)]
      refine ⟨vp_in_nI (by omega) (by decide), vp_in_nI (by omega) (by decide), ?_⟩
      rintro M3 rfl x4 rfl
      rw [nI_1]
      refine ih (j + 1) _ (by omega) h2 (fun f i k e => (sI_n (by omega)).trans (hf f i k (by omega))) (fun k hk => ?_)
      by_cases y : k = j
      · rw [y, sI_s]; exact hf 43 0 _ (by omega)
      · rw [sI_n (by omega)]; exact hc k (by omega)
  exact ⟨70 + 1, lp 70 0 Y rfl rfl (fun _ _ _ _ => rfl) (fun k hk => absurd hk (Nat.not_lt_zero _))⟩
theorem t11_cp44 {Y : Mem} {Q : Mem → Prop} (h : ∀ Z, Z.2 = Y.2 → (∀ f i k, ¬ (f = 44 ∧ k < 30) → Z.1 f i k = Y.1 f i k) → (∀ k, k < 30 → Z.1 44 0 k = Y.1 44 0 (30 + k)) → Q Z) : p_X11_copies_44 30 Y Q := by
  have lp : ∀ d j (Z : Mem), j + d = 30 → Z.2 = Y.2 → (∀ f i k, ¬ (f = 44 ∧ k < j) → Z.1 f i k = Y.1 f i k) → (∀ k, k < j → Z.1 44 0 k = Y.1 44 0 (30 + k)) → b_X11_copies_44_2 Q (d + 1) 30 (nI j) Z := by
    intro d
    induction d with
    | zero =>
      intro j Z hj h2 hf hc
      have : j = 30 := by omega
      subst this
      exact ⟨fun _ => h Z h2 hf hc, fun z => absurd (by decide) z⟩
    | succ d ih =>
      intro j Z hj h2 hf hc
      refine ⟨fun z => absurd z (nI_ge (a := j) (b := 30) (by omega) (by decide)), fun _ => ?_⟩
      rw [show (30 : Int32) = nI 30 from rfl, nI_add, nI_clamp (by omega), nI_clamp (by omega)]
      refine ⟨vp_in_nI (by omega) (by decide), vp_in_nI (by omega) (by decide), ?_⟩
      rintro M3 rfl x4 rfl
      rw [nI_1]
      refine ih (j + 1) _ (by omega) h2 (fun f i k e => (sI_n (by omega)).trans (hf f i k (by omega))) (fun k hk => ?_)
      by_cases y : k = j
      · rw [y, sI_s]; exact hf 44 0 _ (by omega)
      · rw [sI_n (by omega)]; exact hc k (by omega)
  exact ⟨30 + 1, lp 30 0 Y rfl rfl (fun _ _ _ _ => rfl) (fun k hk => absurd hk (Nat.not_lt_zero _))⟩
theorem t11_cp45 {Y : Mem} {Q : Mem → Prop} (h : ∀ Z, Z.2 = Y.2 → (∀ f i k, ¬ (f = 45 ∧ k < 17) → Z.1 f i k = Y.1 f i k) → (∀ k, k < 17 → Z.1 45 0 k = Y.1 45 0 (17 + k)) → Q Z) : p_X11_copies_45 17 Y Q := by
  have lp : ∀ d j (Z : Mem), j + d = 17 → Z.2 = Y.2 → (∀ f i k, ¬ (f = 45 ∧ k < j) → Z.1 f i k = Y.1 f i k) → (∀ k, k < j → Z.1 45 0 k = Y.1 45 0 (17 + k)) → b_X11_copies_45_2 Q (d + 1) 17 (nI j) Z := by
    intro d
    induction d with
    | zero =>
      intro j Z hj h2 hf hc
      have : j = 17 := by omega
      subst this
      exact ⟨fun _ => h Z h2 hf hc, fun z => absurd (by decide) z⟩
    | succ d ih =>
      intro j Z hj h2 hf hc
      refine ⟨fun z => absurd z (nI_ge (a := j) (b := 17) (by omega) (by decide)), fun _ => ?_⟩
      rw [show (17 : Int32) = nI 17 from rfl, nI_add, nI_clamp (by omega), nI_clamp (by omega)]
      refine ⟨vp_in_nI (by omega) (by decide), vp_in_nI (by omega) (by decide), ?_⟩
      rintro M3 rfl x4 rfl
      rw [nI_1]
      refine ih (j + 1) _ (by omega) h2 (fun f i k e => (sI_n (by omega)).trans (hf f i k (by omega))) (fun k hk => ?_)
      by_cases y : k = j
      · rw [y, sI_s]; exact hf 45 0 _ (by omega)
      · rw [sI_n (by omega)]; exact hc k (by omega)
  exact ⟨17 + 1, lp 17 0 Y rfl rfl (fun _ _ _ _ => rfl) (fun k hk => absurd hk (Nat.not_lt_zero _))⟩
theorem t11_lay0 {a : Nat} {v : Int32} {Y : Mem} (ha : a < 298) (hb : Y.1 40 0 35 = 0) {Q : Mem → Prop} (h : Q (sI Y 54 0 a v)) : p_X11_lay (nI a) v Y Q := by
  unfold p_X11_lay
  rw [hb, show (298 : Int32) * 0 = nI 0 from rfl, nI_add, Nat.zero_add]
  refine ⟨vp_in_nI (by omega) (by decide), ?_⟩
  rw [nI_clamp (by omega)]
  rintro M1 rfl
  exact h
def KpY (U : Txt) (Y Z : Mem) : Prop := Z.2 = Y.2 ∧ (∀ f i k, ¬ (f = 40 ∧ (k = 11 ∨ k = 14 ∨ k = 22 ∨ k = 23 ∨ k = 24 ∨ k = 35 ∨ k = 36 ∨ k = 37)) → ¬ (f = 43 ∧ k < 70) → ¬ (f = 44 ∧ k < 30) → ¬ (f = 45 ∧ k < 17) → ¬ f = 47 → ¬ f = 54 → Z.1 f i k = Y.1 f i k) ∧ TYr U Z ∧ (Z.1 40 0 22 = nI (U 0 4) ∧ Z.1 40 0 23 = nI (U 0 5) ∧ Z.1 40 0 24 = -1 ∧ Z.1 40 0 35 = 0 ∧ Z.1 40 0 36 = 0 ∧ Z.1 40 0 37 = 0) ∧ (∀ k, k < 293 → Z.1 54 0 k = 0) ∧ ∀ k, k < 5 → Z.1 54 0 (293 + k) = -1
theorem t11_keep {U : Txt} {Y : Mem} (hU : TB U) (hR : ReadR U Y) {Q : Mem → Prop} (h : ∀ Z, KpY U Y Z → Q Z) : p_X11_keepText Y Q := by
  obtain ⟨e1, e2, e3, e4, e5⟩ := hR
  obtain ⟨u1, u2, u3, u4, _⟩ := id hU
  rintro M1 rfl M2 rfl
  refine t11_cp43 (fun M3 a1 a2 a3 => t11_cp44 (fun M4 b1 b2 b3 => t11_cp45 (fun M5 c1 c2 c3 => ?_)))
  have k45 : ∀ k, k < 10 → M5.1 45 0 (7 + k) = nI (U 0 (2 + k)) := fun k hk => by
    rw [c3 _ (by omega), b2 _ _ _ (by omega), a2 _ _ _ (by omega), sI_n (by omega), sI_n (by omega), show 17 + (7 + k) = 24 + k from by omega]
    exact e5 k hk
  refine t11_codes (m0 := U 0 2) (m1 := U 0 3) (by omega) (by omega) (k45 0 (by decide)) (k45 1 (by decide)) (fun M6 d1 d2 d3 d4 => ?_)
  refine ⟨vp_in_nI (n := 9) (by decide) (by decide), ?_⟩
  rintro M8 rfl
  refine ⟨vp_in_nI (n := 10) (by decide) (by decide), ?_⟩
  rintro M10 rfl M11 rfl M12 rfl M13 rfl M14 rfl
  rw [show (9 : Int32).toNatClampNeg = 9 from rfl, show (10 : Int32).toNatClampNeg = 10 from rfl, sI_n (f' := 45) (by omega), d2 45 0 9 (by decide), d2 45 0 10 (by decide), k45 2 (by decide), k45 3 (by decide)]
  have hM : ∀ (M : Mem), M = sI (sI (sI (sI (sI (sI M6 40 0 22 (nI (U 0 (2 + 2)))) 40 0 23 (nI (U 0 (2 + 3)))) 40 0 24 (-1)) 40 0 35 0) 40 0 36 0) 40 0 37 0 → M.2 = Y.2 ∧ (∀ f i k, ¬ (f = 40 ∧ (k = 11 ∨ k = 14 ∨ k = 22 ∨ k = 23 ∨ k = 24 ∨ k = 35 ∨ k = 36 ∨ k = 37)) → ¬ (f = 43 ∧ k < 70) → ¬ (f = 44 ∧ k < 30) → ¬ (f = 45 ∧ k < 17) → ¬ f = 47 → ¬ f = 54 → M.1 f i k = Y.1 f i k) ∧ TYr U M ∧ (M.1 40 0 22 = nI (U 0 4) ∧ M.1 40 0 23 = nI (U 0 5) ∧ M.1 40 0 24 = -1 ∧ M.1 40 0 35 = 0 ∧ M.1 40 0 36 = 0 ∧ M.1 40 0 37 = 0) := by
    rintro M rfl
    have n40 : ∀ f i k, ¬ (f = 40 ∧ (k = 22 ∨ k = 23 ∨ k = 24 ∨ k = 35 ∨ k = 36 ∨ k = 37)) → (sI (sI (sI (sI (sI (sI M6 40 0 22 (nI (U 0 (2 + 2)))) 40 0 23 (nI (U 0 (2 + 3)))) 40 0 24 (-1)) 40 0 35 0) 40 0 36 0) 40 0 37 0).1 f i k = M6.1 f i k := fun f i k e => by
      rw [sI_n (by omega), sI_n (by omega), sI_n (by omega), sI_n (by omega), sI_n (by omega), sI_n (by omega)]
    refine ⟨d1.trans (c1.trans (b1.trans a1)), fun f i k q1 q2 q3 q4 q5 q6 => ?_, ⟨?_, ?_, fun b k hb hk => ?_, fun i hi j hj => ?_, fun k hk => ?_, fun k hk => ?_, fun i hi => ⟨?_, ?_⟩⟩, ?_, ?_, ?_, ?_, ?_, ?_⟩
    · rw [n40 _ _ _ (by omega), d2 _ _ _ (by omega), c2 _ _ _ (by omega), b2 _ _ _ (by omega), a2 _ _ _ (by omega), sI_n (by omega), sI_n (by omega)]
    · rw [n40 _ _ _ (by omega), d2 _ _ _ (by omega), c2 _ _ _ (by omega), b2 _ _ _ (by omega), a2 _ _ _ (by omega), sI_n (by omega), sI_s]; exact e1
    · rw [n40 _ _ _ (by omega), d2 _ _ _ (by omega), c2 _ _ _ (by omega), b2 _ _ _ (by omega), a2 _ _ _ (by omega), sI_s, sI_n (by omega)]; exact e2
    · rw [n40 _ _ _ (by omega), d2 _ _ _ (by omega), c2 _ _ _ (by omega), b2 _ _ _ (by omega), a3 _ (by omega), sI_n (by omega), sI_n (by omega), ← Nat.add_assoc]; exact e3 b k hb hk
    · rw [n40 _ _ _ (by omega), d2 _ _ _ (by omega), c2 _ _ _ (by omega), b3 _ (by omega), a2 _ _ _ (by omega), sI_n (by omega), sI_n (by omega), ← Nat.add_assoc]; exact e4 i j hi hj
    · rw [n40 _ _ _ (by omega), d2 _ _ _ (by omega)]; exact k45 k (by omega)
    · rw [n40 _ _ _ (by omega), d2 _ _ _ (by omega), show 12 + k = 7 + (5 + k) from by omega, k45 (5 + k) (by omega), show 2 + (5 + k) = 7 + k from by omega]
    · rw [n40 _ _ _ (by omega)]; exact d3 i hi
    · rw [n40 _ _ _ (by omega)]; exact d4 i hi
    · rw [sI_n (by omega), sI_n (by omega), sI_n (by omega), sI_n (by omega), sI_n (by omega), sI_s]
    · rw [sI_n (by omega), sI_n (by omega), sI_n (by omega), sI_n (by omega), sI_s]
    · rw [sI_n (by omega), sI_n (by omega), sI_n (by omega), sI_s]
    · rw [sI_n (by omega), sI_n (by omega), sI_s]
    · rw [sI_n (by omega), sI_s]
    · exact sI_s
  obtain ⟨g1, g2, g3, g4⟩ := hM _ rfl
  revert g1 g2 g3 g4
  generalize sI (sI (sI (sI (sI (sI M6 40 0 22 (nI (U 0 (2 + 2)))) 40 0 23 (nI (U 0 (2 + 3)))) 40 0 24 (-1)) 40 0 35 0) 40 0 36 0) 40 0 37 0 = W
  intro g1 g2 g3 g4
  have ty : ∀ Z : Mem, (∀ f i k, f ≠ 54 → Z.1 f i k = W.1 f i k) → TYr U Z := fun Z hf => by
    obtain ⟨t1, t2, t3, t4, t5, t6, t7⟩ := g3
    exact ⟨(hf _ _ _ (by decide)).trans t1, (hf _ _ _ (by decide)).trans t2, fun b k hb hk => (hf _ _ _ (by decide)).trans (t3 b k hb hk), fun i hi j hj => (hf _ _ _ (by decide)).trans (t4 i hi j hj), fun k hk => (hf _ _ _ (by decide)).trans (t5 k hk), fun k hk => (hf _ _ _ (by decide)).trans (t6 k hk), fun i hi => ⟨(hf _ _ _ (by decide)).trans (t7 i hi).1, (hf _ _ _ (by decide)).trans (t7 i hi).2⟩⟩
  have lp2 : ∀ d j (Z : Mem), j + d = 5 → Z.2 = W.2 → (∀ f i k, f ≠ 54 → Z.1 f i k = W.1 f i k) → (∀ k, k < 293 → Z.1 54 0 k = 0) → (∀ k, k < j → Z.1 54 0 (293 + k) = -1) → b_X11_keepText_112 Q (d + 1) (nI j) Z := by
    intro d
    induction d with
    | zero =>
      intro j Z hj h2 hf hz hc
      have : j = 5 := by omega
      subst this
      exact ⟨fun _ => h Z ⟨h2.trans g1, fun f i k q1 q2 q3 q4 q5 q6 => (hf f i k q6).trans (g2 f i k q1 q2 q3 q4 q5 q6), ty Z hf, ⟨(hf _ _ _ (by decide)).trans g4.1, (hf _ _ _ (by decide)).trans g4.2.1, (hf _ _ _ (by decide)).trans g4.2.2.1, (hf _ _ _ (by decide)).trans g4.2.2.2.1, (hf _ _ _ (by decide)).trans g4.2.2.2.2.1, (hf _ _ _ (by decide)).trans g4.2.2.2.2.2⟩, hz, hc⟩, fun z => absurd (by decide) z⟩
    | succ d ih =>
      intro j Z hj h2 hf hz hc
      refine ⟨fun z => absurd z (nI_ge (a := j) (b := 5) (by omega) (by decide)), fun _ => ?_⟩
      rw [show (293 : Int32) = nI 293 from rfl, nI_add]
      refine t11_lay0 (by omega) ((hf _ _ _ (by decide)).trans g4.2.2.2.1) ?_
      rintro x18 rfl
      rw [nI_1]
      refine ih (j + 1) _ (by omega) h2 (fun f i k e => (sI_n (by omega)).trans (hf f i k e)) (fun k hk => (sI_n (by omega)).trans (hz k hk)) (fun k hk => ?_)
      by_cases y : k = j
      · rw [y, sI_s]
      · rw [sI_n (by omega)]; exact hc k (by omega)
  have lp : ∀ d j (Z : Mem), j + d = 298 → Z.2 = W.2 → (∀ f i k, f ≠ 54 → Z.1 f i k = W.1 f i k) → (∀ k, k < j → Z.1 54 0 k = 0) → b_X11_keepText_91 Q (d + 1) (nI j) Z := by
    intro d
    induction d with
    | zero =>
      intro j Z hj h2 hf hc
      have : j = 298 := by omega
      subst this
      exact ⟨fun _ => ⟨6, lp2 5 0 Z rfl h2 hf (fun k hk => hc k (by omega)) (fun k hk => absurd hk (Nat.not_lt_zero _))⟩, fun z => absurd (by decide) z⟩
    | succ d ih =>
      intro j Z hj h2 hf hc
      refine ⟨fun z => absurd z (nI_ge (a := j) (b := 298) (by omega) (by decide)), fun _ => ?_⟩
      refine t11_lay0 (by omega) ((hf _ _ _ (by decide)).trans g4.2.2.2.1) ?_
      rintro x20 rfl
      rw [nI_1]
      refine ih (j + 1) _ (by omega) h2 (fun f i k e => (sI_n (by omega)).trans (hf f i k e)) (fun k hk => ?_)
      by_cases y : k = j
      · rw [y, sI_s]
      · rw [sI_n (by omega)]; exact hc k (by omega)
  exact ⟨299, lp 298 0 W rfl rfl (fun _ _ _ _ => rfl) (fun k hk => absurd hk (Nat.not_lt_zero _))⟩
/-- the text's numbers before the first line -/
def U0 : Txt := fun t j => if t = 0 then (if j = 2 then 5 else if j = 3 then 29 else if j = 6 then 15 else 0) else 0
theorem TB_U0 : TB U0 := by
  refine ⟨by decide, by decide, by decide, by decide, by decide, by decide, by decide, by decide, by decide, by decide, by decide, by decide, fun b hb => absurd hb (Nat.not_lt_zero _), fun i hi => absurd hi (Nat.not_lt_zero _)⟩
def PlY (Y Z : Mem) : Prop := Z.2 = Y.2 ∧ (∀ f i k, ¬ (f = 40 ∧ (k = 12 ∨ k = 15)) → ¬ (f = 45 ∧ 24 ≤ k) → ¬ f = 46 → Z.1 f i k = Y.1 f i k) ∧ ReadR U0 Z ∧ ∀ k, k < 12 → Z.1 46 0 k = 0
theorem t11_plain {Y : Mem} {Q : Mem → Prop} (h : ∀ Z, PlY Y Z → Q Z) : p_X11_plain Y Q := by
  rintro M1 rfl M2 rfl
  have lp3 : ∀ d j (Z W : Mem), j + d = 12 → Z.2 = W.2 → (∀ f i k, f ≠ 46 → Z.1 f i k = W.1 f i k) → (∀ k, k < j → Z.1 46 0 k = 0) → (∀ Z', Z'.2 = W.2 → (∀ f i k, f ≠ 46 → Z'.1 f i k = W.1 f i k) → (∀ k, k < 12 → Z'.1 46 0 k = 0) → Q Z') → b_X11_plain_77 Q (d + 1) (nI j) Z := by
    intro d
    induction d with
    | zero =>
      intro j Z W hj h2 hf hc hK
      have : j = 12 := by omega
      subst this
      exact ⟨fun _ => hK Z h2 hf hc, fun z => absurd (by decide) z⟩
    | succ d ih =>
      intro j Z W hj h2 hf hc hK
      refine ⟨fun z => absurd z (nI_ge (a := j) (b := 12) (by omega) (by decide)), fun _ => ⟨vp_in_nI (by omega) (by decide), ?_⟩⟩
      rw [nI_clamp (by omega)]
      rintro M10 rfl x11 rfl
      rw [nI_1]
      refine ih (j + 1) _ W (by omega) h2 (fun f i k e => (sI_n (by omega)).trans (hf f i k e)) (fun k hk => ?_) hK
      by_cases y : k = j
      · rw [y, sI_s]; rfl
      · rw [sI_n (by omega)]; exact hc k (by omega)
  have lp : ∀ d j (Z : Mem), j + d = 5 → Z.2 = Y.2 → (∀ f i k, ¬ (f = 40 ∧ (k = 12 ∨ k = 15)) → ¬ (f = 45 ∧ 24 ≤ k) → Z.1 f i k = Y.1 f i k) → Z.1 40 0 12 = 0 → Z.1 40 0 15 = 0 → (∀ k, k < j → Z.1 45 0 (29 + k) = 0) → b_X11_plain_12 Q (d + 1) (nI j) Z := by
    intro d
    induction d with
    | zero =>
      intro j Z hj h2 hf z12 z15 hc
      have : j = 5 := by omega
      subst this
      refine ⟨fun _ => ⟨vp_in_nI (n := 24) (by decide) (by decide), ?_⟩, fun z => absurd (by decide) z⟩
      rintro M4 rfl
      refine ⟨vp_in_nI (n := 25) (by decide) (by decide), ?_⟩
      rintro M5 rfl
      refine ⟨vp_in_nI (n := 26) (by decide) (by decide), ?_⟩
      rintro M6 rfl
      refine ⟨vp_in_nI (n := 27) (by decide) (by decide), ?_⟩
      rintro M7 rfl
      refine ⟨vp_in_nI (n := 28) (by decide) (by decide), ?_⟩
      rintro M8 rfl
      rw [show (24 : Int32).toNatClampNeg = 24 from rfl, show (25 : Int32).toNatClampNeg = 25 from rfl, show (26 : Int32).toNatClampNeg = 26 from rfl, show (27 : Int32).toNatClampNeg = 27 from rfl, show (28 : Int32).toNatClampNeg = 28 from rfl]
      refine ⟨13, lp3 12 0 _ _ rfl rfl (fun _ _ _ _ => rfl) (fun k hk => absurd hk (Nat.not_lt_zero _)) (fun Z' q1 q2 q3 => h Z' ⟨q1.trans h2, fun f i k e1 e2 e3 => ?_, ⟨?_, ?_, fun b k hb => absurd hb (Nat.not_lt_zero _), fun i j hi => absurd hi (Nat.not_lt_zero _), fun k hk => ?_⟩, q3⟩)⟩
      · rw [q2 _ _ _ e3, sI_n (by omega), sI_n (by omega), sI_n (by omega), sI_n (by omega), sI_n (by omega)]; exact hf f i k e1 e2
      · rw [q2 _ _ _ (by decide), sI_n (by omega), sI_n (by omega), sI_n (by omega), sI_n (by omega), sI_n (by omega)]; exact z12
      · rw [q2 _ _ _ (by decide), sI_n (by omega), sI_n (by omega), sI_n (by omega), sI_n (by omega), sI_n (by omega)]; exact z15
      · rw [q2 _ _ _ (by decide)]
        have : k = 0 ∨ k = 1 ∨ k = 2 ∨ k = 3 ∨ k = 4 ∨ 5 ≤ k := by omega
        rcases this with rfl | rfl | rfl | rfl | rfl | y
        · rw [sI_n (by omega), sI_n (by omega), sI_n (by omega), sI_n (by omega), sI_s]; rfl
        · rw [sI_n (by omega), sI_n (by omega), sI_n (by omega), sI_s]; rfl
        · rw [sI_n (by omega), sI_n (by omega), sI_s]; rfl
        · rw [sI_n (by omega), sI_s]; rfl
        · rw [sI_s]; rfl
        · rw [sI_n (by omega), sI_n (by omega), sI_n (by omega), sI_n (by omega), sI_n (by omega), show 24 + k = 29 + (k - 5) from by omega, hc (k - 5) (by omega)]
          have : U0 0 (2 + k) = 0 := by unfold U0; rw [if_pos rfl, if_neg (by omega), if_neg (by omega), if_neg (by omega)]
          rw [this]; rfl
    | succ d ih =>
      intro j Z hj h2 hf z12 z15 hc
      refine ⟨fun z => absurd z (nI_ge (a := j) (b := 5) (by omega) (by decide)), fun _ => ?_⟩
      rw [show (29 : Int32) = nI 29 from rfl, nI_add, nI_clamp (by omega)]
      refine ⟨vp_in_nI (by omega) (by decide), ?_⟩
      rintro M12 rfl x13 rfl
      rw [nI_1]
      refine ih (j + 1) _ (by omega) h2 (fun f i k e e2 => (sI_n (by omega)).trans (hf f i k e e2)) ((sI_n (by omega)).trans z12) ((sI_n (by omega)).trans z15) (fun k hk => ?_)
      by_cases y : k = j
      · rw [y, sI_s]
      · rw [sI_n (by omega)]; exact hc k (by omega)
  exact ⟨6, lp 5 0 _ rfl rfl (fun f i k e e2 => (sI_n (by omega)).trans (sI_n (by omega))) ((sI_n (by omega)).trans sI_s) sI_s (fun k hk => absurd hk (Nat.not_lt_zero _))⟩
