/-! op 1: text -/
def AwX (w : Nat) (X Z : Mem) : Prop := Z.2.1 = X.2.1 ∧ (∀ f i k, f ≠ 2 → Z.2.2 f i k = X.2.2 f i k) ∧ ∀ f i k, ¬ (f = 2 ∨ f = 3 ∨ (f = 23 ∧ i = w) ∨ ((f = 25 ∨ f = 26) ∧ 5 * w ≤ i ∧ i < 5 * w + 5)) → Z.1 f i k = X.1 f i k
theorem FwX.aw {w : Nat} {X Z : Mem} (h : FwX w X Z) : AwX w X Z := ⟨h.1, fun f i k e => h.2.1 f i k (fun z => e z.1), h.2.2⟩
theorem AwX.tr {w : Nat} {X Z V : Mem} (h : AwX w X Z) (h2 : AwX w Z V) : AwX w X V := ⟨h2.1.trans h.1, fun f i k e => (h2.2.1 f i k e).trans (h.2.1 f i k e), fun f i k e => (h2.2.2 f i k e).trans (h.2.2 f i k e)⟩
theorem StlX.aw {w : Nat} {X Z : Mem} (h : StlX w X Z) : AwX w X Z := ⟨by rw [h.1], fun f i k e => by rw [h.1], fun f i k e => h.2 f i k (by omega)⟩
def AwY (Y Z : Mem) : Prop := Z.2 = Y.2 ∧ ∀ f i k, ¬ (f = 40 ∧ (k = 1 ∨ k = 2 ∨ k = 4 ∨ k = 5 ∨ k = 6 ∨ k = 7 ∨ k = 8 ∨ k = 9 ∨ k = 10 ∨ k = 12 ∨ k = 15 ∨ k = 19)) → ¬ (f = 43 ∧ 70 ≤ k) → ¬ (f = 44 ∧ 30 ≤ k) → ¬ (f = 45 ∧ 24 ≤ k) → ¬ f = 46 → Z.1 f i k = Y.1 f i k
theorem FwY.aw {Y Z : Mem} (h : FwY Y Z) : AwY Y Z := ⟨h.1, fun f i k a b c d e => h.2 f i k (fun z => a ⟨z.1, by omega⟩) b c d e⟩
theorem AwY.tr {Y Z V : Mem} (h : AwY Y Z) (h2 : AwY Z V) : AwY Y V := ⟨h2.1.trans h.1, fun f i k a b c d e => (h2.2 f i k a b c d e).trans (h.2 f i k a b c d e)⟩
theorem WXw.mvw {T : Txt} {w : Nat} {X Z : Mem} (hT : T 0 0 ≤ 5) (h3 : ∀ k, Z.1 23 w k = X.1 23 w k) (h5 : ∀ b k, b < 5 → Z.1 25 (5 * w + b) k = X.1 25 (5 * w + b) k) (h6 : ∀ b k, b < 5 → Z.1 26 (5 * w + b) k = X.1 26 (5 * w + b) k) (H : WXw T w X) : WXw T w Z := by
  unfold WXw at H ⊢
  obtain ⟨a1, a2, a3, a4, a5, a6, a7, a8, a9, a10⟩ := H
  exact ⟨(h3 _).trans a1, (h3 _).trans a2, (h3 _).trans a3, (h3 _).trans a4, (h3 _).trans a5, (h3 _).trans a6, (h3 _).trans a7, (h3 _).trans a8, fun e => ⟨(h3 _).trans (a9 e).1, (h3 _).trans (a9 e).2.1, (h3 _).trans (a9 e).2.2.1, (h3 _).trans (a9 e).2.2.2⟩, fun b hb => (a10 b hb).mv (fun k => h5 b k (by omega)) (fun k => h6 b k (by omega)) rfl (fun k i z => ⟨z, rfl, rfl⟩)⟩
theorem OutX.mvw {T : Txt} {w : Nat} {X Z : Mem} (hT : T 0 0 ≤ 5) (h3 : ∀ k, Z.1 23 w k = X.1 23 w k) (h5 : ∀ b k, b < 5 → Z.1 25 (5 * w + b) k = X.1 25 (5 * w + b) k) (H : OutX T w X) : OutX T w Z := by
  obtain ⟨⟨v, v1, v2, v3⟩, ⟨u, u1, u2, u3⟩, hc⟩ := H
  refine ⟨⟨v, v1, (h3 _).trans v2, v3⟩, ⟨u, u1, (h3 _).trans u2, u3⟩, fun b hb => ?_⟩
  obtain ⟨c, c1, c2, c3⟩ := hc b hb
  exact ⟨c, c1, (h5 b _ (by omega)).trans c2, c3⟩
theorem rel_fail {X Y Z V : Mem} (hR : Rel X Y) (hx : ∀ w, w < 2 → X.2.2 0 0 4 = some (23 + w) → AwX w X Z) (hy : AwY Y V) (ht : V.1 40 0 1 = 0) (hf : Z.1 2 0 0 = V.1 40 0 4) (hf2 : Z.1 2 0 1 = V.1 40 0 5) : Rel (sI Z 0 0 1 0) V := by
  obtain ⟨T, w, h1, h2, h3, h4, h5, h6, h7, h8, h9, h10, h11, h12, h13⟩ := hR
  have hw := h2.1
  have hA := hx (1 - w) (by omega) h2.2.2
  have t5 := h1.1
  let Wx : Mem := (fun f i k => if (f = 0 ∧ k = 1) ∨ f = 2 ∨ f = 3 ∨ f = 23 ∨ f = 25 ∨ f = 26 then (sI Z 0 0 1 0).1 f i k else X.1 f i k, X.2.1, X.2.2)
  let Wy : Mem := (fun f i k => if f = 40 ∧ (k = 1 ∨ k = 4 ∨ k = 5) then V.1 f i k else Y.1 f i k, Y.2)
  have ax : AgX Wx (sI Z 0 0 1 0) := by
    refine ⟨fun f i k e => ?_, fun i _ => ?_, fun k => ?_⟩
    · show _ = (if _ then _ else _)
      by_cases y : (f = 0 ∧ k = 1) ∨ f = 2 ∨ f = 3 ∨ f = 23 ∨ f = 25 ∨ f = 26
      · rw [if_pos y]
      · rw [if_neg y, sI_n (by omega)]; exact hA.2.2 f i k (by omega)
    · show Z.2.1 30 i 8 = X.2.1 30 i 8
      rw [hA.1]
    · exact hA.2.1 0 0 k (by decide)
  have ay : AgY Wy V := by
    intro f k e
    show _ = (if _ then _ else _)
    by_cases y : f = 40 ∧ (k = 1 ∨ k = 4 ∨ k = 5)
    · rw [if_pos y]
    · rw [if_neg y]
      refine hy.2 f 0 k (fun z => ?_) (fun z => ?_) (fun z => ?_) (fun z => ?_) (fun z => ?_)
      · obtain ⟨rfl, z⟩ := z
        have : k = 2 ∨ k = 6 ∨ k = 7 ∨ k = 8 ∨ k = 9 ∨ k = 10 ∨ k = 12 ∨ k = 15 ∨ k = 19 := by omega
        rcases this with rfl | rfl | rfl | rfl | rfl | rfl | rfl | rfl | rfl <;> exact absurd e (by decide)
      · obtain ⟨rfl, z⟩ := z; have e : decide (k < 70) = true := e; have := of_decide_eq_true e; omega
      · obtain ⟨rfl, z⟩ := z; have e : decide (k < 30) = true := e; have := of_decide_eq_true e; omega
      · obtain ⟨rfl, z⟩ := z; have e : decide (k < 17) = true := e; have := of_decide_eq_true e; omega
      · rw [z] at e; exact absurd e Bool.false_ne_true
  have g3 : ∀ k, (sI Z 0 0 1 0).1 23 w k = X.1 23 w k := fun k => (sI_n (by omega)).trans (hA.2.2 _ _ _ (by omega))
  have g5 : ∀ b k, b < 5 → (sI Z 0 0 1 0).1 25 (5 * w + b) k = X.1 25 (5 * w + b) k := fun b k hb => (sI_n (by omega)).trans (hA.2.2 _ _ _ (by omega))
  have g6 : ∀ b k, b < 5 → (sI Z 0 0 1 0).1 26 (5 * w + b) k = X.1 26 (5 * w + b) k := fun b k hb => (sI_n (by omega)).trans (hA.2.2 _ _ _ (by omega))
  have q5 : TYr T Wy := h5
  have q6 : MYr T Wy := h6
  have q9 : StR (T 0 0) Wx 0 Wy 0 := h9
  have q10 : ImgR (T 0 0) Wx Wy := h10
  have q11 : PastR (T 0 0) Wx Wy := h11
  have q12 : WaysR Wx := h12
  refine ⟨T, w, h1, ⟨hw, (hA.2.1 0 0 3 (by decide)).trans h2.2.1, (hA.2.1 0 0 4 (by decide)).trans h2.2.2⟩, h3.mvw t5 g3 g5 g6, h4.mvw t5 g3 g5, q5.ag h1 ay.t, q6.ag ay.t, ⟨0, by decide, sI_s, ht, fun k hk => absurd hk (Nat.not_lt_zero _)⟩, ⟨(sI_n (by decide)).trans hf, (sI_n (by decide)).trans hf2⟩, q9.ag ax ay (by decide) (by decide), q10.ag ax ay, q11.ag ax ay, q12.ag ax.t, ?_⟩
  refine h13.ag ⟨(sI_n (by decide)).trans (hA.2.2 _ _ _ (by omega)), fun k => (sI_n (by omega)).trans (hA.2.2 _ _ _ (by omega)), fun k => (sI_n (by omega)).trans (hA.2.2 _ _ _ (by omega))⟩
theorem t10_empty {M : Mem} {Q : Mem → Prop} (h : ∀ Z, Z.2 = M.2 → (∀ f i k, ¬ (f = 27 ∧ i = 0 ∧ k = 1) → ¬ (f = 29 ∧ i = 0) → Z.1 f i k = M.1 f i k) → Z.1 27 0 1 = 0 → (∀ k, k < 5 → Z.1 29 0 k = -1) → Q Z) : p_X8_empty 0 M Q := by
  rintro M1 rfl
  have lp : ∀ d j (Z : Mem), j + d = 5 → Z.2 = M.2 → (∀ f i k, ¬ (f = 27 ∧ i = 0 ∧ k = 1) → ¬ (f = 29 ∧ i = 0) → Z.1 f i k = M.1 f i k) → Z.1 27 0 1 = 0 → (∀ k, k < j → Z.1 29 0 k = -1) → b_X8_empty_7 Q (d + 1) 0 (nI j) Z := by
    intro d
    induction d with
    | zero =>
      intro j Z hj h2 hf h0 hc
      have : j = 5 := by omega
      subst this
      exact ⟨fun _ => h Z h2 hf h0 hc, fun z => absurd (by decide) z⟩
    | succ d ih =>
      intro j Z hj h2 hf h0 hc
      refine ⟨fun z => absurd z (nI_ge (a := j) (b := 5) (by omega) (by decide)), fun _ => ⟨vp_in_nI (by omega) (by decide), ?_⟩⟩
      rw [nI_clamp (by omega)]
      rintro M3 rfl x4 rfl
      rw [nI_1]
      refine ih (j + 1) _ (by omega) h2 (fun f i k e e2 => (sI_n (by omega)).trans (hf f i k e e2)) ((sI_n (by omega)).trans h0) (fun k hk => ?_)
      by_cases y : k = j
      · rw [y, sI_s]
      · rw [sI_n (by omega)]; exact hc k (by omega)
  exact ⟨6, lp 5 0 _ rfl rfl (fun f i k e e2 => sI_n (by omega)) sI_s (fun k hk => absurd hk (Nat.not_lt_zero _))⟩
def O0 : Nat → Bool := fun _ => false
theorem t10_start {w N : Nat} {B : Nat → Nat} {X : Mem} (hB : TxB B N) (hw : w < 2) (hb : ∀ k, k < N → X.1 1 0 k = nI (B k)) {Q : Int32 → Mem → Prop} (h : ∀ Z, AwX w X Z → LnX U0 O0 w B N 0 Z → ∃ n, b_X6_readAll_1_52 Q n 0 0 Z) : p_X6_readAll_1 (nI N) w X Q := by
  have hN := hB.n
  rintro M1 rfl M2 rfl M3 rfl M4 rfl
  refine ⟨w, sR_s, hw, ?_⟩
  rintro A1 rfl A2 rfl A3 rfl A4 rfl A5 rfl A6 rfl A7 rfl A8 rfl A9 rfl M7 rfl M8 rfl
  rw [if_neg (show ¬ (700 : Int32) < nI N from by rw [show (700 : Int32) = nI 700 from rfl]; exact nI_nlt hN (by decide))]
  have hS : ∀ M : Mem, M = sI (sI (sI (sI (sI (sI (sI (sI (sI (sI (sI (sR (sI (sI (sR X 2 0 2 (some (1 + 0))) 2 0 3 (nI N)) 2 0 4 0) 2 0 8 (some (23 + w))) 23 w 1 0) 23 w 2 0) 23 w 3 5) 23 w 4 29) 23 w 7 0) 23 w 8 0) 23 w 9 15) 23 w 10 0) 23 w 15 0) 2 0 0 0) 2 0 1 (-1) → AwX w X M ∧ LcX U0 O0 w B N M ∧ M.1 2 0 4 = nI 0 := by
    rintro M rfl
    refine ⟨⟨rfl, fun f i k e => ?_, fun f i k e => ?_⟩, ⟨⟨?_, ?_, fun k hk => ?_⟩, by simp [sI, sR], ⟨?_, ?_⟩, ⟨?_, ?_, ?_, ?_, ?_, ?_, ?_, ?_, fun e => absurd e (by decide), fun b hb => absurd hb (Nat.not_lt_zero _)⟩, 0, by decide, ?_, fun k _ _ => by simp [O0]⟩, ?_⟩
    · exact (sR_n (by omega)).trans (sR_n (by omega))
    · rw [sI_n (by omega), sI_n (by omega), sI_n (by omega), sI_n (by omega), sI_n (by omega), sI_n (by omega), sI_n (by omega), sI_n (by omega), sI_n (by omega), sI_n (by omega), sI_n (by omega)]
      show (sI (sI (sR X 2 0 2 (some (1 + 0))) 2 0 3 (nI N)) 2 0 4 0).1 f i k = _
      rw [sI_n (by omega), sI_n (by omega)]; rfl
    · simp [sI, sR]
    · simp [sI, sR]
    · simpa [sI, sR] using hb k hk
    · simp [sI, sR]
    · simp [sI, sR]
    · simp [sI, sR]; rfl
    · simp [sI, sR]; rfl
    · simp [sI, sR]; rfl
    · simp [sI, sR]; rfl
    · simp [sI, sR]; rfl
    · simp [sI, sR]; rfl
    · simp [sI, sR]; rfl
    · simp [sI, sR]; rfl
    · simp [sI, sR]; rfl
    · simp [sI, sR]; rfl
  obtain ⟨s1, s2, s3⟩ := hS _ rfl
  refine t10_tok hN hB.b (Nat.zero_le _) s2.1 s3 (fun Z a b => h Z (s1.tr (FwX.aw a.fx)) ⟨s2.k a, b⟩)
theorem t11_start {N : Nat} {B : Nat → Nat} {Y M1 : Mem} (hB : TxB B N) (hb : ∀ k, k < N → Y.1 41 0 k = nI (B k)) (hW : WdY Y) (hM : M1 = sI Y 40 0 2 0) {Q : Int32 → Mem → Prop} (h : ∀ Z, AwY Y Z → Z.1 40 0 1 = 0 → LnY U0 O0 B N 0 Z → ∃ n, b_X11_text_55 Q n 0 Z) : ∀ M4 : Mem, M4 = sI M1 40 0 6 (nI N) → ∀ M5 : Mem, M5 = sI M4 40 0 1 0 → ∀ M6 : Mem, M6 = sI M5 40 0 4 0 → ∀ M7 : Mem, M7 = sI M6 40 0 5 (-1) → ∀ M8 : Mem, M8 = sI M7 40 0 7 0 → p_X11_plain M8 (fun M9 => p_X11_token M9 (fun M10 => ∃ n55, b_X11_text_55 Q n55 0 M10)) := by
  have hN := hB.n
  subst hM
  rintro M4 rfl M5 rfl M6 rfl M7 rfl M8 rfl
  refine t11_plain (fun Z p1 => ?_)
  obtain ⟨p1, p2, p3, p4⟩ := p1
  have f41 : ∀ k, Z.1 41 0 k = Y.1 41 0 k := fun k => by
    rw [p2 _ _ _ (by omega) (by omega) (by omega), sI_n (by omega), sI_n (by omega), sI_n (by omega), sI_n (by omega), sI_n (by omega), sI_n (by omega)]
  have f42 : ∀ k, Z.1 42 0 k = Y.1 42 0 k := fun k => by
    rw [p2 _ _ _ (by omega) (by omega) (by omega), sI_n (by omega), sI_n (by omega), sI_n (by omega), sI_n (by omega), sI_n (by omega), sI_n (by omega)]
  have hL : LcY U0 O0 B N Z := by
    refine ⟨⟨?_, fun k hk => (f41 k).trans (hb k hk)⟩, fun k hk => (f42 k).trans (hW k hk), ⟨?_, ?_⟩, p3, fun k _ hk => p4 k hk⟩
    · rw [p2 _ _ _ (by omega) (by omega) (by omega), sI_n (by omega), sI_n (by omega), sI_n (by omega), sI_n (by omega), sI_s]
    · rw [p2 _ _ _ (by omega) (by omega) (by omega), sI_n (by omega), sI_n (by omega), sI_s]
    · rw [p2 _ _ _ (by omega) (by omega) (by omega), sI_n (by omega), sI_s]
  have a1 : AwY Y Z := ⟨p1, fun f i k e1 e2 e3 e4 e5 => by
    rw [p2 _ _ _ (by omega) (by omega) (by omega), sI_n (by omega), sI_n (by omega), sI_n (by omega), sI_n (by omega), sI_n (by omega), sI_n (by omega)]⟩
  have z1 : Z.1 40 0 1 = 0 := by
    rw [p2 _ _ _ (by omega) (by omega) (by omega), sI_n (by omega), sI_n (by omega), sI_n (by omega), sI_s]
  have z7 : Z.1 40 0 7 = nI 0 := by
    rw [p2 _ _ _ (by omega) (by omega) (by omega), sI_s]; rfl
  exact t11_tok hN hB.b (Nat.zero_le _) hL.1 hL.2.1 z7 (fun Z2 g1 g2 => h Z2 (a1.tr (FwY.aw g1.fy)) ((g1.2 40 0 1 (by omega)).trans z1) ⟨hL.k g1, g2⟩)
theorem rel_done {X Y Z F V W : Mem} {U : Txt} {w : Nat} (hR : Rel X Y) (hw : w < 2) (hU : TB U) (hx : AwX w X Z) (hW : WXw U w Z) (hO : OutX U w Z) (hf : Z.1 2 0 0 = 0 ∧ Z.1 2 0 1 = -1) (hF1 : F.1 0 0 1 = 0 ∧ F.1 0 0 9 = 0 ∧ F.1 27 0 1 = 0 ∧ F.1 21 0 2 = 0 ∧ F.1 5 0 4 = -1) (hF2 : ∀ k, k < 5 → F.1 29 0 k = -1) (hF3 : ∀ f i k, f ≠ 0 → f ≠ 27 → f ≠ 29 → ¬ (f = 21 ∧ k = 2) → f ≠ 5 → F.1 f i k = Z.1 f i k) (hF4 : F.2.2 0 0 3 = some (23 + w) ∧ F.2.2 0 0 4 = some (23 + (1 - w))) (hy : AwY Y V) (hk : KpY U V W) (ht : V.1 40 0 1 = 0) (hfy : V.1 40 0 4 = 0 ∧ V.1 40 0 5 = -1) : Rel F W := by
  obtain ⟨T, w0, h1, h2, h3, h4, h5, h6, h7, h8, h9, h10, h11, h12, h13⟩ := hR
  obtain ⟨k1, k2, k3, ⟨k4, k5, k6, k7, k8, k9⟩, k10, k11⟩ := hk
  have t5 := hU.1
  have w40 : ∀ k, ¬ (k = 11 ∨ k = 14 ∨ k = 22 ∨ k = 23 ∨ k = 24 ∨ k = 35 ∨ k = 36 ∨ k = 37) → W.1 40 0 k = V.1 40 0 k := fun k e => k2 _ _ _ (fun z => e z.2) (by omega) (by omega) (by omega) (by omega) (by omega)
  refine ⟨U, w, hU, ⟨hw, hF4.1, hF4.2⟩, hW.mvw t5 (fun k => hF3 _ _ _ (by decide) (by decide) (by decide) (by omega) (by decide)) (fun b k _ => hF3 _ _ _ (by decide) (by decide) (by decide) (by omega) (by decide)) (fun b k _ => hF3 _ _ _ (by decide) (by decide) (by decide) (by omega) (by decide)), hO.mvw t5 (fun k => hF3 _ _ _ (by decide) (by decide) (by decide) (by omega) (by decide)) (fun b k _ => hF3 _ _ _ (by decide) (by decide) (by decide) (by omega) (by decide)), k3, ⟨k7, k4, k5, k6, fun k hk => ?_, fun k hk => ?_⟩, ⟨0, by decide, hF1.1, ?_, fun k hk => absurd hk (Nat.not_lt_zero _)⟩, ⟨?_, ?_⟩, ⟨0, by decide, hF1.2.2.1, k10 292 (by decide), fun j hj => absurd hj (Nat.not_lt_zero _), fun b hb => ?_⟩, ⟨?_, Or.inl hF1.2.1, fun z => absurd (hF1.2.1.symm.trans z) (by decide)⟩, ?_, fun s hs => ?_, Or.inl hF1.2.2.2.2⟩
  · rw [k2 _ _ _ (by omega) (by omega) (by omega) (by omega) (by omega) (by omega), hy.2 _ _ _ (by omega) (by omega) (by omega) (by omega) (by omega)]; exact h6.2.2.2.2.1 k hk
  · rw [k2 _ _ _ (by omega) (by omega) (by omega) (by omega) (by omega) (by omega), hy.2 _ _ _ (by omega) (by omega) (by omega) (by omega) (by omega)]; exact h6.2.2.2.2.2 k hk
  · exact (w40 1 (by decide)).trans ht
  · rw [hF3 _ _ _ (by decide) (by decide) (by decide) (by omega) (by decide), hf.1, w40 4 (by decide), hfy.1]
  · rw [hF3 _ _ _ (by decide) (by decide) (by decide) (by omega) (by decide), hf.2, w40 5 (by decide), hfy.2]
  · rw [hF2 b hb]
    show RngR (U 0 0) b (-1) (W.1 54 0 (298 * 0 + 293 + b))
    rw [show 298 * 0 + 293 + b = 293 + b from by omega, k11 b hb]
    exact ⟨rfl, Or.inl rfl, fun _ => rfl⟩
  · rw [hF1.2.1]; exact k9.symm
  · obtain ⟨n, v, p1, p2, p3, p4, p5, p6⟩ := h11
    refine ⟨0, v, by decide, p2, hF1.2.2.2.1, k8, ?_, fun i hi => absurd hi (Nat.not_lt_zero _)⟩
    rw [hF3 _ _ _ (by decide) (by decide) (by decide) (by omega) (by decide), hx.2.2 _ _ _ (by omega)]; exact p5
  · rw [hF3 _ _ _ (by decide) (by decide) (by decide) (by omega) (by decide), hx.2.2 _ _ _ (by omega)]; exact h12 s hs
theorem op_1 (X Y : Mem) (a1 : Int32) (hR : Rel X Y) : p_X10_text a1 X (fun r X1 => p_X11_text a1 Y (fun r1 Y1 => r = r1 ∧ Rel X1 Y1)) := by
  obtain ⟨T, w, h1, h2, h3, h4, h5, h6, h7, h8, h9, h10, h11, h12, h13⟩ := id hR
  obtain ⟨n, hn, hx, hy, ht⟩ := id h7
  have hw := h2.1
  have hy0 : (sI Y 40 0 2 0).1 40 0 1 = nI n := by rw [sI_n (by decide)]; exact hy
  refine ⟨fun z => ?_, fun z => ⟨fun z2 => ?_, fun z2 => ?_⟩⟩
  · rintro M1 rfl
    exact ⟨fun _ => ⟨rfl, hR.th 0⟩, fun y => absurd z y⟩
  · rw [hx] at z2
    have hN : ∃ N, N < n + 1 ∧ a1 = nI N := by
      rcases pk_ix a1 (n := n + 1) (by omega) with y | y | y
      · exact absurd y z
      · exact absurd (Int32.le_trans y z2) (nI_ge (by omega) (by omega))
      · exact y
    obtain ⟨N, hNn, rfl⟩ := hN
    have hB : TxB (fun k => (X.1 1 0 k).toNatClampNeg) N := by
      refine ⟨by omega, fun k hk => ?_⟩
      obtain ⟨t, t1, t2, t3⟩ := ht k (by omega)
      show (X.1 1 0 k).toNatClampNeg < 256
      rw [t2, nI_clamp (by omega)]; exact t1
    have bx : ∀ k, k < N → X.1 1 0 k = nI ((fun k => (X.1 1 0 k).toNatClampNeg) k) := fun k hk => by
      obtain ⟨t, t1, t2, t3⟩ := ht k (by omega)
      show X.1 1 0 k = nI (X.1 1 0 k).toNatClampNeg
      rw [t2, nI_clamp (by omega)]
    have by' : ∀ k, k < N → Y.1 41 0 k = nI ((fun k => (X.1 1 0 k).toNatClampNeg) k) := fun k hk => by
      obtain ⟨t, t1, t2, t3⟩ := ht k (by omega)
      show Y.1 41 0 k = nI (X.1 1 0 k).toNatClampNeg
      rw [t2, nI_clamp (by omega)]; exact t3
    revert hB bx by'
    generalize (fun k => (X.1 1 0 k).toNatClampNeg) = B
    intro hB bx by'
    refine ⟨1 - w, h2.2.2, by omega, t10_start hB (by omega) bx (fun X1 q1 q2 => ?_)⟩
    have yT : ∀ (Q : Int32 → Mem → Prop), (∀ Z, AwY Y Z → Z.1 40 0 1 = 0 → LnY U0 O0 B N 0 Z → ∃ n, b_X11_text_55 Q n 0 Z) → p_X11_text (nI N) Y Q := by
      intro Q h
      rintro M1 rfl
      refine ⟨fun y => absurd y z, fun _ => ⟨fun _ => t11_start hB by' h6.2.2.2.2.2 rfl h, fun y => absurd (by rw [hy0]; exact z2) y⟩⟩
    rcases text_loop (w := 1 - w) hB (by omega) N 0 0 U0 O0 (Nat.le_refl _) (Nat.zero_le _) (by omega) TB_U0 with ⟨e, i1, i2⟩ | ⟨U', O', p', c', j1, j2, j3, j4⟩
    · refine ⟨N + 1, i1 X1 _ q2 (fun Z hZ => ?_)⟩
      rintro M5 rfl
      refine ⟨fun y => absurd y (by decide), fun _ => yT _ (fun Y1 y1 y2 y3 => ⟨N + 1, i2 Y1 _ y3 (fun V hV => ⟨rfl, ?_⟩)⟩)⟩
      refine rel_fail hR (fun w' hw' hr => ?_) (y1.tr (FwY.aw hV.1)) ((hV.1.2 40 0 1 (by omega) (by omega) (by omega) (by omega) (by omega)).trans y2) (hZ.2.1.trans hV.2.1.symm) (hZ.2.2.trans hV.2.2.symm)
      have : w' = 1 - w := by
        have := hr.symm.trans h2.2.2
        have := Option.some.inj this
        omega
      rw [this]
      exact q1.tr (FwX.aw hZ.1)
    · refine ⟨N + 1, j3 X1 _ q2 (fun Z hZ hL => ⟨1 - w, hL.1.2.1, by omega, t10_settle j1 (by omega) hL.1.2.2.2.1 (fun Z2 s1 s2 s3 => ?_)⟩)⟩
      have aX : AwX (1 - w) X Z2 := (q1.tr (FwX.aw hZ)).tr s1.aw
      rintro M5 rfl
      refine ⟨fun _ => ⟨w, (aX.2.1 0 0 3 (by decide)).trans h2.2.1, hw, 1 - w, (aX.2.1 0 0 4 (by decide)).trans h2.2.2, by omega, ?_⟩, fun y => absurd (nI_le (a := 0) (by omega) (by omega)) y⟩
      rintro M9 rfl M10 rfl
      refine t10_empty (fun Z3 m1 m2 m3 m4 => ?_)
      rintro M12 rfl M13 rfl M14 rfl
      refine yT _ (fun Y1 y1 y2 y3 => ⟨N + 1, j4 Y1 _ y3 (fun V hV hLV => t11_keep j1 hLV.1.2.2.2.1 (fun W hW => ⟨rfl, ?_⟩))⟩)
      refine rel_done (w := 1 - w) (Z := Z2) (V := V) hR (by omega) j1 aX s2 s3 ⟨?_, ?_⟩ ⟨?_, ?_, ?_, ?_, ?_⟩ (fun k hk => ?_) (fun f i k e0 e1 e2 e3 e4 => ?_) ⟨?_, ?_⟩ (y1.tr (FwY.aw hV)) hW ((hV.2 40 0 1 (by omega) (by omega) (by omega) (by omega) (by omega)).trans y2) hLV.1.2.2.1
      · exact (s1.2 2 0 0 (by omega)).trans hL.1.2.2.1.1
      · exact (s1.2 2 0 1 (by omega)).trans hL.1.2.2.1.2
      · rw [sI_n (by omega), sI_n (by omega), sI_n (by omega), m2 _ _ _ (by omega) (by omega)]
        show (sI Z2 0 0 1 0).1 0 0 1 = 0
        exact sI_s
      · rw [sI_n (by omega), sI_n (by omega), sI_s]
      · rw [sI_n (by omega), sI_n (by omega), sI_n (by omega)]; exact m3
      · rw [sI_n (by omega), sI_s]
      · exact sI_s
      · rw [sI_n (by omega), sI_n (by omega), sI_n (by omega)]; exact m4 k hk
      · rw [sI_n (by omega), sI_n (by omega), sI_n (by omega), m2 _ _ _ (by omega) (by omega)]
        exact sI_n (by omega)
      · show Z3.2.2 0 0 3 = _
        rw [m1]
        refine (sR_n (by omega)).trans sR_s
      · show Z3.2.2 0 0 4 = _
        rw [m1, show 1 - (1 - w) = w from by omega]
        exact sR_s
  · rw [hx] at z2
    rintro M1 rfl
    refine ⟨fun y => absurd y z, fun _ => ⟨fun y => absurd (by rw [hy0] at y; exact y) z2, fun _ => ⟨rfl, hR.th 0⟩⟩⟩
