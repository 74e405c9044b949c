/-! copies: the reference's banks, the class's States -/
def CB (a b : Nat) (M Z : Mem) : Prop := Z.2 = M.2 ∧ (∀ f i k, ¬ (f = 54 ∧ i = 0 ∧ 298 * b ≤ k ∧ k < 298 * b + 298) → Z.1 f i k = M.1 f i k) ∧ ∀ k, k < 298 → Z.1 54 0 (298 * b + k) = M.1 54 0 (298 * a + k)
theorem bk_ix (a j : Nat) : ((298 : Int32) * nI a) + nI j = nI (298 * a + j) := by
  rw [show (298 : Int32) = nI 298 from rfl, pk_mul, nI_add]
theorem t_copyBank {a b : Nat} (ha : a < 13) (hb : b < 13) (hab : a ≠ b) {M : Mem} {Q : Mem → Prop} (h : ∀ Z, CB a b M Z → Q Z) : p_X11_copyBank (nI a) (nI b) M Q := by
  have go : ∀ (d j : Nat) (Z : Mem), j + d = 298 → Z.2 = M.2 → (∀ f i k, ¬ (f = 54 ∧ i = 0 ∧ 298 * b ≤ k ∧ k < 298 * b + 298) → Z.1 f i k = M.1 f i k) → (∀ k, k < j → Z.1 54 0 (298 * b + k) = M.1 54 0 (298 * a + k)) → b_X11_copyBank_2 Q (d + 1) (nI a) (nI b) (nI j) Z := by
    intro d
    induction d with
    | zero =>
      intro j Z hj h1 h2 h3
      have : j = 298 := by omega
      subst this
      exact ⟨fun _ => h Z ⟨h1, h2, h3⟩, fun n => absurd (by decide) n⟩
    | succ d ih =>
      intro j Z hj h1 h2 h3
      refine ⟨fun n => absurd n ?_, fun _ => ?_⟩
      · rw [show (298 : Int32) = nI 298 from rfl]; exact nI_ge (by omega) (by omega)
      · rw [bk_ix, bk_ix, nI_clamp (by omega), nI_clamp (by omega)]
        refine ⟨vp_in_nI (by omega) (by omega), vp_in_nI (by omega) (by omega), ?_⟩
        rintro M3 rfl x4 rfl
        rw [nI_1]
        refine ih (j + 1) _ (by omega) h1 (fun f i k hn => ?_) (fun k hk => ?_)
        · show (if _ then _ else _) = _
          rw [if_neg (fun z => hn ⟨z.1, z.2.1, by omega, by omega⟩)]
          exact h2 f i k hn
        · show (if _ then _ else _) = _
          by_cases hkj : k = j
          · subst hkj
            rw [if_pos ⟨rfl, rfl, rfl⟩]
            exact h2 _ _ _ (fun z => by omega)
          · rw [if_neg (fun z => hkj (by omega))]
            exact h3 k (by omega)
  exact ⟨299, go 298 0 M rfl rfl (fun _ _ _ _ => rfl) (fun k hk => absurd hk (Nat.not_lt_zero k))⟩
/-- channel q is as channel r was; all else stays -/
def CC (q r : Nat) (M Z : Mem) : Prop := (∀ f i k, ¬ (f = 30 ∧ i = q) → Z.1 f i k = M.1 f i k) ∧ (∀ f i k, ¬ (f = 30 ∧ i = q) → Z.2.1 f i k = M.2.1 f i k) ∧ Z.2.2 = M.2.2 ∧ (∀ k, k < 10 → k ≠ 8 → Z.1 30 q k = M.1 30 r k) ∧ Z.2.1 30 q 8 = M.2.1 30 r 8
theorem t_chCopy {q r : Nat} (hqr : q ≠ r) {M : Mem} {Q : Mem → Prop} (h : ∀ Z, CC q r M Z → Q Z) : p_X1_copyFrom q r M Q := by
  rintro M1 rfl M2 rfl M3 rfl M4 rfl M5 rfl M6 rfl M7 rfl M8 rfl M9 rfl M10 rfl
  refine h _ ⟨fun f i k hn => ?_, fun f i k hn => ?_, rfl, fun k hk hk8 => ?_, ?_⟩
  · have e : ∀ k0 : Nat, ¬ (f = 30 ∧ i = q ∧ k = k0) := fun k0 z => hn ⟨z.1, z.2.1⟩
    simp only [sI, sL, e, if_false]
  · have e : ∀ k0 : Nat, ¬ (f = 30 ∧ i = q ∧ k = k0) := fun k0 z => hn ⟨z.1, z.2.1⟩
    simp only [sI, sL, e, if_false]
  · have hr : ¬ r = q := fun z => hqr z.symm
    match k, hk, hk8 with
    | 0, _, _ => simp [sI, sL, hr]
    | 1, _, _ => simp [sI, sL, hr]
    | 2, _, _ => simp [sI, sL, hr]
    | 3, _, _ => simp [sI, sL, hr]
    | 4, _, _ => simp [sI, sL, hr]
    | 5, _, _ => simp [sI, sL, hr]
    | 6, _, _ => simp [sI, sL, hr]
    | 7, _, _ => simp [sI, sL, hr]
    | 8, _, h8 => exact absurd rfl h8
    | 9, _, _ => simp [sI, sL, hr]
  · simp [sI, sL]
/-- State q is as State r of n channels was; all else stays -/
def CF (n q r : Nat) (M Z : Mem) : Prop := (∀ f i k, ¬ (f = 27 ∧ i = q) → ¬ (f = 29 ∧ i = q) → ¬ (f = 30 ∧ 4 * q ≤ i ∧ i < 4 * q + 4) → Z.1 f i k = M.1 f i k) ∧ (∀ f i k, ¬ (f = 30 ∧ 4 * q ≤ i ∧ i < 4 * q + 4) → Z.2.1 f i k = M.2.1 f i k) ∧ Z.2.2 = M.2.2 ∧ Z.1 27 q 1 = M.1 27 r 1 ∧ (∀ c k, c < n → k < 10 → k ≠ 8 → Z.1 30 (4 * q + c) k = M.1 30 (4 * r + c) k) ∧ (∀ c, c < n → Z.2.1 30 (4 * q + c) 8 = M.2.1 30 (4 * r + c) 8) ∧ ∀ b, b < 5 → Z.1 29 q b = M.1 29 r b
theorem t_stCopy {n q r : Nat} (hn : n ≤ 4) (hqr : q ≠ r) {M : Mem} (hc : M.1 27 r 1 = nI n) {Q : Mem → Prop} (h : ∀ Z, CF n q r M Z → Q Z) : p_X8_copyFrom q r M Q := by
  rintro M1 hM1
  have e1 : ∀ f i k, ¬ (f = 27 ∧ i = q) → M1.1 f i k = M.1 f i k := fun f i k hh => by
    rw [hM1]; exact if_neg (fun z => hh ⟨z.1, z.2.1⟩)
  have e2 : M1.2 = M.2 := by rw [hM1]; rfl
  have e3 : M1.1 27 q 1 = nI n := by rw [hM1, ← hc]; exact if_pos ⟨rfl, rfl, rfl⟩
  -- the ranges
  have rng : ∀ (M2 : Mem), (∀ d j (Z : Mem), j + d = 5 → Z.2 = M2.2 → (∀ f i k, ¬ (f = 29 ∧ i = q) → Z.1 f i k = M2.1 f i k) → (∀ b, b < j → Z.1 29 q b = M2.1 29 r b) → (∀ Z', Z'.2 = M2.2 → (∀ f i k, ¬ (f = 29 ∧ i = q) → Z'.1 f i k = M2.1 f i k) → (∀ b, b < 5 → Z'.1 29 q b = M2.1 29 r b) → Q Z') → b_X8_copyFrom_41 Q (d + 1) q r (nI j) Z) := by
    intro M2 d
    induction d with
    | zero =>
      intro j Z hj h1 h2 h3 hq
      have : j = 5 := by omega
      subst this
      exact ⟨fun _ => hq Z h1 h2 h3, fun z => absurd (by decide) z⟩
    | succ d ih =>
      intro j Z hj h1 h2 h3 hq
      refine ⟨fun z => absurd z ?_, fun _ => ⟨vp_in_nI (by omega) (by omega), vp_in_nI (by omega) (by omega), ?_⟩⟩
      · rw [show (5 : Int32) = nI 5 from rfl]; exact nI_ge (by omega) (by omega)
      · rintro M5 rfl x6 rfl
        rw [nI_1, nI_clamp (by omega)]
        refine ih (j + 1) _ (by omega) h1 (fun f i k hh => ?_) (fun b hb => ?_) hq
        · show (if _ then _ else _) = _
          rw [if_neg (fun z => hh ⟨z.1, z.2.1⟩)]; exact h2 f i k hh
        · show (if _ then _ else _) = _
          by_cases hbj : b = j
          · subst hbj
            rw [if_pos ⟨rfl, rfl, rfl⟩]
            exact h2 _ _ _ (fun z => hqr z.2.symm)
          · rw [if_neg (fun z => hbj z.2.2)]; exact h3 b (by omega)
  have chn : ∀ d j (Z : Mem), j + d = n → (∀ f i k, ¬ (f = 30 ∧ 4 * q ≤ i ∧ i < 4 * q + 4) → Z.1 f i k = M1.1 f i k) → (∀ f i k, ¬ (f = 30 ∧ 4 * q ≤ i ∧ i < 4 * q + 4) → Z.2.1 f i k = M1.2.1 f i k) → Z.2.2 = M1.2.2 → (∀ c k, c < j → k < 10 → k ≠ 8 → Z.1 30 (4 * q + c) k = M.1 30 (4 * r + c) k) → (∀ c, c < j → Z.2.1 30 (4 * q + c) 8 = M.2.1 30 (4 * r + c) 8) → b_X8_copyFrom_10 Q (d + 1) q r (nI j) Z := by
    intro d
    induction d with
    | zero =>
      intro j Z hj h1 h2 h3 h4 h5
      have : j = n := by omega
      subst this
      refine ⟨fun _ => ⟨6, rng Z 5 0 Z rfl rfl (fun _ _ _ _ => rfl) (fun b hb => absurd hb (Nat.not_lt_zero b)) (fun Z' g1 g2 g3 => h Z' ⟨fun f i k a1 a2 a3 => ?_, fun f i k a1 => ?_, ?_, ?_, fun c k hc' hk hk8 => ?_, fun c hc' => ?_, fun b hb => ?_⟩)⟩, fun z => absurd ?_ z⟩
      · rw [g2 f i k a2, h1 f i k a3, e1 f i k a1]
      · rw [g1, h2 f i k a1, e2]
      · rw [g1, h3, e2]
      · rw [g2 _ _ _ (fun z => by omega), h1 _ _ _ (fun z => by omega), e3, hc]
      · rw [g2 _ _ _ (fun z => by omega)]; exact h4 c k hc' hk hk8
      · rw [g1]; exact h5 c hc'
      · rw [g3 b hb, h1 _ _ _ (fun z => by omega), e1 _ _ _ (fun z => by omega)]
      · rw [h1 _ _ _ (fun z => by omega), e3]; exact Int32.le_refl _
    | succ d ih =>
      intro j Z hj h1 h2 h3 h4 h5
      refine ⟨fun z => absurd z ?_, fun _ => ⟨vp_in_nI (by omega) (by omega), vp_in_nI (by omega) (by omega), ?_⟩⟩
      · rw [h1 _ _ _ (fun z => by omega), e3]; exact nI_ge (by omega) (by omega)
      · rw [nI_clamp (by omega)]
        refine t_chCopy (by omega) (fun Z' g => ?_)
        rintro x10 rfl
        rw [nI_1]
        obtain ⟨g1, g2, g3, g4, g5⟩ := g
        refine ih (j + 1) Z' (by omega) (fun f i k a => ?_) (fun f i k a => ?_) (g3.trans h3) (fun c k hc' hk hk8 => ?_) (fun c hc' => ?_)
        · rw [g1 f i k (fun z => a ⟨z.1, by omega, by omega⟩)]; exact h1 f i k a
        · rw [g2 f i k (fun z => a ⟨z.1, by omega, by omega⟩)]; exact h2 f i k a
        · by_cases hcj : c = j
          · subst hcj
            rw [g4 k hk hk8, h1 _ _ _ (fun z => by omega), e1 _ _ _ (fun z => by omega)]
          · rw [g1 _ _ _ (fun z => by omega)]; exact h4 c k (by omega) hk hk8
        · by_cases hcj : c = j
          · subst hcj
            rw [g5, h2 _ _ _ (fun z => by omega), e2]
          · rw [g2 _ _ _ (fun z => by omega)]; exact h5 c (by omega)
  exact ⟨n + 1, chn n 0 M1 (by omega) (fun _ _ _ _ => rfl) (fun _ _ _ _ => rfl) rfl (fun c k hc' => absurd hc' (Nat.not_lt_zero c)) (fun c hc' => absurd hc' (Nat.not_lt_zero c))⟩
/-- what is alike in State and bank keeps the relation -/
theorem StR.to {nb n q r a b : Nat} {X X' Y Y' : Mem} (hn : X.1 27 r 1 = nI n) (hn4 : n ≤ 4) (x4 : X'.1 27 q 1 = X.1 27 r 1) (x5 : ∀ c k, c < n → k < 10 → k ≠ 8 → X'.1 30 (4 * q + c) k = X.1 30 (4 * r + c) k) (x6 : ∀ c, c < n → X'.2.1 30 (4 * q + c) 8 = X.2.1 30 (4 * r + c) 8) (x7 : ∀ b, b < 5 → X'.1 29 q b = X.1 29 r b) (y3 : ∀ k, k < 298 → Y'.1 54 0 (298 * b + k) = Y.1 54 0 (298 * a + k)) (H : StR nb X r Y a) : StR nb X' q Y' b := by
  obtain ⟨n', h1, h2, h3, h4, h5⟩ := H
  have hnn : n' = n := (nI_eq (by omega) (by omega)).mp (h2.symm.trans hn)
  subst hnn
  refine ⟨n', h1, x4.trans h2, (y3 292 (by omega)).trans h3, fun j hj => ?_, fun c hc => ?_⟩
  · obtain ⟨c1, c2, c3, c4, c5, c6, c7, c8, m, hm, c9, c10, c11⟩ := h4 j hj
    have e := fun k (hk : k < 10) (h8 : k ≠ 8) => x5 j k hj hk h8
    have d := fun k (hk : k < 73) => (by have := y3 (73 * j + k) (by omega); rw [← Nat.add_assoc, ← Nat.add_assoc] at this; exact this : Y'.1 54 0 (298 * b + 73 * j + k) = Y.1 54 0 (298 * a + 73 * j + k))
    refine ⟨?_, ?_, ?_, ?_, ?_, ?_, ?_, ?_, m, hm, ?_, ?_, fun i hi => ?_⟩
    · have d0 := d 0 (by omega); simp only [Nat.add_zero] at d0; rw [e 0 (by omega) (by omega), d0]; exact c1
    · rw [e 1 (by omega) (by omega), d 1 (by omega)]; exact c2
    · rw [e 2 (by omega) (by omega), d 2 (by omega)]; exact c3
    · rw [e 3 (by omega) (by omega), d 3 (by omega)]; exact c4
    · rw [e 4 (by omega) (by omega), d 4 (by omega)]; exact c5
    · rw [e 5 (by omega) (by omega), e 9 (by omega) (by omega), d 5 (by omega)]; exact c6
    · rw [e 6 (by omega) (by omega), d 6 (by omega), d 7 (by omega)]; exact c7
    · rw [e 7 (by omega) (by omega), d 7 (by omega)]; exact c8
    · rw [e 9 (by omega) (by omega)]; exact c9
    · rw [d 8 (by omega)]; exact c10
    · rw [x6 j hj, Nat.add_assoc, d (9 + i) (by omega), ← Nat.add_assoc]; exact c11 i hi
  · have := y3 (293 + c) (by omega)
    rw [← Nat.add_assoc, ← Nat.add_assoc] at this
    rw [x7 c hc, this]; exact h5 c hc
theorem StR.copy {nb n q r a b : Nat} {X X' Y Y' : Mem} (hn : X.1 27 r 1 = nI n) (hn4 : n ≤ 4) (hx : CF n q r X X') (hy : ∀ k, k < 298 → Y'.1 54 0 (298 * b + k) = Y.1 54 0 (298 * a + k)) (H : StR nb X r Y a) : StR nb X' q Y' b :=
  StR.to hn hn4 hx.2.2.2.1 hx.2.2.2.2.1 hx.2.2.2.2.2.1 hx.2.2.2.2.2.2 hy H
/-- the class's State q stays -/
def KeepS (q : Nat) (X Z : Mem) : Prop := Z.1 27 q 1 = X.1 27 q 1 ∧ (∀ c k, c < 4 → Z.1 30 (4 * q + c) k = X.1 30 (4 * q + c) k) ∧ (∀ c, c < 4 → Z.2.1 30 (4 * q + c) 8 = X.2.1 30 (4 * q + c) 8) ∧ ∀ b, b < 5 → Z.1 29 q b = X.1 29 q b
theorem StR.move {nb q a b : Nat} {X X' Y Y' : Mem} (hx : KeepS q X X') (hy : ∀ k, k < 298 → Y'.1 54 0 (298 * b + k) = Y.1 54 0 (298 * a + k)) (H : StR nb X q Y a) : StR nb X' q Y' b := by
  obtain ⟨n, h1, h2, _⟩ := id H
  exact StR.to h2 h1 hx.1 (fun c k hc _ _ => hx.2.1 c k (by omega)) (fun c hc => hx.2.2.1 c (by omega)) hx.2.2.2 hy H
