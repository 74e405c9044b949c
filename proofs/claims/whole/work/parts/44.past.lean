/-! undo: what is kept of the states that were -/
def CU (n : Nat) (Y Z : Mem) : Prop := Z.2 = Y.2 ∧ (∀ f i k, ¬ (f = 40 ∧ i = 0 ∧ k = 36) → ¬ (f = 54 ∧ i = 0 ∧ 894 ≤ k ∧ k < 3874) → Z.1 f i k = Y.1 f i k) ∧ Z.1 40 0 36 = nI (min 10 (n + 1)) ∧ (∀ k, k < 298 → Z.1 54 0 (298 * (3 + (min 10 (n + 1) - 1)) + k) = Y.1 54 0 k) ∧ ∀ m, m < min 10 (n + 1) - 1 → ∀ k, k < 298 → Z.1 54 0 (298 * (3 + m) + k) = Y.1 54 0 (298 * (3 + m + (if n = 10 then 1 else 0)) + k)
theorem cu_39 {Y Z : Mem} {j n : Nat} (hj : j < 10) (hjn : j + 1 = min 10 (n + 1)) {Q : Mem → Prop} (h : ∀ Z', CU n Y Z' → Q Z') (h2 : Z.2 = Y.2) (h1 : ∀ f i k, ¬ (f = 40 ∧ i = 0 ∧ k = 36) → ¬ (f = 54 ∧ i = 0 ∧ 894 ≤ k ∧ k < 3874) → Z.1 f i k = Y.1 f i k) (hu : Z.1 40 0 36 = nI j) (hb : ∀ m, m < j → ∀ k, k < 298 → Z.1 54 0 (298 * (3 + m) + k) = Y.1 54 0 (298 * (3 + m + (if n = 10 then 1 else 0)) + k)) : b_X11_canUndo_39 Q Z := by
  show p_X11_copyBank (nI 0) ((3 : Int32) + Z.1 40 0 36) Z _
  rw [hu, show (3 : Int32) = nI 3 from rfl, nI_add]
  refine t_copyBank (by omega) (by omega) (by omega) (fun M2 c => ?_)
  obtain ⟨c1, c2, c3⟩ := c
  rintro M3 rfl
  have hu2 : M2.1 40 0 36 = nI j := (c2 40 0 36 (fun z => by omega)).trans hu
  refine h _ ⟨c1.trans h2, fun f i k a1 a2 => ?_, ?_, fun k hk => ?_, fun m hm k hk => ?_⟩
  · rw [sI_n a1, c2 f i k (fun z => a2 ⟨z.1, z.2.1, by omega, by omega⟩)]; exact h1 f i k a1 a2
  · rw [sI_s, hu2, nI_1, hjn]
  · rw [sI_n (fun z => by omega), show min 10 (n + 1) - 1 = j from by omega, c3 k hk]
    rw [show 298 * 0 + k = k from by omega]
    exact h1 54 0 k (fun z => by omega) (fun z => by omega)
  · rw [sI_n (fun z => by omega), c2 _ _ _ (fun z => by omega)]
    exact hb m (by omega) k hk
theorem t_canUndo {n : Nat} (hn : n ≤ 10) {Y : Mem} (hu : Y.1 40 0 36 = nI n) {Q : Mem → Prop} (h : ∀ Z, CU n Y Z → Q Z) : p_X11_canUndo Y Q := by
  refine ⟨fun hne => ?_, fun he => ?_⟩
  · have hn10 : n ≠ 10 := fun z => hne (by rw [hu, z]; rfl)
    exact cu_39 (j := n) (by omega) (by omega) h rfl (fun _ _ _ _ _ => rfl) hu (fun m _ k _ => by rw [if_neg hn10, Nat.add_zero])
  · have hn10 : n = 10 := (nI_eq (by omega) (by decide)).mp (hu.symm.trans he)
    subst hn10
    have go : ∀ (d j : Nat) (Z : Mem), 1 ≤ j → j + d = 10 → Z.2 = Y.2 → (∀ f i k, ¬ (f = 54 ∧ i = 0 ∧ 894 ≤ k ∧ k < 3874) → Z.1 f i k = Y.1 f i k) → (∀ m, m < j - 1 → ∀ k, k < 298 → Z.1 54 0 (298 * (3 + m) + k) = Y.1 54 0 (298 * (3 + m + 1) + k)) → (∀ m, j - 1 ≤ m → m < 10 → ∀ k, k < 298 → Z.1 54 0 (298 * (3 + m) + k) = Y.1 54 0 (298 * (3 + m) + k)) → b_X11_canUndo_11 Q (fun M => b_X11_canUndo_39 Q M) (d + 1) (nI j) Z := by
      intro d
      induction d with
      | zero =>
        intro j Z h0 hj g1 g2 g3 g4
        have : j = 10 := by omega
        subst this
        refine ⟨fun _ => ?_, fun z => absurd (by decide) z⟩
        rintro M5 rfl
        refine cu_39 (j := 9) (by omega) (by omega) h g1 (fun f i k a1 a2 => ?_) sI_s (fun m hm k hk => ?_)
        · rw [sI_n a1]; exact g2 f i k a2
        · rw [sI_n (fun z => by omega), if_pos rfl]; exact g3 m (by omega) k hk
      | succ d ih =>
        intro j Z h0 hj g1 g2 g3 g4
        refine ⟨fun z => absurd z ?_, fun _ => ?_⟩
        · rw [show (10 : Int32) = nI 10 from rfl]; exact nI_ge (by omega) (by omega)
        · rw [show (3 : Int32) = nI 3 from rfl, show (2 : Int32) = nI 2 from rfl, nI_add, nI_add]
          refine t_copyBank (by omega) (by omega) (by omega) (fun M6 c => ?_)
          obtain ⟨c1, c2, c3⟩ := c
          rintro x7 rfl
          rw [nI_1]
          refine ih (j + 1) M6 (by omega) (by omega) (c1.trans g1) (fun f i k a => ?_) (fun m hm k hk => ?_) (fun m hm hm10 k hk => ?_)
          · rw [c2 f i k (fun z => a ⟨z.1, z.2.1, by omega, by omega⟩)]; exact g2 f i k a
          · by_cases hmj : m = j - 1
            · subst hmj
              rw [show 3 + (j - 1) = 2 + j from by omega, c3 k hk, show 2 + j + 1 = 3 + j from by omega]
              exact g4 j (by omega) (by omega) k hk
            · rw [c2 _ _ _ (fun z => by omega)]; exact g3 m (by omega) k hk
          · rw [c2 _ _ _ (fun z => by omega)]; exact g4 m (by omega) hm10 k hk
    exact ⟨10, go 9 1 Y (by omega) (by omega) rfl (fun _ _ _ _ => rfl) (fun m hm => absurd hm (by omega)) (fun _ _ _ _ _ => rfl)⟩
/-- the class's side: State q has come to be as State 0 was -/
def PU (n v n0 : Nat) (X Z : Mem) : Prop :=
  Z.1 21 0 1 = nI ((v + 1) % 10) ∧ Z.1 21 0 2 = nI (min 10 (n + 1)) ∧ (∀ f i k, f ≠ 21 → ¬ (f = 27 ∧ i = 3 + (v + 1) % 10) → ¬ (f = 29 ∧ i = 3 + (v + 1) % 10) → ¬ (f = 30 ∧ 4 * (3 + (v + 1) % 10) ≤ i ∧ i < 4 * (3 + (v + 1) % 10) + 4) → Z.1 f i k = X.1 f i k) ∧ (∀ f i k, ¬ (f = 30 ∧ 4 * (3 + (v + 1) % 10) ≤ i ∧ i < 4 * (3 + (v + 1) % 10) + 4) → Z.2.1 f i k = X.2.1 f i k) ∧ Z.2.2 = X.2.2 ∧
  Z.1 27 (3 + (v + 1) % 10) 1 = X.1 27 0 1 ∧ (∀ c k, c < n0 → k < 10 → k ≠ 8 → Z.1 30 (4 * (3 + (v + 1) % 10) + c) k = X.1 30 c k) ∧ (∀ c, c < n0 → Z.2.1 30 (4 * (3 + (v + 1) % 10) + c) 8 = X.2.1 30 c 8) ∧ ∀ b, b < 5 → Z.1 29 (3 + (v + 1) % 10) b = X.1 29 0 b
theorem min10 {n : Nat} (hn : n ≤ 10) : (if nI n + 1 < 10 then nI n + 1 else 10) = nI (min 10 (n + 1)) := by
  rw [nI_1, show (10 : Int32) = nI 10 from rfl]
  by_cases h : n + 1 < 10
  · rw [if_pos (nI_lt h (by omega)), show min 10 (n + 1) = n + 1 from by omega]
  · rw [if_neg (nI_nlt (by omega) (by omega)), show min 10 (n + 1) = 10 from by omega]
theorem t_push {n v n0 : Nat} (hn : n ≤ 10) (hv : v < 10) (hn0 : n0 ≤ 4) {X : Mem} (h1 : X.1 21 0 1 = nI v) (h2 : X.1 21 0 2 = nI n) (h3 : X.1 27 0 1 = nI n0) {Q : Mem → Prop} (h : ∀ Z, PU n v n0 X Z → Q Z) : p_X5_push 0 X Q := by
  rintro M1 hM1
  have e1 : M1.1 21 0 1 = nI ((v + 1) % 10) := by
    rw [hM1, sI_s, h1, nI_1, show (10 : Int32) = nI 10 from rfl]
    exact pk_rem (by omega) (by omega) (by omega)
  have e2 : ∀ f i k, f ≠ 21 → M1.1 f i k = X.1 f i k := fun f i k hf => by rw [hM1]; exact sI_n (fun z => hf z.1)
  have e3 : M1.1 21 0 2 = nI n := by rw [hM1, ← h2]; exact sI_n (fun z => by omega)
  have e4 : M1.2 = X.2 := by rw [hM1]; rfl
  rw [e1, nI_clamp (by omega)]
  refine ⟨vp_in_nI (by omega) (by omega), t_stCopy (n := n0) hn0 (by omega) ((e2 27 0 1 (by decide)).trans h3) (fun M3 c => ?_)⟩
  obtain ⟨c1, c2, c3, c4, c5, c6, c7⟩ := c
  rintro M4 rfl
  have e5 : M3.1 21 0 2 = nI n := (c1 21 0 2 (fun z => by omega) (fun z => by omega) (fun z => by omega)).trans e3
  have k : ∀ f i k, f ≠ 21 → (sI M3 21 0 2 (if M3.1 21 0 2 + 1 < 10 then M3.1 21 0 2 + 1 else 10)).1 f i k = M3.1 f i k := fun f i k hf => sI_n (fun z => hf z.1)
  refine h _ ⟨?_, ?_, fun f i k' a0 a1 a2 a3 => ?_, fun f i k' a => ?_, c3.trans (by rw [e4]), ?_, fun c k' hc hk h8 => ?_, fun c hc => ?_, fun b hb => ?_⟩
  · rw [sI_n (fun z => by omega)]
    exact (c1 21 0 1 (fun z => by omega) (fun z => by omega) (fun z => by omega)).trans e1
  · rw [sI_s, e5]; exact min10 hn
  · rw [k f i k' a0, c1 f i k' a1 a2 a3]; exact e2 f i k' a0
  · show M3.2.1 f i k' = _
    rw [c2 f i k' a, e4]
  · rw [k _ _ _ (by decide), c4]; exact e2 _ _ _ (by decide)
  · rw [k _ _ _ (by decide), c5 c k' hc hk h8, Nat.mul_zero, Nat.zero_add]; exact e2 _ _ _ (by decide)
  · show M3.2.1 _ _ _ = _
    rw [c6 c hc, Nat.mul_zero, Nat.zero_add, e4]
  · rw [k _ _ _ (by decide), c7 b hb]; exact e2 _ _ _ (by decide)
theorem PU.keep {n v n0 s : Nat} {X Z : Mem} (h : PU n v n0 X Z) (hs : s ≠ 3 + (v + 1) % 10) : KeepS s X Z :=
  ⟨h.2.2.1 27 s 1 (by decide) (fun z => hs z.2) (fun z => by omega) (fun z => by omega), fun c k hc => h.2.2.1 30 _ k (by decide) (fun z => by omega) (fun z => by omega) (fun z => by omega), fun c hc => h.2.2.2.1 30 _ 8 (fun z => by omega), fun b hb => h.2.2.1 29 s b (by decide) (fun z => by omega) (fun z => hs z.2) (fun z => by omega)⟩
theorem PU.xt {n v n0 : Nat} {X Z : Mem} (h : PU n v n0 X Z) : AgXt X Z := by
  refine ⟨fun f i k e => ?_, fun k => congrFun (congrFun (congrFun h.2.2.2.2.1 0) 0) k⟩
  have hf : f ≠ 21 ∧ f ≠ 27 ∧ f ≠ 29 ∧ f ≠ 30 := by
    refine ⟨?_, ?_, ?_, ?_⟩ <;> (rintro rfl; simp [kXt] at e)
  exact h.2.2.1 f i k hf.1 (fun z => hf.2.1 z.1) (fun z => hf.2.2.1 z.1) (fun z => hf.2.2.2 z.1)
theorem PU.c {n v n0 : Nat} {X Z : Mem} (h : PU n v n0 X Z) : AgC X Z := by
  have e : ∀ f k, f < 21 → Z.1 f 0 k = X.1 f 0 k := fun f k hf => h.2.2.1 f 0 k (by omega) (fun z => by omega) (fun z => by omega) (fun z => by omega)
  exact ⟨e 5 4 (by decide), fun k => e 6 k (by decide), fun k => e 7 k (by decide)⟩
theorem CU.yt {n : Nat} {Y V : Mem} (h : CU n Y V) : AgYt Y V := by
  intro f k e
  refine h.2.1 f 0 k (fun z => ?_) (fun z => ?_)
  · obtain ⟨rfl, _, rfl⟩ := z; simp [kYt] at e
  · obtain ⟨rfl, _⟩ := z; simp [kYt] at e
/-- what undo keeps, one more on both sides -/
theorem PastR.push {nb n v n0 : Nat} {X Y Z V : Mem} (hn : n ≤ 10) (hv : v < 10) (hold : ∀ i, i < n → StR nb X (3 + (v + 10 - i) % 10) Y (3 + (n - 1 - i))) (h0 : X.1 27 0 1 = nI n0) (hn0 : n0 ≤ 4) (hs : StR nb X 0 Y 0) (hx : PU n v n0 X Z) (hy : CU n Y V) : PastR nb Z V := by
  obtain ⟨y1, y2, y3, y4, y5⟩ := id hy
  refine ⟨min 10 (n + 1), (v + 1) % 10, by omega, by omega, hx.2.1, y3, hx.1, fun i hi => ?_⟩
  by_cases hi0 : i = 0
  · subst hi0
    rw [show ((v + 1) % 10 + 10 - 0) % 10 = (v + 1) % 10 from by omega]
    refine StR.to (r := 0) (a := 0) h0 hn0 hx.2.2.2.2.2.1 (fun c k hc hk h8 => ?_) (fun c hc => ?_) hx.2.2.2.2.2.2.2.2 (fun k hk => ?_) hs
    · rw [hx.2.2.2.2.2.2.1 c k hc hk h8, Nat.mul_zero, Nat.zero_add]
    · rw [hx.2.2.2.2.2.2.2.1 c hc, Nat.mul_zero, Nat.zero_add]
    · rw [Nat.sub_zero, y4 k hk, Nat.mul_zero, Nat.zero_add]
  · have ho := hold (i - 1) (by omega)
    rw [show ((v + 1) % 10 + 10 - i) % 10 = (v + 10 - (i - 1)) % 10 from by omega]
    refine StR.move (hx.keep (by omega)) (fun k hk => ?_) ho
    rw [y5 _ (by omega) k hk, show 3 + (min 10 (n + 1) - 1 - i) + (if n = 10 then 1 else 0) = 3 + (n - 1 - (i - 1)) from by split <;> omega]
theorem ImgR.push {nb n v n0 : Nat} {X Y Z V : Mem} (H : ImgR nb X Y) (hx : PU n v n0 X Z) (hy : CU n Y V) : ImgR nb Z V := by
  obtain ⟨h1, h2, h3⟩ := H
  have e : Z.1 0 0 9 = X.1 0 0 9 := hx.2.2.1 0 0 9 (by decide) (fun z => by omega) (fun z => by omega) (fun z => by omega)
  have d : V.1 40 0 37 = Y.1 40 0 37 := hy.2.1 40 0 37 (fun z => by omega) (fun z => by omega)
  refine ⟨e.trans (h1.trans d.symm), by rw [e]; exact h2, fun z => ?_⟩
  rw [e] at z
  exact StR.move (hx.keep (by omega)) (fun k hk => hy.2.1 54 0 _ (fun z => by omega) (fun z => by omega)) (h3 z)
theorem StR.push {nb n v n0 : Nat} {X Y Z V : Mem} (H : StR nb X 0 Y 0) (hx : PU n v n0 X Z) (hy : CU n Y V) : StR nb Z 0 V 0 :=
  StR.move (hx.keep (by omega)) (fun k hk => hy.2.1 54 0 _ (fun z => by omega) (fun z => by omega)) H
