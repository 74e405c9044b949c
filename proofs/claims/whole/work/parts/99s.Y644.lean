/-! the reference's constructor, from its nineteen cells on -/
abbrev TY : Type := (Nat → Nat) × Mem
def XOk (hx : Nat) (u : Nat → Nat) (base sz hy : Nat) : Prop := (∀ k, k < 138 → base ≤ adr hx u k ∧ adr hx u k < sz ∧ adr hx u k ≠ hy) ∧ (∀ i j, i < 138 → j < 138 → adr hx u i = adr hx u j → i = j) ∧ base ≤ hy ∧ base ≤ sz
def mY0 : Mem := (fun f _ k => if f = 40 then (if k = 5 then -1 else 0) else if f = 42 then tabF wordsL 68 k else if f = 48 then tabF tableL 16 k else 0, fun _ _ _ => 0, fun _ _ _ => none)
/-- the reference's numbers behind its constructor -/
def PY0 (Y : Mem) : Prop := TYr U0 Y ∧ MYr U0 Y ∧ (Y.1 40 0 1 = 0 ∧ Y.1 40 0 4 = 0 ∧ Y.1 40 0 5 = -1 ∧ Y.1 40 0 36 = 0 ∧ Y.1 40 0 37 = 0) ∧ (∀ k, k < 293 → Y.1 54 0 k = 0) ∧ ∀ k, k < 5 → Y.1 54 0 (293 + k) = -1
theorem wds_e : ∀ k, k < 68 → tabF wordsL 68 k = nI (([98, 105, 114, 100, 32, 104, 101, 97, 114, 100, 32, 100, 114, 105, 102, 116, 32, 102, 97, 100, 101, 32, 115, 101, 110, 100, 32, 112, 108, 97, 99, 101, 32, 104, 111, 109, 101, 32, 102, 105, 114, 115, 116, 32, 115, 101, 99, 111, 110, 100, 32, 110, 111, 105, 115, 101, 32, 115, 101, 101, 100, 32, 114, 97, 116, 105, 111, 32] : List Nat).getD k 0) := by decide +kernel
theorem tbl_e : ∀ k, k < 16 → tabF tableL 16 k = stab 4 k := by decide +kernel
theorem PY0.of {Y Z : Mem} (h1 : PlY mY0 Y) (h2 : KpY U0 Y Z) : PY0 Z := by
  obtain ⟨_, a1, _, _⟩ := h1
  obtain ⟨_, b1, b2, ⟨c1, c2, c3, c4, c5, c6⟩, b4, b5⟩ := h2
  have k : ∀ f i k, ¬ (f = 40 ∧ (k = 11 ∨ k = 14 ∨ k = 22 ∨ k = 23 ∨ k = 24 ∨ k = 35 ∨ k = 36 ∨ k = 37)) → ¬ (f = 43 ∧ k < 70) → ¬ (f = 44 ∧ k < 30) → ¬ (f = 45 ∧ k < 17) → ¬ f = 47 → ¬ f = 54 → ¬ (f = 40 ∧ (k = 12 ∨ k = 15)) → ¬ (f = 45 ∧ 24 ≤ k) → ¬ f = 46 → Z.1 f i k = mY0.1 f i k := fun f i k x1 x2 x3 x4 x5 x6 x7 x8 x9 => (b1 f i k x1 x2 x3 x4 x5 x6).trans (a1 f i k x7 x8 x9)
  refine ⟨b2, ⟨c4, c1, c2, c3, fun i hi => ?_, fun i hi => ?_⟩, ⟨?_, ?_, ?_, c5, c6⟩, b4, b5⟩
  · rw [k 48 0 i (by omega) (by omega) (by omega) (by omega) (by omega) (by omega) (by omega) (by omega) (by omega)]
    exact tbl_e i hi
  · rw [k 42 0 i (by omega) (by omega) (by omega) (by omega) (by omega) (by omega) (by omega) (by omega) (by omega)]
    exact wds_e i hi
  · exact k 40 0 1 (by omega) (by omega) (by omega) (by omega) (by omega) (by omega) (by omega) (by omega) (by omega)
  · exact k 40 0 4 (by omega) (by omega) (by omega) (by omega) (by omega) (by omega) (by omega) (by omega) (by omega)
  · exact k 40 0 5 (by omega) (by omega) (by omega) (by omega) (by omega) (by omega) (by omega) (by omega) (by omega)
def PYc (g : Geo) (hx : Nat) (u : Nat → Nat) (hy : Nat) (v : Nat → Nat) (H : Heap) (i : Nat) : Prop := va_at g.1 clz ((mkG g hx u hy v).2.1 (138 + i), xE (mkG g hx u hy v) mY0 (138 + i)) H
set_option maxHeartbeats 4000000 in
set_option maxRecDepth 100000 in
theorem cvY_19 {g : Geo} {hx hy : Nat} {u v : Nat → Nat} {H : Heap} (hP : va_P g.1 clz (wX11 g hy v) H) : ∀ i, i < 19 → PYc g hx u hy v H i := by
  have a0 : ∀ i, i < 0 → PYc g hx u hy v H i := al_0
  have a1 : ∀ i, i < 1 → PYc g hx u hy v H i := al_s a0 (hP 0 _ rfl)
  have a2 : ∀ i, i < 2 → PYc g hx u hy v H i := al_s a1 (hP 1 _ rfl)
  have a3 : ∀ i, i < 3 → PYc g hx u hy v H i := al_s a2 (hP 2 _ rfl)
  have a4 : ∀ i, i < 4 → PYc g hx u hy v H i := al_s a3 (hP 3 _ rfl)
  have a5 : ∀ i, i < 5 → PYc g hx u hy v H i := al_s a4 (hP 4 _ rfl)
  have a6 : ∀ i, i < 6 → PYc g hx u hy v H i := al_s a5 (hP 5 _ rfl)
  have a7 : ∀ i, i < 7 → PYc g hx u hy v H i := al_s a6 (hP 6 _ rfl)
  have a8 : ∀ i, i < 8 → PYc g hx u hy v H i := al_s a7 (hP 7 _ rfl)
  have a9 : ∀ i, i < 9 → PYc g hx u hy v H i := al_s a8 (hP 8 _ rfl)
  have a10 : ∀ i, i < 10 → PYc g hx u hy v H i := al_s a9 (hP 9 _ rfl)
  have a11 : ∀ i, i < 11 → PYc g hx u hy v H i := al_s a10 (hP 10 _ rfl)
  have a12 : ∀ i, i < 12 → PYc g hx u hy v H i := al_s a11 (hP 11 _ rfl)
  have a13 : ∀ i, i < 13 → PYc g hx u hy v H i := al_s a12 (hP 12 _ rfl)
  have a14 : ∀ i, i < 14 → PYc g hx u hy v H i := al_s a13 (hP 13 _ rfl)
  have a15 : ∀ i, i < 15 → PYc g hx u hy v H i := al_s a14 (hP 14 _ rfl)
  have a16 : ∀ i, i < 16 → PYc g hx u hy v H i := al_s a15 (hP 15 _ rfl)
  have a17 : ∀ i, i < 17 → PYc g hx u hy v H i := al_s a16 (hP 16 _ rfl)
  have a18 : ∀ i, i < 18 → PYc g hx u hy v H i := al_s a17 (hP 17 _ rfl)
  have a19 : ∀ i, i < 19 → PYc g hx u hy v H i := al_s a18 (hP 18 _ rfl)
  exact a19
theorem cvY {g : Geo} {hx hy : Nat} {u v : Nat → Nat} {H : Heap} (hP : va_P g.1 clz (wX11 g hy v) H) : va_P g.1 clz (yw (mkG g hx u hy v) mY0) H := by
  intro k q hq
  by_cases hk : k < 19
  · rw [yw_at hk] at hq
    cases hq
    exact cvY_19 hP k hk
  · rw [yw_out hk] at hq
    cases hq
theorem adr_Y {g : Geo} {hx hy : Nat} {u v : Nat → Nat} {k : Nat} (hk : k < 19) : ∃ e, (wX11 g hy v)[k]? = some ((mkG g hx u hy v).2.1 (138 + k), e) := by
  have h : ∀ i, i < 19 → ((wX11 g hy v).map Prod.fst)[i]? = some (if i = 0 then hy else v (i - 1)) := by
    have e : (wX11 g hy v).map Prod.fst = (List.range 19).map (fun i => if i = 0 then hy else v (i - 1)) := rfl
    intro i hi
    rw [e]; simp [hi]
  have h1 := h k hk
  rw [List.getElem?_map] at h1
  cases e : (wX11 g hy v)[k]? with
  | none => rw [e] at h1; cases h1
  | some q =>
    rw [e] at h1
    obtain ⟨a, b⟩ := q
    have h2 : a = if k = 0 then hy else v (k - 1) := Option.some.inj h1
    refine ⟨b, ?_⟩
    rw [h2]
    congr 2
    unfold mkG
    dsimp only
    rw [if_neg (by omega : ¬ 138 + k < 138)]
    by_cases h0 : k = 0
    · rw [if_pos h0, if_pos (by omega)]
    · rw [if_neg h0, if_neg (by omega)]
      rw [show 138 + k - 139 = k - 1 by omega]
theorem mkG_X {g : Geo} {hx hy : Nat} {u v : Nat → Nat} {i : Nat} (h : i < 138) : (mkG g hx u hy v).2.1 i = adr hx u (piL.getD i 0) := by
  unfold mkG; dsimp only; rw [if_pos h]
/-- all addresses are apart -/
theorem mkG_GI {g : Geo} {hx hy base sz : Nat} {u v : Nat → Nat} {A : Nat → Prop} (XO : XOk hx u base sz hy) (hA : ∀ q, A q ↔ q = hy ∨ sz ≤ q) (hD : va_D A (wX11 g hy v)) : GI (mkG g hx u hy v) := by
  obtain ⟨o1, o2, -, -⟩ := XO
  have hy2 : ∀ k, k < 19 → A ((mkG g hx u hy v).2.1 (138 + k)) := fun k hk => by
    obtain ⟨e, he⟩ := adr_Y (g := g) (hx := hx) (u := u) (hy := hy) (v := v) hk
    exact hD.2 k _ he
  have ap : ∀ i k, i < 138 → k < 19 → (mkG g hx u hy v).2.1 i = (mkG g hx u hy v).2.1 (138 + k) → False := fun i k hi hk z => by
    have h1 := o1 _ (pi_lt i hi)
    rw [mkG_X hi] at z
    rcases (hA _).mp (hy2 k hk) with h | h
    · exact h1.2.2 (z.trans h)
    · rw [z] at h1; omega
  intro i j hi hj hij
  have hi : i < 157 := hi
  have hj : j < 157 := hj
  by_cases h1 : i < 138
  · by_cases h2 : j < 138
    · rw [mkG_X h1, mkG_X h2] at hij
      exact pi_inj i h1 j h2 (o2 _ _ (pi_lt i h1) (pi_lt j h2) hij)
    · have e : j = 138 + (j - 138) := by omega
      rw [e] at hij
      exact (ap i (j - 138) h1 (by omega) hij).elim
  · by_cases h2 : j < 138
    · have e : i = 138 + (i - 138) := by omega
      rw [e] at hij
      exact (ap j (i - 138) h2 (by omega) hij.symm).elim
    · obtain ⟨a, rfl⟩ : ∃ a, i = 138 + a := ⟨i - 138, by omega⟩
      obtain ⟨b, rfl⟩ : ∃ b, j = 138 + b := ⟨j - 138, by omega⟩
      obtain ⟨e1, h3⟩ := adr_Y (g := g) (hx := hx) (u := u) (hy := hy) (v := v) (k := a) (by omega)
      obtain ⟨e2, h4⟩ := adr_Y (g := g) (hx := hx) (u := u) (hy := hy) (v := v) (k := b) (by omega)
      have := hD.1 a b _ _ h3 h4 hij
      omega
section Y644
variable {p : Program} {l : Launch} {e : Env} {R : Room} {s : State} {m : MethodId} {args : Array Value} {below : List Frame} {meth : Method} {c : Code} {H : Heap} {locs : List Loc} {cells slots : Nat} {Q : State → Prop} {g : Geo} {ls : Array Slot} {A : Nat → Prop}
set_option maxHeartbeats 4000000 in
theorem k_X11_644 (C : CK g p s m args meth c cX11_init 1 none RX11) {hx hy base : Nat} {u v : Nat → Nat} (XO : XOk hx u base s.heap.size hy) (hSB : SB g (fun q => base ≤ q) s) (hA : ∀ q, A q ↔ q = hy ∨ s.heap.size ≤ q) (hl : lv_has ls 1 [(0, .ref hy)]) (hP : va_P g.1 clz (wX11 g hy v) H) (hD : va_D A (wX11 g hy v)) (hS : va_S A s.heap H locs) (hf : 4 ≤ R.frames) (hlo : 87 ≤ R.locals) (hcs : cells + 0 ≤ R.cells ∧ slots + 0 ≤ R.slots)
    (kk : ∀ (Y : Mem), PY0 Y → ∀ (H1 : Heap) (locs1 : List Loc) (ls1 : Array Slot), va_P g.1 clz (yw (mkG g hx u hy v) Y) H1 → va_D A (yw (mkG g hx u hy v) Y) → va_S A s.heap H1 locs1 → W p l e R s m args below meth c H1 locs1 cells slots Q (F0 m 652 ls1 [])) : W p l e R s m args below meth c H locs cells slots Q (F0 m 644 ls []) := by
  have gi := mkG_GI (g := g) (v := v) XO hA hD
  have hYA : ∀ k, k < 19 → A ((mkG g hx u hy v).2.1 (138 + k)) := fun k hk => by
    obtain ⟨e, he⟩ := adr_Y (g := g) (hx := hx) (u := u) (hy := hy) (v := v) hk
    exact hD.2 k _ he
  have hAf : ∀ q, Af 1 (mkG g hx u hy v) q → A q := fun q h => by
    obtain ⟨i, h1, h2, h3⟩ := h
    have h1 : i < 157 := h1
    have h4 : ¬ i < 138 := fun z => by rw [if_pos z] at h2; omega
    obtain ⟨a, rfl⟩ : ∃ a, i = 138 + a := ⟨i - 138, by omega⟩
    rw [h3]; exact hYA a (by omega)
  have hyf : Af 1 (mkG g hx u hy v) hy := ⟨138, by decide, by decide, by unfold mkG; rfl⟩
  have hAX : ∀ q, AX (mkG g hx u hy v) q → base ≤ q := fun q h => by
    obtain ⟨i, h1, h3⟩ := h
    have h1 : i < 157 := h1
    by_cases h4 : i < 138
    · rw [h3, mkG_X h4]; exact (XO.1 _ (pi_lt i h4)).1
    · obtain ⟨a, rfl⟩ : ∃ a, i = 138 + a := ⟨i - 138, by omega⟩
      rcases (hA _).mp (hYA a (by omega)) with h | h
      · rw [h3, h]; exact XO.2.2.1
      · rw [h3]; exact Nat.le_trans XO.2.2.2 h
  have hSt : ST (mkG g hx u hy v) s := hSB.st rfl hAX
  have CXG : CX (mkG g hx u hy v) p s m args meth c cX11_init 1 none RX11 := ⟨C.1, C.2.1, C.2.2.1, C.2.2.2.1, C.2.2.2.2.1, C.2.2.2.2.2.1, C.2.2.2.2.2.2.1, C.2.2.2.2.2.2.2.1, hSt, C.2.2.2.2.2.2.2.2.1, gi⟩
  have hS1 : ∀ {H : Heap} {locs : List Loc}, va_S A s.heap H locs → va_S (Af 1 (mkG g hx u hy v)) s.heap H [] := fun hS => ⟨hS.1, fun q h1 h2 => hS.2.1 q h1 (fun z => by
    rcases (hA q).mp z with h | h
    · exact h2 (by rw [h]; exact hyf)
    · omega), fun _ h => by cases h⟩
  have hP0 : va_P (mkG g hx u hy v).1 clz (yw (mkG g hx u hy v) mY0) H := cvY hP
  have e0 : (mkG g hx u hy v).2.1 (138 + 0) = hy := by unfold mkG; rfl
  rw [← e0] at hl
  refine lv_aload_n C.1 C.2.1 dX11_init_644 rfl (lv_at hl 0 rfl) ?_
  refine va_callv (runVg (w := yw (mkG g hx u hy v) mY0) (As := []) (rest := []) CXG lkX11_70 (c_X11_plain l (mkG g hx u hy v) gi mY0 (fun Z => PlY mY0 Z) (t11_plain (fun Z h => h))) hP0 (hS1 hS) rfl rfl ⟨by show 0 + 1 ≤ R.frames; omega, by show 8 + (2 + 11) + 0 ≤ R.locals; omega⟩ (xx_40 Nat.zero_lt_one) rfl rfl hl.1 rfl (Nat.le_of_ble_eq_true rfl) dX11_init_645 hcs) hS (fun q _ h => hAf q h) hAf (fun Y1 t H1 locs1 ht _ hp1 hB _ _ hS => ?_)
  have hP1 : va_P (mkG g hx u hy v).1 clz (yw (mkG g hx u hy v) Y1) H1 := by rw [← ht]; exact hB
  refine lv_aload_n C.1 C.2.1 dX11_init_648 rfl (lv_at hl 0 rfl) ?_
  refine va_callv (runVg (w := yw (mkG g hx u hy v) Y1) (As := []) (rest := []) CXG lkX11_73 (c_X11_keepText l (mkG g hx u hy v) gi Y1 (fun Z => KpY U0 Y1 Z) (t11_keep TB_U0 hp1.2.2.1 (fun Z h => h))) hP1 (hS1 hS) rfl rfl ⟨by show 3 + 1 ≤ R.frames; omega, by show 8 + (2 + 11) + 66 ≤ R.locals; omega⟩ (xx_40 Nat.zero_lt_one) rfl rfl hl.1 rfl (Nat.le_of_ble_eq_true rfl) dX11_init_649 hcs) hS (fun q _ h => hAf q h) hAf (fun Y2 t H2 locs2 ht _ hp2 hB _ _ hS => ?_)
  have hP2 : va_P (mkG g hx u hy v).1 clz (yw (mkG g hx u hy v) Y2) H2 := by rw [← ht]; exact hB
  have hD2 : va_D A (yw (mkG g hx u hy v) Y2) := ⟨(yw_D gi Y2).1, fun k q hq => hAf _ ((yw_D gi Y2).2 k q hq)⟩
  exact kk Y2 (PY0.of hp1 hp2) H2 locs2 ls hP2 hD2 hS
end Y644
