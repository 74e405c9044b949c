/-! what is read so far, on both sides -/
def put (U : Txt) (t j v : Nat) : Txt := fun a c => if a = t ∧ c = j then v else U a c
def FwX (w : Nat) (X Z : Mem) : Prop := Z.2.1 = X.2.1 ∧ (∀ f i k, ¬ (f = 2 ∧ i = 0 ∧ k = 10) → Z.2.2 f i k = X.2.2 f i k) ∧ ∀ f i k, ¬ (f = 2 ∨ f = 3 ∨ (f = 23 ∧ i = w) ∨ ((f = 25 ∨ f = 26) ∧ 5 * w ≤ i ∧ i < 5 * w + 5)) → Z.1 f i k = X.1 f i k
theorem FwX.rf (w : Nat) (X : Mem) : FwX w X X := ⟨rfl, fun _ _ _ _ => rfl, fun _ _ _ _ => rfl⟩
theorem FwX.tr {w : Nat} {X Z V : Mem} (h : FwX w X Z) (h2 : FwX w Z V) : FwX w X V := ⟨h2.1.trans h.1, fun f i k e => (h2.2.1 f i k e).trans (h.2.1 f i k e), fun f i k e => (h2.2.2 f i k e).trans (h.2.2 f i k e)⟩
theorem FwX.set {w : Nat} {X : Mem} {f i k : Nat} {v : Int32} (h : f = 2 ∨ f = 3 ∨ (f = 23 ∧ i = w) ∨ ((f = 25 ∨ f = 26) ∧ 5 * w ≤ i ∧ i < 5 * w + 5)) : FwX w X (sI X f i k v) := ⟨rfl, fun _ _ _ _ => rfl, fun f' i' k' e => sI_n (fun z => e (by obtain ⟨rfl, rfl, _⟩ := z; exact h))⟩
theorem KX.fx {w : Nat} {X Z : Mem} (h : KX X Z) : FwX w X Z := ⟨by rw [h.1], fun _ _ _ _ => by rw [h.1], fun f i k e => h.2 f i k (fun z => e (Or.inl z.1))⟩
def FwY (Y Z : Mem) : Prop := Z.2 = Y.2 ∧ ∀ f i k, ¬ (f = 40 ∧ (k = 4 ∨ k = 5 ∨ k = 7 ∨ k = 8 ∨ k = 9 ∨ k = 10 ∨ k = 12 ∨ k = 15 ∨ k = 19)) → ¬ (f = 43 ∧ 70 ≤ k) → ¬ (f = 44 ∧ 30 ≤ k) → ¬ (f = 45 ∧ 24 ≤ k) → ¬ f = 46 → Z.1 f i k = Y.1 f i k
theorem FwY.rf (Y : Mem) : FwY Y Y := ⟨rfl, fun _ _ _ _ _ _ _ _ => rfl⟩
theorem FwY.tr {Y Z V : Mem} (h : FwY Y Z) (h2 : FwY Z V) : FwY Y V := ⟨h2.1.trans h.1, fun f i k a b c d e => (h2.2 f i k a b c d e).trans (h.2 f i k a b c d e)⟩
theorem FwY.set {Y : Mem} {f i k : Nat} {v : Int32} (h : (f = 40 ∧ (k = 4 ∨ k = 5 ∨ k = 7 ∨ k = 8 ∨ k = 9 ∨ k = 10 ∨ k = 12 ∨ k = 15 ∨ k = 19)) ∨ (f = 43 ∧ 70 ≤ k) ∨ (f = 44 ∧ 30 ≤ k) ∨ (f = 45 ∧ 24 ≤ k) ∨ f = 46) : FwY Y (sI Y f i k v) := ⟨rfl, fun f' i' k' a b c d e => sI_n (fun z => by obtain ⟨rfl, _, rfl⟩ := z; rcases h with h | h | h | h | h; exact a h; exact b h; exact c h; exact d h; exact e h)⟩
theorem KY.fy {Y Z : Mem} (h : KY Y Z) : FwY Y Z := ⟨h.1, fun f i k e _ _ _ _ => h.2 f i k (fun z => e ⟨z.1, by omega⟩)⟩
/-- the class's reader in the midst of a line -/
def LcX (U : Txt) (O : Nat → Bool) (w : Nat) (B : Nat → Nat) (N : Nat) (X : Mem) : Prop :=
  RdX B N X ∧ X.2.2 2 0 8 = some (23 + w) ∧ (X.1 2 0 0 = 0 ∧ X.1 2 0 1 = -1) ∧ WXw U w X ∧ ∃ v, v < 2 ^ 12 ∧ X.1 23 w 15 = nI v ∧ ∀ k, 6 ≤ k → k < 12 → v.testBit k = O k
theorem BX.kX {T : Txt} {b q : Nat} {X Z : Mem} (h : KX X Z) (H : BX T b q X) : BX T b q Z := by
  unfold BX at H ⊢
  obtain ⟨a1, a2, a3, a4, a5, a6, a7, a8, a9, a10⟩ := H
  have g : ∀ f i k, 3 ≤ f → Z.1 f i k = X.1 f i k := fun f i k e => h.2 f i k (by omega)
  refine ⟨?_, ?_, ?_, fun e => ?_, ?_, ?_, ?_, ?_, fun e => ?_, fun k i e => ?_⟩
  · rw [g _ _ _ (by decide)]; exact a1
  · rw [g _ _ _ (by decide)]; exact a2
  · rw [g _ _ _ (by decide)]; exact a3
  · have := a4 e
    rw [g _ _ _ (by decide), g _ _ _ (by decide), g _ _ _ (by decide)]; exact this
  · rw [g _ _ _ (by decide)]; exact a5
  · rw [g _ _ _ (by decide)]; exact a6
  · rw [g _ _ _ (by decide)]; exact a7
  · rw [g _ _ _ (by decide)]; exact a8
  · have := a9 e
    rw [g _ _ _ (by decide), g _ _ _ (by decide), g _ _ _ (by decide)]; exact this
  · rw [g _ _ _ (by decide)]; exact a10 k i e
theorem WXw.kX {T : Txt} {w : Nat} {X Z : Mem} (h : KX X Z) (H : WXw T w X) : WXw T w Z := by
  unfold WXw at H ⊢
  obtain ⟨a1, a2, a3, a4, a5, a6, a7, a8, a9, a10⟩ := H
  have g : ∀ f i k, 3 ≤ f → Z.1 f i k = X.1 f i k := fun f i k e => h.2 f i k (by omega)
  refine ⟨?_, ?_, ?_, ?_, ?_, ?_, ?_, ?_, fun e => ?_, fun b hb => (a10 b hb).kX h⟩
  all_goals first
    | (rw [g _ _ _ (by decide)]; assumption)
    | (have := a9 e; rw [g _ _ _ (by decide), g _ _ _ (by decide), g _ _ _ (by decide), g _ _ _ (by decide)]; exact this)
theorem LcX.k {U : Txt} {O : Nat → Bool} {w : Nat} {B : Nat → Nat} {N : Nat} {X Z : Mem} (h : KX X Z) (H : LcX U O w B N X) : LcX U O w B N Z := by
  obtain ⟨a, b, ⟨c, d⟩, e, v, f1, f2, f3⟩ := H
  exact ⟨a.k h, by rw [h.1]; exact b, ⟨(h.2 2 0 0 (by omega)).trans c, (h.2 2 0 1 (by omega)).trans d⟩, e.kX h, v, f1, (h.2 23 w 15 (by omega)).trans f2, f3⟩
def LnX (U : Txt) (O : Nat → Bool) (w : Nat) (B : Nat → Nat) (N p : Nat) (X : Mem) : Prop := LcX U O w B N X ∧ TokX B N p X
/-- the reference's tables of what is read -/
def ReadR (U : Txt) (Y : Mem) : Prop :=
  Y.1 40 0 12 = nI (U 0 0) ∧ Y.1 40 0 15 = nI (U 0 1) ∧ (∀ b k, b < U 0 0 → k < 14 → Y.1 43 0 (70 + 14 * b + k) = nI (U (1 + b) k)) ∧ (∀ i j, i < U 0 1 → j < 3 → Y.1 44 0 (30 + 3 * i + j) = nI (U 6 (3 * i + j))) ∧ ∀ k, k < 10 → Y.1 45 0 (24 + k) = nI (U 0 (2 + k))
def LcY (U : Txt) (O : Nat → Bool) (B : Nat → Nat) (N : Nat) (Y : Mem) : Prop :=
  RdY B N Y ∧ WdY Y ∧ (Y.1 40 0 4 = 0 ∧ Y.1 40 0 5 = -1) ∧ ReadR U Y ∧ ∀ k, 6 ≤ k → k < 12 → Y.1 46 0 k = bitV (O k)
theorem LcY.k {U : Txt} {O : Nat → Bool} {B : Nat → Nat} {N : Nat} {Y Z : Mem} (h : KY Y Z) (H : LcY U O B N Y) : LcY U O B N Z := by
  obtain ⟨a, b, ⟨c, d⟩, ⟨e1, e2, e3, e4, e5⟩, f⟩ := H
  exact ⟨a.k h, b.k h, ⟨(h.2 40 0 4 (by omega)).trans c, (h.2 40 0 5 (by omega)).trans d⟩, ⟨(h.2 40 0 12 (by omega)).trans e1, (h.2 40 0 15 (by omega)).trans e2, fun b k x y => (h.2 43 0 _ (by omega)).trans (e3 b k x y), fun i j x y => (h.2 44 0 _ (by omega)).trans (e4 i j x y), fun k x => (h.2 45 0 _ (by omega)).trans (e5 k x)⟩, fun k x y => (h.2 46 0 _ (by omega)).trans (f k x y)⟩
def LnY (U : Txt) (O : Nat → Bool) (B : Nat → Nat) (N p : Nat) (Y : Mem) : Prop := LcY U O B N Y ∧ TokY B N p Y
/-- the text that is read -/
def TxB (B : Nat → Nat) (N : Nat) : Prop := N ≤ 700 ∧ ∀ k, k < N → B k < 256
theorem TxB.n {B : Nat → Nat} {N : Nat} (h : TxB B N) : N ≤ 700 := h.1
theorem TxB.b {B : Nat → Nat} {N : Nat} (h : TxB B N) : ∀ k, k < N → B k < 256 := h.2
theorem LcX.adv {U : Txt} {O : Nat → Bool} {w : Nat} {B : Nat → Nat} {N p : Nat} (hB : TxB B N) (hp : p ≤ N) {X : Mem} (H : LcX U O w B N X) (h4 : X.1 2 0 4 = nI (tkE B N p)) {Q : Mem → Prop} (h : ∀ Z, KX X Z → LnX U O w B N (tkE B N p) Z → Q Z) : p_X6_advance X Q :=
  t10_tok hB.n hB.b (tkE_le hp).2 H.1 h4 (fun Z a b => h Z a ⟨H.k a, b⟩)
theorem LcY.adv {U : Txt} {O : Nat → Bool} {B : Nat → Nat} {N p : Nat} (hB : TxB B N) (hp : p ≤ N) {Y : Mem} (H : LcY U O B N Y) (h4 : Y.1 40 0 7 = nI (tkE B N p)) {Q : Mem → Prop} (h : ∀ Z, KY Y Z → LnY U O B N (tkE B N p) Z → Q Z) : p_X11_token Y Q :=
  t11_tok hB.n hB.b (tkE_le hp).2 H.1 H.2.1 h4 (fun Z a b => h Z a ⟨H.k a, b⟩)
/-! numbers -/
def tkV (B : Nat → Nat) (N p : Nat) : Nat := nv nY B (N - tkP B N p) (tkP B N p) 0
def numS (B : Nat → Nat) (N p lo hi : Nat) : Sum (Nat × Nat) Nat := if tkK B N p = 2 then (if lo ≤ tkV B N p ∧ tkV B N p ≤ hi then .inr (tkV B N p) else .inl (2, tkP B N p)) else .inl (1, tkP B N p)
def rd (B : Nat → Nat) (N : Nat) : List (Nat × Nat) → Nat → Sum (Nat × Nat) (List Nat × Nat)
  | [], p => .inr ([], p)
  | a :: t, p => match numS B N p a.1 a.2 with
    | .inl e => .inl e
    | .inr v => match rd B N t (tkE B N p) with
      | .inl e => .inl e
      | .inr r => .inr (v :: r.1, r.2)
theorem numS_ok {B : Nat → Nat} {N p lo hi v : Nat} (h : numS B N p lo hi = .inr v) : lo ≤ v ∧ v ≤ hi ∧ tkK B N p = 2 ∧ v = tkV B N p := by
  unfold numS at h
  split at h
  · rename_i k
    split at h
    · rename_i y
      have e : tkV B N p = v := Sum.inr.inj h
      exact ⟨by omega, by omega, k, e.symm⟩
    · exact absurd h (fun z => nomatch z)
  · exact absurd h (fun z => nomatch z)
theorem rd_ok {B : Nat → Nat} {N : Nat} : ∀ (l : List (Nat × Nat)) (p : Nat) (vs : List Nat) (r : Nat), p ≤ N → rd B N l p = .inr (vs, r) → p ≤ r ∧ r ≤ N ∧ ∀ (j lo hi : Nat), l[j]? = some (lo, hi) → ∃ v, vs[j]? = some v ∧ lo ≤ v ∧ v ≤ hi
  | [], p, vs, r, hp, h => by
    rw [rd] at h
    have e := Sum.inr.inj h
    have e2 : p = r := congrArg Prod.snd e
    exact ⟨by omega, by omega, fun j lo hi z => absurd z (fun z => nomatch z)⟩
  | a :: t, p, vs, r, hp, h => by
    rw [rd] at h
    cases e : numS B N p a.1 a.2 with
    | inl x => rw [e] at h; exact absurd h (fun z => nomatch z)
    | inr v =>
      rw [e] at h
      cases e2 : rd B N t (tkE B N p) with
      | inl x => simp only [e2] at h; exact absurd h (fun z => nomatch z)
      | inr y =>
        simp only [e2] at h
        have e3 := Sum.inr.inj h
        have e4 : v :: y.1 = vs := congrArg Prod.fst e3
        have e5 : y.2 = r := congrArg Prod.snd e3
        have a1 := tkE_le (B := B) hp
        have a2 := tkP_le (B := B) hp
        obtain ⟨b1, b2, b3⟩ := rd_ok t (tkE B N p) y.1 y.2 a1.2 e2
        have c := numS_ok e
        refine ⟨by omega, by omega, fun j lo hi z => ?_⟩
        rw [← e4]
        match j, z with
        | 0, z =>
          have : a = (lo, hi) := Option.some.inj z
          rw [this] at c
          exact ⟨v, rfl, c.1, c.2.1⟩
        | j + 1, z => exact b3 j lo hi z
/-- the ranges of a word's numbers -/
def rg (k : Nat) : List (Nat × Nat) := ([[(0, 30)], [(0, 61), (0, 14), (0, 15), (1, 9)], [(1, 20)], [(1, 199)], [(0, 3), (0, 63)], [(0, 15), (0, 15), (0, 15)], [(0, 15), (0, 15), (0, 15), (0, 20)], [(1, 31)], [(1, 31)], [(0, 99)], [(0, 99999)], [(10, 99)]] : List (List (Nat × Nat))).getD k []
theorem rg_s : ∀ k, k < 12 → stab 1 k = nI (rg k).length ∧ (rg k).length ≤ 4 ∧ ∀ j, j < (rg k).length → stab 2 (4 * k + j) = nI ((rg k).getD j (0, 0)).1 ∧ stab 3 (4 * k + j) = nI ((rg k).getD j (0, 0)).2 ∧ ((rg k).getD j (0, 0)).1 ≤ 10 ∧ ((rg k).getD j (0, 0)).2 ≤ 99999 := by decide +kernel
theorem LcX.num {U : Txt} {O : Nat → Bool} {w : Nat} {B : Nat → Nat} {N : Nat} {X : Mem} {j : Nat} {v : Int32} (H : LcX U O w B N X) : LcX U O w B N (sI X 3 0 j v) := by
  obtain ⟨⟨a1, a2, a3⟩, b, ⟨c, d⟩, ⟨e1, e2, e3, e4, e5, e6, e7, e8, e9, e10⟩, v, f1, f2, f3⟩ := H
  refine ⟨⟨(sI_n (by omega)).trans a1, a2, fun k hk => (sI_n (by omega)).trans (a3 k hk)⟩, b, ⟨(sI_n (by omega)).trans c, (sI_n (by omega)).trans d⟩, ⟨(sI_n (by omega)).trans e1, (sI_n (by omega)).trans e2, (sI_n (by omega)).trans e3, (sI_n (by omega)).trans e4, (sI_n (by omega)).trans e5, (sI_n (by omega)).trans e6, (sI_n (by omega)).trans e7, (sI_n (by omega)).trans e8, fun e => ?_, fun q hq => ?_⟩, v, f1, (sI_n (by omega)).trans f2, f3⟩
  · obtain ⟨g1, g2, g3, g4⟩ := e9 e
    exact ⟨(sI_n (by omega)).trans g1, (sI_n (by omega)).trans g2, (sI_n (by omega)).trans g3, (sI_n (by omega)).trans g4⟩
  · obtain ⟨h1, h2, h3, h4, h5, h6, h7, h8, h9, h10⟩ := e10 q hq
    exact ⟨(sI_n (by omega)).trans h1, (sI_n (by omega)).trans h2, (sI_n (by omega)).trans h3, fun e => ⟨(sI_n (by omega)).trans (h4 e).1, (sI_n (by omega)).trans (h4 e).2.1, (sI_n (by omega)).trans (h4 e).2.2⟩, (sI_n (by omega)).trans h5, (sI_n (by omega)).trans h6, (sI_n (by omega)).trans h7, (sI_n (by omega)).trans h8, fun e => ⟨(sI_n (by omega)).trans (h9 e).1, (sI_n (by omega)).trans (h9 e).2.1, (sI_n (by omega)).trans (h9 e).2.2⟩, fun k i e => (sI_n (by omega)).trans (h10 k i e)⟩
/-- a refusal -/
def ErX (w : Nat) (X : Mem) (e : Nat × Nat) (Z : Mem) : Prop := FwX w X Z ∧ Z.1 2 0 0 = nI e.1 ∧ Z.1 2 0 1 = nI e.2
def ErY (Y : Mem) (e : Nat × Nat) (Z : Mem) : Prop := FwY Y Z ∧ Z.1 40 0 4 = nI e.1 ∧ Z.1 40 0 5 = nI e.2
theorem t_refuse {w : Nat} {B : Nat → Nat} {N p : Nat} {X : Mem} (h6 : X.1 2 0 6 = nI (tkP B N p)) (k : Nat) {Q : Int32 → Mem → Prop} (h : ∀ Z, ErX w X (k, tkP B N p) Z → Q 0 Z) : p_X6_refuse (nI k) X Q := by
  rintro M1 rfl M2 rfl
  refine h _ ⟨(FwX.set (Or.inl rfl)).tr (FwX.set (Or.inl rfl)), by rw [sI_n (by omega), sI_s], ?_⟩
  rw [sI_s, sI_n (by omega)]; exact h6
theorem t_wrong {B : Nat → Nat} {N p : Nat} {Y : Mem} (h6 : Y.1 40 0 10 = nI (tkP B N p)) (k : Nat) {Q : Int32 → Mem → Prop} (h : ∀ Z, ErY Y (k, tkP B N p) Z → Q 0 Z) : p_X11_wrong (nI k) Y Q := by
  rintro M1 rfl M2 rfl
  refine h _ ⟨(FwY.set (by omega)).tr (FwY.set (by omega)), by rw [sI_n (by omega), sI_s], ?_⟩
  rw [sI_s, sI_n (by omega)]; exact h6
