/-! a line in the class -/
theorem ln1 {l : List Nat} (h : l.length = 1) : ∃ a, l = [a] := by
  match l, h with
  | [a], _ => exact ⟨a, rfl⟩
theorem ln2 {l : List Nat} (h : l.length = 2) : ∃ a b, l = [a, b] := by
  match l, h with
  | [a, b], _ => exact ⟨a, b, rfl⟩
theorem ln3 {l : List Nat} (h : l.length = 3) : ∃ a b c, l = [a, b, c] := by
  match l, h with
  | [a, b, c], _ => exact ⟨a, b, c, rfl⟩
theorem ln4 {l : List Nat} (h : l.length = 4) : ∃ a b c d, l = [a, b, c, d] := by
  match l, h with
  | [a, b, c, d], _ => exact ⟨a, b, c, d, rfl⟩
theorem rd_len {B : Nat → Nat} {N : Nat} : ∀ (l : List (Nat × Nat)) (p : Nat) (vs : List Nat) (r : Nat), rd B N l p = .inr (vs, r) → vs.length = l.length
  | [], p, vs, r, h => by
    rw [rd] at h
    have e : ([] : List Nat) = vs := congrArg Prod.fst (Sum.inr.inj h)
    rw [← e]; rfl
  | a :: t, p, vs, r, h => by
    rw [rd] at h
    cases e : numS B N p a.1 a.2 with
    | inl x => rw [e] at h; exact absurd h (fun z => nomatch z)
    | inr v =>
      rw [e] at h
      cases e2 : rd B N t (tkE B N p) with
      | inl x => simp only [e2] at h; exact absurd h (fun z => nomatch z)
      | inr y =>
        simp only [e2] at h
        have e4 : v :: y.1 = vs := congrArg Prod.fst (Sum.inr.inj h)
        rw [← e4]
        exact congrArg (· + 1) (rd_len t (tkE B N p) y.1 y.2 e2)
/-- the numbers of a word are in its ranges -/
def InR (k : Nat) (vs : List Nat) : Prop := vs.length = (rg k).length ∧ ∀ j lo hi : Nat, (rg k)[j]? = some (lo, hi) → ∃ v, vs[j]? = some v ∧ lo ≤ v ∧ v ≤ hi
theorem updU_TB {U : Txt} {k b : Nat} {vs : List Nat} (hk : k < 12) (hU : TB U) (h0 : k = 0 → U 0 0 < 5 ∧ b < 2 ^ 30) (h1 : 0 < k → k < 6 → b < U 0 0) (h4 : k = 4 → U 0 1 < 10) (hr : InR k vs) : TB (updU U k b vs) := by
  obtain ⟨hl, hr⟩ := hr
  have : k = 0 ∨ k = 1 ∨ k = 2 ∨ k = 3 ∨ k = 4 ∨ k = 5 ∨ k = 6 ∨ (k = 7 ∨ k = 8 ∨ k = 9 ∨ k = 10 ∨ k = 11) := by omega
  rcases this with rfl | rfl | rfl | rfl | rfl | rfl | rfl | hk7
  · obtain ⟨a, rfl⟩ := ln1 hl
    obtain ⟨_, e, _, x⟩ := hr 0 0 30 rfl; obtain rfl := Option.some.inj e
    exact tbU_0 hU (h0 rfl).1 (h0 rfl).2 x
  · obtain ⟨a, b, c, d, rfl⟩ := ln4 hl
    obtain ⟨_, e, _, x⟩ := hr 0 0 61 rfl; obtain rfl := Option.some.inj e
    obtain ⟨_, e, _, x2⟩ := hr 1 0 14 rfl; obtain rfl := Option.some.inj e
    obtain ⟨_, e, _, x3⟩ := hr 2 0 15 rfl; obtain rfl := Option.some.inj e
    obtain ⟨_, e, x4, x5⟩ := hr 3 1 9 rfl; obtain rfl := Option.some.inj e
    exact tbU_1 hU (h1 (by decide) (by decide)) x x2 x3 ⟨x4, x5⟩
  · obtain ⟨a, rfl⟩ := ln1 hl
    obtain ⟨_, e, _, x⟩ := hr 0 1 20 rfl; obtain rfl := Option.some.inj e
    exact tbU_2 hU (h1 (by decide) (by decide)) x
  · obtain ⟨a, rfl⟩ := ln1 hl
    obtain ⟨_, e, _, x⟩ := hr 0 1 199 rfl; obtain rfl := Option.some.inj e
    exact tbU_3 hU (h1 (by decide) (by decide)) x
  · obtain ⟨a, b, rfl⟩ := ln2 hl
    obtain ⟨_, e, _, x⟩ := hr 0 0 3 rfl; obtain rfl := Option.some.inj e
    obtain ⟨_, e, _, x2⟩ := hr 1 0 63 rfl; obtain rfl := Option.some.inj e
    exact tbU_4 hU (h1 (by decide) (by decide)) (h4 rfl) x x2
  · obtain ⟨a, b, c, rfl⟩ := ln3 hl
    obtain ⟨_, e, _, x⟩ := hr 0 0 15 rfl; obtain rfl := Option.some.inj e
    obtain ⟨_, e, _, x2⟩ := hr 1 0 15 rfl; obtain rfl := Option.some.inj e
    obtain ⟨_, e, _, x3⟩ := hr 2 0 15 rfl; obtain rfl := Option.some.inj e
    exact tbU_5 hU (h1 (by decide) (by decide)) x x2 x3
  · obtain ⟨a, b, c, d, rfl⟩ := ln4 hl
    obtain ⟨_, e, _, x⟩ := hr 0 0 15 rfl; obtain rfl := Option.some.inj e
    obtain ⟨_, e, _, x2⟩ := hr 1 0 15 rfl; obtain rfl := Option.some.inj e
    obtain ⟨_, e, _, x3⟩ := hr 2 0 15 rfl; obtain rfl := Option.some.inj e
    obtain ⟨_, e, _, x4⟩ := hr 3 0 20 rfl; obtain rfl := Option.some.inj e
    exact tbU_6 hU x x2 x3 x4
  · have hl1 : vs.length = 1 := by rcases hk7 with rfl | rfl | rfl | rfl | rfl <;> exact hl
    obtain ⟨a, rfl⟩ := ln1 hl1
    have hx : ∃ lo hi, (rg k)[0]? = some (lo, hi) := by rcases hk7 with rfl | rfl | rfl | rfl | rfl <;> exact ⟨_, _, rfl⟩
    obtain ⟨lo, hi, hx⟩ := hx
    obtain ⟨_, e, x⟩ := hr 0 lo hi hx; obtain rfl := Option.some.inj e
    have e : updU U k b [a] = put U 0 (k - 5) a := by rcases hk7 with rfl | rfl | rfl | rfl | rfl <;> rfl
    rw [e]
    exact tbU_7 hU hk7 hx x
theorem t10_takeK {U : Txt} {w k b : Nat} {vs : List Nat} {X : Mem} (hk : k < 12) (H : TkH U w k b vs X) (hr : InR k vs) {Q : Mem → Prop} (h : ∀ Z, TkX w X Z → WXw (updU U k b vs) w Z → Q Z) : b_X6_take_22 Q (nI k) X := by
  obtain ⟨hl, hr⟩ := hr
  have : k = 0 ∨ k = 1 ∨ k = 2 ∨ k = 3 ∨ k = 4 ∨ k = 5 ∨ k = 6 ∨ k = 7 ∨ k = 8 ∨ k = 9 ∨ k = 10 ∨ k = 11 := by omega
  rcases this with rfl | rfl | rfl | rfl | rfl | rfl | rfl | rfl | rfl | rfl | rfl | rfl
  · obtain ⟨a, rfl⟩ := ln1 hl
    exact t10_take0 H h
  · obtain ⟨a, b, c, d, rfl⟩ := ln4 hl
    exact t10_take1 H h
  · obtain ⟨a, rfl⟩ := ln1 hl
    exact t10_take2 H h
  · obtain ⟨a, rfl⟩ := ln1 hl
    exact t10_take3 H h
  · obtain ⟨a, b, rfl⟩ := ln2 hl
    obtain ⟨_, e, _, x⟩ := hr 0 0 3 rfl; obtain rfl := Option.some.inj e
    obtain ⟨_, e, _, x2⟩ := hr 1 0 63 rfl; obtain rfl := Option.some.inj e
    exact t10_take4 H (by omega) (by omega) h
  · obtain ⟨a, b, c, rfl⟩ := ln3 hl
    exact t10_take5 H h
  · obtain ⟨a, b, c, d, rfl⟩ := ln4 hl
    exact t10_take6 H h
  · obtain ⟨a, rfl⟩ := ln1 hl
    exact t10_take7 H h
  · obtain ⟨a, rfl⟩ := ln1 hl
    exact t10_take8 H h
  · obtain ⟨a, rfl⟩ := ln1 hl
    exact t10_take9 H h
  · obtain ⟨a, rfl⟩ := ln1 hl
    exact t10_take10 H h
  · obtain ⟨a, rfl⟩ := ln1 hl
    exact t10_take11 H h
theorem WXw.mark {U : Txt} {w : Nat} {X : Mem} {v : Int32} (H : WXw U w X) : WXw U w (sI X 23 w 15 v) := by
  unfold WXw at H ⊢
  obtain ⟨a1, a2, a3, a4, a5, a6, a7, a8, a9, a10⟩ := H
  refine ⟨(sI_n (by omega)).trans a1, (sI_n (by omega)).trans a2, (sI_n (by omega)).trans a3, (sI_n (by omega)).trans a4, (sI_n (by omega)).trans a5, (sI_n (by omega)).trans a6, (sI_n (by omega)).trans a7, (sI_n (by omega)).trans a8, fun e => ⟨(sI_n (by omega)).trans (a9 e).1, (sI_n (by omega)).trans (a9 e).2.1, (sI_n (by omega)).trans (a9 e).2.2.1, (sI_n (by omega)).trans (a9 e).2.2.2⟩, fun b hb => (a10 b hb).mv (fun k => sI_n (by omega)) (fun k => sI_n (by omega)) rfl (fun k i z => ⟨z, rfl, rfl⟩)⟩
theorem t10_takeAll {U : Txt} {O : Nat → Bool} {w : Nat} {B : Nat → Nat} {N k b : Nat} {vs : List Nat} {X : Mem} (hk : k < 12) (hX : LcX U O w B N X) (H : TkH U w k b vs X) (hr : InR k vs) {Q : Mem → Prop} (h : ∀ Z, FwX w X Z → (∀ j, Z.1 2 0 j = X.1 2 0 j) → LcX (updU U k b vs) (fun j => O j || j == k) w B N Z → Q Z) : p_X6_take (nI k) X Q := by
  obtain ⟨⟨r1, r2, r3⟩, h8, ⟨c, d⟩, hW, v, v1, v2, v3⟩ := hX
  have hw := H.2.1
  unfold p_X6_take p_X6_isOnce
  rw [show (6 : Int32) = nI 6 from rfl, nI_ltI (by omega) (by decide)]
  refine ⟨fun y => ⟨fun _ => t10_takeK hk H hr (fun Z e1 e2 => h Z ⟨by rw [e1.1], fun _ _ _ _ => by rw [e1.1], fun f i k y => e1.2.1 f i k (by omega)⟩ (fun j => e1.2.1 2 0 j (by omega)) ⟨⟨(e1.2.1 2 0 3 (by omega)).trans r1, by rw [e1.1]; exact r2, fun k hk => (e1.2.1 1 0 k (by omega)).trans (r3 k hk)⟩, by rw [e1.1]; exact h8, ⟨(e1.2.1 2 0 0 (by omega)).trans c, (e1.2.1 2 0 1 (by omega)).trans d⟩, e2, v, v1, e1.2.2.trans v2, fun j j1 j2 => ?_⟩), fun z => absurd rfl z⟩, fun y => ⟨fun z => absurd z z1n, fun _ => ⟨w, h8, hw, ?_⟩⟩⟩
  · rw [v3 j j1 j2]
    have : (j == k) = false := by simp; omega
    show O j = (O j || j == k)
    rw [this, Bool.or_false]
  · rw [v2, show (1 : Int32) = nI 1 from rfl, pk_shlN _ k (sh_l k (by omega)) (by rw [Nat.one_mul]; exact Nat.pow_lt_pow_right (by decide) (by omega)), Nat.one_mul, fa_or]
    rintro M25 rfl
    have hv' : v ||| 2 ^ k < 2 ^ 12 := Nat.or_lt_two_pow v1 (Nat.pow_lt_pow_right (by decide) hk)
    obtain ⟨g1, g2, g3, g4, g5, g6, g7, g8⟩ := H
    have H' : TkH U w k b vs (sI X 23 w 15 (nI (v ||| 2 ^ k))) := ⟨g1, g2, g3, g4.mark, fun i v z => (sI_n (by omega)).trans (g5 i v z), fun z => ⟨(sI_n (by omega)).trans (g6 z).1, (g6 z).2⟩, g7, g8⟩
    refine t10_takeK hk H' hr (fun Z e1 e2 => h Z ⟨by rw [e1.1]; rfl, fun _ _ _ _ => by rw [e1.1]; rfl, fun f i k y => (e1.2.1 f i k (by omega)).trans (sI_n (by omega))⟩ (fun j => (e1.2.1 2 0 j (by omega)).trans (sI_n (by omega))) ⟨⟨((e1.2.1 2 0 3 (by omega)).trans (sI_n (by omega))).trans r1, by rw [e1.1]; exact r2, fun k hk => ((e1.2.1 1 0 k (by omega)).trans (sI_n (by omega))).trans (r3 k hk)⟩, by rw [e1.1]; exact h8, ⟨((e1.2.1 2 0 0 (by omega)).trans (sI_n (by omega))).trans c, ((e1.2.1 2 0 1 (by omega)).trans (sI_n (by omega))).trans d⟩, e2, v ||| 2 ^ k, hv', e1.2.2.trans sI_s, fun j j1 j2 => ?_⟩)
    rw [Nat.testBit_or, Nat.testBit_two_pow, v3 j j1 j2]
    congr 1
    by_cases z : k = j
    · rw [z]; simp
    · rw [decide_eq_false z]; symm; simp; omega
/-! a line's worth -/
def tailS (B : Nat → Nat) (N : Nat) (U : Txt) (O : Nat → Bool) (k b q : Nat) : Sum (Nat × Nat) (Txt × (Nat → Bool) × Nat) :=
  match rd B N (rg k) q with
  | .inl e => .inl e
  | .inr r => if tkK B N r.2 = 3 then .inr (updU U k b r.1, (fun j => O j || j == k), tkE B N r.2) else .inl (1, tkP B N r.2)
def bodyS (B : Nat → Nat) (N : Nat) (U : Txt) (O : Nat → Bool) (k p : Nat) : Sum (Nat × Nat) (Txt × (Nat → Bool) × Nat) :=
  if (k = 0 ∧ 5 ≤ U 0 0) ∨ (k = 4 ∧ 10 ≤ U 0 1) then .inl (2, tkP B N p) else if 6 ≤ k ∧ O k = true then .inl (3, tkP B N p) else if k < 6 then
    match nmS B N U k (tkE B N p) with
    | .inl e => .inl e
    | .inr b => tailS B N U O k b (tkE B N (tkE B N p))
  else tailS B N U O k 0 (tkE B N p)
def lineS (B : Nat → Nat) (N : Nat) (U : Txt) (O : Nat → Bool) (p : Nat) : Sum (Nat × Nat) (Txt × (Nat → Bool) × Nat) :=
  if tkK B N p = 1 ∧ wI (tkW B N p) < 12 then bodyS B N U O (wI (tkW B N p)) p else .inl (1, tkP B N p)
/-- what a line's end wants to know of its name -/
def Nmd (U : Txt) (k b : Nat) : Prop := (k = 0 → U 0 0 < 5 ∧ b < 2 ^ 30) ∧ (0 < k → k < 6 → b < U 0 0) ∧ (k = 4 → U 0 1 < 10)
theorem tailS_ok {B : Nat → Nat} {N : Nat} {U : Txt} {O : Nat → Bool} {k b q : Nat} (hk : k < 12) (hU : TB U) (hn : Nmd U k b) (hq : q ≤ N) {R : Txt × (Nat → Bool) × Nat} (h : tailS B N U O k b q = .inr R) : TB R.1 ∧ q < R.2.2 ∧ R.2.2 ≤ N := by
  unfold tailS at h
  cases e : rd B N (rg k) q with
  | inl x => simp only [e] at h; exact absurd h (fun z => nomatch z)
  | inr y =>
    simp only [e] at h
    obtain ⟨a1, a2, a3⟩ := rd_ok (rg k) q y.1 y.2 hq e
    split at h
    · rename_i k3
      have e3 := Sum.inr.inj h
      rw [← e3]
      have g := tkE_gt (B := B) (N := N) (p := y.2) a2 (by omega)
      have g2 := (tkE_le (B := B) a2).2
      exact ⟨updU_TB hk hU hn.1 hn.2.1 hn.2.2 ⟨rd_len _ _ _ _ e, a3⟩, Nat.lt_of_le_of_lt a1 g, g2⟩
    · exact absurd h (fun z => nomatch z)
theorem t10_94 {U : Txt} {O : Nat → Bool} {w : Nat} {B : Nat → Nat} {N k b q : Nat} (hB : TxB B N) (hU : TB U) (hw : w < 2) (hk : k < 12) (hq : q ≤ N) (hn : Nmd U k b) {X : Mem} (hS : LnX U O w B N q X) (h0 : k = 0 → X.1 2 0 9 = nI b) (h1 : 0 < k → k < 6 → X.2.2 2 0 10 = some (27 + (5 * w + b))) {Q : Int32 → Mem → Prop} (hE : ∀ e, tailS B N U O k b q = .inl e → ∀ Z, ErX w X e Z → Q 0 Z) (hO : ∀ R, tailS B N U O k b q = .inr R → ∀ Z, FwX w X Z → LnX R.1 R.2.1 w B N R.2.2 Z → Q 1 Z) : b_X6_readLine_94 Q (nI k) X := by
  refine t10_nums hB hk hq hS (fun e he Z hZ => ⟨fun z => absurd rfl z, fun _ => hE e (by unfold tailS; simp only [he]) Z hZ⟩) (fun vs r he Z f1 f2 f3 f4 f5 => ⟨fun _ => ?_, fun z => absurd z z1n⟩)
  obtain ⟨a1, a2, a3⟩ := rd_ok (rg k) q vs r hq he
  have hKl := tkK_le (B := B) (N := N) (p := r)
  rw [f3.2.2.2.1]
  refine ⟨fun z => ?_, fun z => ?_⟩
  · have kK : tkK B N r = 3 := (nI_eq (b := 3) (by omega) (by decide)).mp z
    have ir : InR k vs := ⟨rd_len _ _ _ _ he, a3⟩
    refine t10_takeAll hk f3.1 ⟨hU, hw, f3.1.2.1, f3.1.2.2.2.1, f4, fun z => ⟨f5.trans (h0 z), (hn.1 z).1⟩, fun z z2 => ⟨by rw [f2]; exact h1 z z2, hn.2.1 z z2⟩, hn.2.2⟩ ir (fun Z2 g1 g2 g3 => ?_)
    refine g3.adv hB a2 ((g2 4).trans f3.2.2.1) (fun Z3 q1 q2 => hO (updU U k b vs, (fun j => O j || j == k), tkE B N r) ?_ Z3 ((f1.tr g1).tr q1.fx) q2)
    unfold tailS; simp only [he]; rw [if_pos kK]
  · have kK : ¬ tkK B N r = 3 := fun y => z (by rw [y]; rfl)
    refine t_refuse f3.2.1 1 (fun Z2 g => hE (1, tkP B N r) ?_ Z2 ⟨f1.tr g.1, g.2⟩)
    unfold tailS; simp only [he]; rw [if_neg kK]
