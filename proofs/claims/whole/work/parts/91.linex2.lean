theorem t10_tooMany {U : Txt} {w k : Nat} (hU : TB U) (hw : w < 2) (hk : k < 12) {X : Mem} (h8 : X.2.2 2 0 8 = some (23 + w)) (hX : WXw U w X) {Q : Int32 → Mem → Prop} (h1 : ((k = 0 ∧ 5 ≤ U 0 0) ∨ (k = 4 ∧ 10 ≤ U 0 1)) → Q 1 X) (h0 : ¬ ((k = 0 ∧ 5 ≤ U 0 0) ∨ (k = 4 ∧ 10 ≤ U 0 1)) → Q 0 X) : p_X6_isOneTooMany (nI k) X Q := by
  have b5 := hU.1
  have b10 := hU.2.1
  have b15 : ¬ (k = 0 ∧ 5 ≤ U 0 0) → b_X6_isOneTooMany_15 Q (nI k) X := by
    intro nn
    refine ⟨fun z => h0 (fun y => ?_), fun z => ⟨w, h8, hw, ?_⟩⟩
    · rcases y with y | y
      · exact nn y
      · exact z (by rw [y.1]; rfl)
    · have k4 : k = 4 := (nI_eq (b := 4) (by omega) (by decide)).mp z
      rw [hX.2.1, show (10 : Int32) = nI 10 from rfl, nI_ltI (by omega) (by decide)]
      exact ⟨fun y => h0 (by omega), fun y => h1 (by omega)⟩
  refine ⟨fun z => b15 (fun y => z (by rw [y.1]; rfl)), fun z => ⟨w, h8, hw, ?_⟩⟩
  have k0 : k = 0 := (nI_eq (b := 0) (by omega) (by decide)).mp z
  rw [hX.1, show (5 : Int32) = nI 5 from rfl, nI_leI (by decide) (by omega)]
  exact ⟨fun y => h1 (Or.inl ⟨k0, y⟩), fun y => b15 (fun c => y c.2)⟩
theorem bodyS_ok {B : Nat → Nat} {N : Nat} {U : Txt} {O : Nat → Bool} {k p : Nat} (hk : k < 12) (hU : TB U) (hp : p ≤ N) {R : Txt × (Nat → Bool) × Nat} (h : bodyS B N U O k p = .inr R) : TB R.1 ∧ p < R.2.2 ∧ R.2.2 ≤ N := by
  unfold bodyS at h
  have p1 := tkE_le (B := B) hp
  have p2 := tkP_le (B := B) hp
  split at h
  · exact absurd h (fun z => nomatch z)
  · rename_i c1
    split at h
    · exact absurd h (fun z => nomatch z)
    · split at h
      · rename_i c3
        cases e : nmS B N U k (tkE B N p) with
        | inl x => simp only [e] at h; exact absurd h (fun z => nomatch z)
        | inr b =>
          simp only [e] at h
          obtain ⟨n1, n2⟩ := nmS_ok e
          have p3 := tkE_le (B := B) p1.2
          have p4 := tkP_le (B := B) p1.2
          obtain ⟨a, b, c⟩ := tailS_ok hk hU ⟨fun z => ⟨by omega, n1 z⟩, fun z _ => (n2 z).1, fun z => by omega⟩ p3.2 h
          exact ⟨a, by omega, c⟩
      · rename_i c3
        obtain ⟨a, b, c⟩ := tailS_ok hk hU ⟨fun z => by omega, fun z _ => by omega, fun z => by omega⟩ p1.2 h
        exact ⟨a, by omega, c⟩
theorem lineS_ok {B : Nat → Nat} {N : Nat} {U : Txt} {O : Nat → Bool} {p : Nat} (hU : TB U) (hp : p ≤ N) {R : Txt × (Nat → Bool) × Nat} (h : lineS B N U O p = .inr R) : TB R.1 ∧ p < R.2.2 ∧ R.2.2 ≤ N := by
  unfold lineS at h
  split at h
  · rename_i c; exact bodyS_ok c.2 hU hp h
  · exact absurd h (fun z => nomatch z)
theorem t10_73 {U : Txt} {O : Nat → Bool} {w : Nat} {B : Nat → Nat} {N k p : Nat} (hB : TxB B N) (hU : TB U) (hw : w < 2) (hk : k < 12) (hp : p ≤ N) (c1 : ¬ ((k = 0 ∧ 5 ≤ U 0 0) ∨ (k = 4 ∧ 10 ≤ U 0 1))) (c2 : ¬ (6 ≤ k ∧ O k = true)) {X : Mem} (hS : LnX U O w B N p X) {Q : Int32 → Mem → Prop} (hE : ∀ e, bodyS B N U O k p = .inl e → ∀ Z, ErX w X e Z → Q 0 Z) (hO : ∀ R, bodyS B N U O k p = .inr R → ∀ Z, FwX w X Z → LnX R.1 R.2.1 w B N R.2.2 Z → Q 1 Z) : b_X6_readLine_73 Q (nI k) X := by
  have p1 := (tkE_le (B := B) hp).2
  have p2 := (tkE_le (B := B) p1).2
  unfold bodyS at hE hO
  rw [if_neg c1, if_neg c2] at hE hO
  refine hS.1.adv hB hp hS.2.2.1 (fun X1 g1 g2 => ?_)
  unfold p_X6_isOnce
  rw [show (6 : Int32) = nI 6 from rfl, nI_ltI (by omega) (by decide)]
  refine ⟨fun y => ⟨fun z => absurd rfl z, fun _ => ?_⟩, fun y => ⟨fun _ => ?_, fun z => absurd z z1n⟩⟩
  · rw [if_pos y] at hE hO
    refine t10_name hB hU hw y p1 g2 (fun e he Z hZ => ⟨fun z => absurd rfl z, fun _ => hE e (by simp only [he]) Z ⟨g1.fx.tr hZ.1, hZ.2⟩⟩) (fun b he Z f1 f2 f3 f4 => ⟨fun _ => ?_, fun z => absurd z z1n⟩)
    obtain ⟨n1, n2⟩ := nmS_ok he
    refine t10_94 hB hU hw hk p2 (b := b) ⟨fun z => ⟨by omega, n1 z⟩, fun z _ => (n2 z).1, fun z => by omega⟩ f2 f3 (fun z _ => f4 z) (fun e h Z2 hZ => hE e (by simp only [he]; exact h) Z2 ⟨(g1.fx.tr f1).tr hZ.1, hZ.2⟩) (fun R h Z2 hZ hL => hO R (by simp only [he]; exact h) Z2 ((g1.fx.tr f1).tr hZ) hL)
  · rw [if_neg y] at hE hO
    exact t10_94 hB hU hw hk p1 (b := 0) ⟨fun z => by omega, fun z _ => by omega, fun z => by omega⟩ g2 (fun z => by omega) (fun z _ => by omega) (fun e h Z2 hZ => hE e h Z2 ⟨g1.fx.tr hZ.1, hZ.2⟩) (fun R h Z2 hZ hL => hO R h Z2 (g1.fx.tr hZ) hL)
theorem t10_line {U : Txt} {O : Nat → Bool} {w : Nat} {B : Nat → Nat} {N p : Nat} (hB : TxB B N) (hU : TB U) (hw : w < 2) (hp : p ≤ N) {X : Mem} (hS : LnX U O w B N p X) {Q : Int32 → Mem → Prop} (hE : ∀ e, lineS B N U O p = .inl e → ∀ Z, ErX w X e Z → Q 0 Z) (hO : ∀ R, lineS B N U O p = .inr R → ∀ Z, FwX w X Z → LnX R.1 R.2.1 w B N R.2.2 Z → Q 1 Z) : p_X6_readLine X Q := by
  have hKl := tkK_le (B := B) (N := N) (p := p)
  have hW := tkW_lt (B := B) (N := N) (p := p)
  have er : ¬ (tkK B N p = 1 ∧ wI (tkW B N p) < 12) → ∀ s0, s0 = -1 → b_X6_readLine_19 Q s0 X := by
    rintro y s0 rfl
    exact ⟨fun z => absurd rfl z, fun _ => t_refuse hS.2.1 1 (fun Z g => hE _ (by unfold lineS; rw [if_neg y]) Z g)⟩
  unfold p_X6_readLine
  rw [hS.2.2.2.1]
  refine ⟨fun z => er (fun y => z (by rw [y.1]; rfl)) _ rfl, fun z => ?_⟩
  have kK : tkK B N p = 1 := (nI_eq (b := 1) (by omega) (by decide)).mp z
  rw [hS.2.2.2.2.1 kK]
  refine t10_wordNum (by omega) ?_
  by_cases y : wI (tkW B N p) < 12
  · have we : wR (tkW B N p) = nI (wI (tkW B N p)) := by unfold wR; rw [if_pos y]
    rw [we]
    have e : lineS B N U O p = bodyS B N U O (wI (tkW B N p)) p := by unfold lineS; rw [if_pos ⟨kK, y⟩]
    rw [e] at hE hO
    revert hE hO y
    generalize wI (tkW B N p) = k
    intro hE hO y
    refine ⟨fun _ => t10_tooMany hU hw y hS.1.2.1 hS.1.2.2.2.1 (fun c => ⟨fun z => absurd z z1n, fun _ => t_refuse hS.2.1 2 (fun Z g => hE _ (by unfold bodyS; rw [if_pos c]) Z g)⟩) (fun c => ⟨fun _ => ?_, fun z => absurd rfl z⟩), fun z => absurd z ((by decide : ∀ k, k < 12 → ¬ (nI k : Int32) = -1) k y)⟩
    unfold p_X6_isOnce
    rw [show (6 : Int32) = nI 6 from rfl, nI_ltI (by omega) (by decide)]
    refine ⟨fun c6 => ⟨fun _ => t10_73 hB hU hw y hp c (by omega) hS hE hO, fun z => absurd rfl z⟩, fun c6 => ⟨fun z => absurd z z1n, fun _ => ⟨w, hS.1.2.1, hw, ?_⟩⟩⟩
    obtain ⟨v, v1, v2, v3⟩ := hS.1.2.2.2.2
    rw [v2, ush_bit (by omega) (by omega), v3 k (by omega) y]
    cases eo : O k
    · exact ⟨fun _ => t10_73 hB hU hw y hp c (by rw [eo]; rintro ⟨_, q⟩; exact Bool.false_ne_true q) hS hE hO, fun z => absurd z (by decide)⟩
    · refine ⟨fun z => absurd rfl z, fun _ => t_refuse hS.2.1 3 (fun Z g => hE _ ?_ Z g)⟩
      unfold bodyS; rw [if_neg c, if_pos ⟨by omega, eo⟩]
  · exact er (fun c => y c.2) _ (wR_n.mpr y)
