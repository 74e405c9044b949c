/-! a channel as numbers, followed a period: both sides -/
def lostX (l : Nat) : Int32 := if l = 0 then -2 else nI (l - 1)
def XS (S : Nat → Nat) (X : Mem) (c : Nat) : Prop := (∀ k, k < 7 → X.1 30 c k = nI (S k)) ∧ X.1 30 c 7 = lostX (S 7) ∧ X.1 30 c 9 = nI (S 8) ∧ uN (X.2.1 30 c 8) = S 9
def YS (S : Nat → Nat) (Y : Mem) (u : Nat) : Prop := (∀ k, k < 9 → Y.1 54 0 (u + k) = nI (S k)) ∧ ∀ i, i < S 8 → Y.1 54 0 (u + 9 + i) = bitV ((S 9).testBit (S 8 - 1 - i))
def SBn (nb : Nat) (S : Nat → Nat) : Prop := S 0 < nb ∧ S 1 < 248 ∧ S 2 < 15 ∧ S 3 < 16 ∧ S 4 < 2 ^ 29 ∧ S 5 < 201 ∧ S 6 < 4 ∧ (S 7 = 0 → S 6 < 3) ∧ S 7 ≤ 200 ∧ S 8 ≤ 64 ∧ S 8 ≤ S 5 ∧ S 9 < 2 ^ 64
theorem ChR.spec {nb c u : Nat} {X Y : Mem} (h : ChR nb X c Y u) : ∃ S, SBn nb S ∧ XS S X c ∧ YS S Y u := by
  obtain ⟨⟨b, hb, x0, y0⟩, ⟨p, hp, x1, y1⟩, ⟨s, hs, x2, y2⟩, ⟨t, ht, x3, y3⟩, ⟨ba, hba, x4, y4⟩, ⟨nx, hnx, x5, y5, m', hm', x9'⟩, ⟨wk, hwk, x6, y6, w7⟩, hl, m, hm, x9, y8, hlog⟩ := h
  have hmm : m' = m := (nI_eq (by omega) (by omega)).mp (x9'.symm.trans x9)
  obtain ⟨l, hl1, hl2, x7, y7⟩ : ∃ l, l ≤ 200 ∧ (l = 0 → wk < 3) ∧ X.1 30 c 7 = lostX l ∧ Y.1 54 0 (u + 7) = nI l := by
    rcases hl with ⟨a1, a2⟩ | ⟨t, ht, a1, a2⟩
    · exact ⟨0, by decide, fun _ => w7 a2, a1, a2⟩
    · exact ⟨t + 1, by omega, fun z => by omega, by rw [lostX, if_neg (by omega)]; exact a1, a2⟩
  refine ⟨fun k => match k with | 0 => b | 1 => p | 2 => s | 3 => t | 4 => ba | 5 => nx | 6 => wk | 7 => l | 8 => m | _ => uN (X.2.1 30 c 8), ⟨hb, hp, hs, ht, hba, hnx, hwk, hl2, hl1, hm, (show m ≤ nx by omega), ?_⟩, ⟨fun k hk => ?_, x7, x9, rfl⟩, fun k hk => ?_, fun i hi => ?_⟩
  · exact (X.2.1 30 c 8).toUInt64.toNat_lt
  · have : k = 0 ∨ k = 1 ∨ k = 2 ∨ k = 3 ∨ k = 4 ∨ k = 5 ∨ k = 6 := by omega
    rcases this with rfl | rfl | rfl | rfl | rfl | rfl | rfl
    · exact x0
    · exact x1
    · exact x2
    · exact x3
    · exact x4
    · exact x5
    · exact x6
  · have : k = 0 ∨ k = 1 ∨ k = 2 ∨ k = 3 ∨ k = 4 ∨ k = 5 ∨ k = 6 ∨ k = 7 ∨ k = 8 := by omega
    rcases this with rfl | rfl | rfl | rfl | rfl | rfl | rfl | rfl | rfl
    · exact y0
    · exact y1
    · exact y2
    · exact y3
    · exact y4
    · exact y5
    · exact y6
    · exact y7
    · exact y8
  · exact hlog i hi
theorem ChR.ofS {nb c u : Nat} {X Y : Mem} {S : Nat → Nat} (hB : SBn nb S) (hX : XS S X c) (hY : YS S Y u) : ChR nb X c Y u := by
  obtain ⟨b0, b1, b2, b3, b4, b5, b6, b67, b7, b8, b85, b9⟩ := hB
  obtain ⟨x, x7, x9, xl⟩ := hX
  obtain ⟨y, yl⟩ := hY
  refine ⟨⟨S 0, b0, x 0 (by decide), y 0 (by decide)⟩, ⟨S 1, b1, x 1 (by decide), y 1 (by decide)⟩, ⟨S 2, b2, x 2 (by decide), y 2 (by decide)⟩, ⟨S 3, b3, x 3 (by decide), y 3 (by decide)⟩, ⟨S 4, b4, x 4 (by decide), y 4 (by decide)⟩, ⟨S 5, b5, x 5 (by decide), y 5 (by decide), S 8, b85, x9⟩, ⟨S 6, b6, x 6 (by decide), y 6 (by decide), fun z => b67 ?_⟩, ?_, S 8, b8, x9, y 8 (by decide), fun i hi => ?_⟩
  · rw [y 7 (by decide)] at z
    exact (nI_eq0 (by omega)).mp z
  · rw [LostR, x7, y 7 (by decide)]
    by_cases e : S 7 = 0
    · left; rw [e]; exact ⟨rfl, rfl⟩
    · right
      refine ⟨S 7 - 1, by omega, ?_, ?_⟩
      · rw [lostX, if_neg e]
      · congr 1; omega
  · have := yl i hi
    rw [← xl] at this
    exact this
/-! the step -/
def chRe (T : Txt) (S : Nat → Nat) : Nat → Int := sreZ T (S 5) (T 0 4) (T 0 5) none
def chIm (T : Txt) (S : Nat → Nat) : Nat → Int := simZ T (S 5) (T 0 4) (T 0 5) none
def chPw (T : Txt) (S : Nat → Nat) (st : Nat) : Nat := pwN T (T (1 + S 0) 1) st (chRe T S) (chIm T S) (S 5) (S 2) (S 3)
def chSi (T : Txt) (S : Nat → Nat) (st : Nat) : Int := siZ T (T (1 + S 0) 1) st (chRe T S) (chIm T S) (S 5) (S 2) (S 3)
def chSq (T : Txt) (S : Nat → Nat) (st : Nat) : Int := sqZ T (T (1 + S 0) 1) st (chRe T S) (chIm T S) (S 5) (S 2) (S 3)
def ptS (e l p : Nat) : Nat := if l < e then (p + 247) % 248 else if e < l then (p + 1) % 248 else p
def tuS (I q : Int) (t : Nat) : Nat := if I.natAbs < 2 * q.natAbs then (if 0 < q then (t + 1) % 16 else (t + 15) % 16) else t
def wkS (pr base w : Nat) : Nat := if 4 * pr < base then w + 1 else 0
def chQ (T : Txt) (S : Nat → Nat) : Int := if chSi T S (S 1 / 4) < 0 then -chSq T S (S 1 / 4) else chSq T S (S 1 / 4)
def chB (T : Txt) (S : Nat → Nat) : Bool := decide (chSi T S (S 1 / 4) < 0)
def bN (b : Bool) : Nat := if b then 1 else 0
def gU (g : Nat → Nat) (k v : Nat) : Nat → Nat := fun j => if j = k then v else g j
def stepS (T : Txt) (S : Nat → Nat) : Nat → Nat := fun k =>
  if k = 1 then ptS (chPw T S ((S 1 / 4 + 61) % 62)) (chPw T S ((S 1 / 4 + 1) % 62)) (S 1)
  else if k = 3 then tuS (chSi T S (S 1 / 4)) (chQ T S) (S 3)
  else if k = 5 then S 5 + 1
  else if k = 6 then wkS (chPw T S (S 1 / 4)) (S 4) (S 6)
  else if k = 7 then (if wkS (chPw T S (S 1 / 4)) (S 4) (S 6) = 3 then S 5 + 1 else S 7)
  else if k = 8 then min 64 (S 8 + 1)
  else if k = 9 then (2 * S 9 + bN (chB T S)) % 2 ^ 64
  else S k
theorem ptS_lt {e l p : Nat} (hp : p < 248) : ptS e l p < 248 := by unfold ptS; split <;> (try split) <;> omega
theorem tuS_lt {I q : Int} {t : Nat} (ht : t < 16) : tuS I q t < 16 := by unfold tuS; split <;> (try split) <;> omega
theorem stepS_b {T : Txt} {nb : Nat} {S : Nat → Nat} (hB : SBn nb S) (h7 : S 7 = 0) (h5 : S 5 < 200) : SBn nb (stepS T S) := by
  obtain ⟨b0, b1, b2, b3, b4, b5, b6, b67, b7, b8, b85, b9⟩ := hB
  have w3 := b67 h7
  have hw : wkS (chPw T S (S 1 / 4)) (S 4) (S 6) < 4 := by unfold wkS; split <;> omega
  refine ⟨b0, ptS_lt b1, b2, tuS_lt b3, b4, show S 5 + 1 < 201 by omega, hw, fun z => ?_, ?_, show min 64 (S 8 + 1) ≤ 64 by omega, show min 64 (S 8 + 1) ≤ S 5 + 1 by omega, Nat.mod_lt _ (by decide)⟩
  · show wkS (chPw T S (S 1 / 4)) (S 4) (S 6) < 3
    have z' : (if wkS (chPw T S (S 1 / 4)) (S 4) (S 6) = 3 then S 5 + 1 else S 7) = 0 := z
    split at z'
    · omega
    · omega
  · show (if wkS (chPw T S (S 1 / 4)) (S 4) (S 6) = 3 then S 5 + 1 else S 7) ≤ 200
    split <;> omega
/-! the class, piece by piece -/
theorem iI_ge0 {z : Int} (h1 : -2147483648 ≤ z) (h2 : z < 2147483648) : (0 ≤ iI z) ↔ 0 ≤ z := by
  rw [Int32.le_iff_toInt_le, iI_t h1 h2, show (0 : Int32).toInt = 0 from by decide]
theorem iI_le0 {z : Int} (h1 : -2147483648 ≤ z) (h2 : z < 2147483648) : (iI z ≤ 0) ↔ z ≤ 0 := by
  rw [Int32.le_iff_toInt_le, iI_t h1 h2, show (0 : Int32).toInt = 0 from by decide]
theorem abs_e {z : Int} (h1 : -1000000 ≤ z) (h2 : z ≤ 1000000) : (if 0 ≤ iI z then iI z else 0 - iI z) = nI z.natAbs := by
  rw [← iI_n]
  by_cases h : 0 ≤ z
  · rw [if_pos ((iI_ge0 (by omega) (by omega)).mpr h)]; congr 1; omega
  · rw [if_neg (fun y => h ((iI_ge0 (by omega) (by omega)).mp y)), show (0 : Int32) = iI 0 from rfl, iI_sub]; congr 1; omega
def C1 (c k0 : Nat) (X Z : Mem) : Prop := Z.2 = X.2 ∧ ∀ f i k, ¬ (f = 30 ∧ i = c ∧ k = k0) → Z.1 f i k = X.1 f i k
theorem C1.rf (c k0 : Nat) (X : Mem) : C1 c k0 X X := ⟨rfl, fun _ _ _ _ => rfl⟩
theorem C1.set {c k0 : Nat} {X : Mem} {v : Int32} : C1 c k0 X (sI X 30 c k0 v) := ⟨rfl, fun _ _ _ e => sI_n e⟩
theorem t10_move {c e l p : Nat} (he : e < 2 ^ 30) (hl : l < 2 ^ 30) (hp : p < 248) {X : Mem} (h1 : X.1 30 c 1 = nI p) {Q : Mem → Prop} (h : ∀ Z, C1 c 1 X Z → Z.1 30 c 1 = nI (ptS e l p) → Q Z) : p_X1_movePoint c (nI e) (nI l) X Q := by
  unfold p_X1_movePoint
  rw [nI_leI (by omega) (by omega), nI_leI (by omega) (by omega), h1]
  refine ⟨fun a => ⟨fun b => h X (C1.rf _ _ _) ?_, fun b => ⟨fun n => ?_, fun n => ?_⟩⟩, fun a => ⟨fun n => ?_, fun n => ?_⟩⟩
  · rw [h1, ptS, if_neg (by omega), if_neg (by omega)]
  · have hne : p ≠ 247 := fun y => n (by rw [y]; rfl)
    rintro M4 rfl
    refine h _ C1.set ?_
    rw [sI_s, nI_1, ptS, if_neg (by omega), if_pos (by omega)]
    congr 1; omega
  · have he : p = 247 := (nI_eq (a := p) (b := 247) (by omega) (by decide)).mp n
    rintro M5 rfl
    refine h _ C1.set ?_
    rw [sI_s, ptS, if_neg (by omega), if_pos (by omega), he]; rfl
  · have hne : p ≠ 0 := fun y => n (by rw [y]; rfl)
    rintro M7 rfl
    refine h _ C1.set ?_
    rw [sI_s, ptS, if_pos (by omega), show (1 : Int32) = nI 1 from rfl, pk_sub (by omega)]
    congr 1; omega
  · have he : p = 0 := (nI_eq0 (by omega)).mp n
    rintro M8 rfl
    refine h _ C1.set ?_
    rw [sI_s, ptS, if_pos (by omega), he]; rfl
theorem t10_mturn {c t : Nat} {I q0 : Int} (hI : -10637 ≤ I ∧ I ≤ 10637) (hq : -10637 ≤ q0 ∧ q0 ≤ 10637) (ht : t < 16) {X : Mem} (h3 : X.1 30 c 3 = nI t) {Q : Mem → Prop} (h : ∀ Z, C1 c 3 X Z → Z.1 30 c 3 = nI (tuS I (if I < 0 then -q0 else q0) t) → Q Z) : p_X1_moveTurn c (iI I) (iI q0) X Q := by
  have key : ∀ q : Int, -10637 ≤ q ∧ q ≤ 10637 → (∀ Z, C1 c 3 X Z → Z.1 30 c 3 = nI (tuS I q t) → Q Z) → b_X1_moveTurn_10 Q c (iI I) (iI q) X := by
    intro q hq h
    unfold b_X1_moveTurn_10
    rw [abs_e (by omega) (by omega), abs_e (by omega) (by omega), show (2 : Int32) = nI 2 from rfl, pk_mul, nI_leI (by omega) (by omega), iI_le0 (by omega) (by omega), h3]
    refine ⟨fun a => h X (C1.rf _ _ _) ?_, fun a => ⟨fun b => ?_, fun b => ?_⟩⟩
    · rw [h3, tuS, if_neg (by omega)]
    · rintro M4 rfl
      refine h _ C1.set ?_
      rw [sI_s, tuS, if_pos (by omega), if_neg (by omega), show (16 : Int32) = nI 16 from rfl, nI_add, show (1 : Int32) = nI 1 from rfl, pk_sub (by omega), pk_rem (by omega) (by decide) (by decide), show t + 16 - 1 = t + 15 from by omega]
    · rintro M5 rfl
      refine h _ C1.set ?_
      rw [sI_s, tuS, if_pos (by omega), if_pos (by omega), nI_1, show (16 : Int32) = nI 16 from rfl, pk_rem (by omega) (by decide) (by decide)]
  unfold p_X1_moveTurn
  rw [iI_ge0 (by omega) (by omega), iI_neg]
  refine ⟨fun a => key q0 hq (fun Z a1 a2 => h Z a1 ?_), fun a => key (-q0) (by omega) (fun Z a1 a2 => h Z a1 ?_)⟩
  · rw [if_neg (by omega)]; exact a2
  · rw [if_pos (by omega)]; exact a2
theorem uN_b (b : Bool) : uN (bitV b).toInt64 = bN b := by cases b <;> decide
theorem t10_write {c len L : Nat} {b : Bool} (hlen : len ≤ 64) {X : Mem} (h9 : X.1 30 c 9 = nI len) (h8 : uN (X.2.1 30 c 8) = L) {Q : Mem → Prop} (h : ∀ v, uN v = (2 * L + bN b) % 2 ^ 64 → Q (sI (sL X 30 c 8 v) 30 c 9 (nI (min 64 (len + 1))))) : p_X1_write c (bitV b) X Q := by
  rintro M1 rfl M2 rfl
  rw [sL_1, h9, nI_1]
  have e : (if nI (len + 1) < 64 then nI (len + 1) else 64) = nI (min 64 (len + 1)) := by
    rw [show (64 : Int32) = nI 64 from rfl]
    by_cases y : len + 1 < 64
    · rw [if_pos (nI_lt y (by decide)), Nat.min_eq_right (by omega)]
    · rw [if_neg (nI_nlt (by omega) (by omega)), Nat.min_eq_left (by omega)]
  rw [e]
  refine h _ ?_
  have hb : uN (bitV b).toInt64 < 2 := by rw [uN_b]; cases b <;> decide
  rw [uN_or hb, uN_b, h8]
  have hb2 : bN b < 2 := by cases b <;> decide
  omega
theorem t10_hold {c pr base w nx : Nat} (hpr : pr < 2 ^ 28) (hba : base < 2 ^ 29) (hw : w < 4) (hnx : nx < 300) {X : Mem} (h4 : X.1 30 c 4 = nI base) (h6 : X.1 30 c 6 = nI w) (h5 : X.1 30 c 5 = nI nx) {Q : Mem → Prop} (h : ∀ Z, Z.2 = X.2 → (∀ f i k, ¬ (f = 30 ∧ i = c ∧ (k = 5 ∨ k = 6 ∨ k = 7)) → Z.1 f i k = X.1 f i k) → Z.1 30 c 6 = nI (wkS pr base w) → Z.1 30 c 5 = nI (nx + 1) → Z.1 30 c 7 = (if wkS pr base w = 3 then nI nx else X.1 30 c 7) → Q Z) : p_X1_hold c (nI pr) X Q := by
  have key : wkS pr base w < 5 → ∀ s1, s1 = nI (wkS pr base w) → b_X1_hold_21 Q c c s1 X := by
    rintro hlt s1 rfl M2 rfl
    rw [sI_s]
    refine ⟨fun n => ?_, fun n => ?_⟩
    · have hne : wkS pr base w ≠ 3 := fun y => n (by rw [y]; rfl)
      rintro M4 rfl
      refine h _ rfl (fun f i k e => by rw [sI_n (by omega), sI_n (by omega)]) (by rw [sI_n (by omega), sI_s]) (by rw [sI_s, sI_n (by omega), h5, nI_1]) (by rw [sI_n (by omega), sI_n (by omega), if_neg hne])
    · have he : wkS pr base w = 3 := (nI_eq (a := wkS pr base w) (b := 3) (by omega) (by decide)).mp n
      rintro M5 rfl M6 rfl
      refine h _ rfl (fun f i k e => by rw [sI_n (by omega), sI_n (by omega), sI_n (by omega)]) (by rw [sI_n (by omega), sI_n (by omega), sI_s]) (by rw [sI_s, sI_n (by omega), sI_n (by omega), h5, nI_1]) (by rw [sI_n (by omega), sI_s, sI_n (by omega), h5, if_pos he])
  unfold p_X1_hold
  rw [h4, h6, show (4 : Int32) = nI 4 from rfl, pk_mul, nI_leI (by omega) (by omega), nI_1]
  have e : wkS pr base w = if 4 * pr < base then w + 1 else 0 := rfl
  refine ⟨fun a => ?_, fun a => ?_⟩
  · rw [if_neg (by omega)] at e
    exact key (by omega) _ (by rw [e]; rfl)
  · rw [if_pos (by omega)] at e
    exact key (by omega) _ (by rw [e])
/-! the class: a channel followed -/
def FO (c : Nat) (X Z : Mem) : Prop := (∀ f i k, (f < 5 ∨ 12 < f) → ¬ (f = 30 ∧ i = c) → Z.1 f i k = X.1 f i k) ∧ (∀ f i k, (f < 5 ∨ 12 < f) → ¬ (f = 30 ∧ i = c) → Z.2.1 f i k = X.2.1 f i k) ∧ Z.2.2 = X.2.2
theorem FO.tr {c : Nat} {X Z V : Mem} (h : FO c X Z) (h2 : FO c Z V) : FO c X V := ⟨fun f i k e g => (h2.1 f i k e g).trans (h.1 f i k e g), fun f i k e g => (h2.2.1 f i k e g).trans (h.2.1 f i k e g), h2.2.2.trans h.2.2⟩
theorem EX.fo {c : Nat} {X Z : Mem} (h : EX X Z) : FO c X Z := ⟨fun f i k e _ => h.1 f i k e, fun f i k e _ => h.2.1 f i k e, h.2.2⟩
theorem C1.fo {c k0 : Nat} {X Z : Mem} (h : C1 c k0 X Z) : FO c X Z := ⟨fun f i k _ g => h.2 f i k (by omega), fun _ _ _ _ _ => by rw [h.1], by rw [h.1]⟩
theorem C1.c {c k0 : Nat} {X Z : Mem} (h : C1 c k0 X Z) : AgC X Z := ⟨h.2 5 0 4 (by omega), fun k => h.2 6 0 k (by omega), fun k => h.2 7 0 k (by omega)⟩
def Su (T : Txt) (S : Nat → Nat) (st : Nat) (X : Mem) : Mem := sI (sI X 5 0 2 (iI (chSi T S st))) 5 0 3 (iI (chSq T S st))
theorem Su_o {T : Txt} {S : Nat → Nat} {st : Nat} {X : Mem} {f i k : Nat} (h : ¬ (f = 5 ∧ (k = 2 ∨ k = 3))) : (Su T S st X).1 f i k = X.1 f i k := by
  unfold Su; rw [sI_n (by omega), sI_n (by omega)]
theorem Su_2 {T : Txt} {S : Nat → Nat} {st : Nat} {X : Mem} : (Su T S st X).1 5 0 2 = iI (chSi T S st) := by
  unfold Su; rw [sI_n (by omega), sI_s]
theorem Su_3 {T : Txt} {S : Nat → Nat} {st : Nat} {X : Mem} : (Su T S st X).1 5 0 3 = iI (chSq T S st) := by
  unfold Su; rw [sI_s]
theorem Su_ex {T : Txt} {S : Nat → Nat} {st : Nat} {X : Mem} : EX X (Su T S st X) := ⟨fun f i k e => Su_o (by omega), fun _ _ _ _ => rfl, rfl⟩
theorem Su_c {T : Txt} {S : Nat → Nat} {st : Nat} {X : Mem} : AgC X (Su T S st X) := ⟨Su_o (by omega), fun k => Su_o (by omega), fun k => Su_o (by omega)⟩
theorem Su_M {T : Txt} {S : Nat → Nat} {st : Nat} {X : Mem} {l : List Nat} (h : MX l X) : MX l (Su T S st X) := ⟨by rw [Su_o (by omega)]; exact h.1, fun j i e => by rw [Su_o (by omega)]; exact h.2 j i e⟩
theorem t10_fol1 {T : Txt} {w c : Nat} {S : Nat → Nat} (h1 : TB T) {X : Mem} (hW : CW T w X) (h13 : CacheX T X) (hS : XS S X c) (hB : SBn (T 0 0) S) (h5 : S 5 < 200) {Q : Mem → Prop} (h : ∀ Z, FO c X Z → CacheX T Z → XS (stepS T S) Z c → Q Z) : p_X10_followOne c X Q := by
  have hnb := h1.1
  obtain ⟨b0, b1, b2, b3, b4, b5, b6, b67, b7, b8, b85, b9⟩ := hB
  have hbd : BdS (chRe T S) (chIm T S) := bdS h1 h1.2.2.2.2.1
  have hst : S 1 / 4 < 62 := by omega
  unfold p_X10_followOne p_X1_startOfPoint
  rw [hS.1 1 (by decide), show (4 : Int32) = nI 4 from rfl, pk_div (by omega) (by decide) (by decide)]
  refine ⟨w, hW.1.2.1, hW.1.1, ?_⟩
  rw [hS.1 5 (by decide)]
  refine t10_hear h1 hW.1.1 h5 hW.2.1 hW.2.2 h13 (fun Z hx hk hh hc => ?_)
  have hW1 := hW.ex hx
  have o : ∀ k, Z.1 30 c k = X.1 30 c k := fun k => hx.1 30 c k (by omega)
  obtain ⟨cv, hcv, xcv, hbit⟩ := hW1.2.2.2.2 (S 0) b0
  refine ⟨w, hW1.1.2.1, hW1.1.1, ?_⟩
  rw [o, hS.1 0 (by decide)]
  refine ⟨fun z => absurd z (nI_pos (by omega)), fun _ => ⟨fun z => absurd z (by rw [hW1.2.1.1]; exact nI_ge b0 (by omega)), fun _ => ⟨vp_in_nI (by omega) (by omega), ?_⟩⟩⟩
  rw [nI_clamp (by omega), xcv]
  refine t10_take hcv hbit (fun Z2 hF hM => ?_)
  have o2 : ∀ k, Z2.1 30 c k = X.1 30 c k := fun k => (hF.2 30 c k (by decide) (by omega)).trans (o k)
  rw [o2, o2, o2, hS.1 5 (by decide), hS.1 2 (by decide), hS.1 3 (by decide)]
  refine t10_turn (re := chRe T S) (im := chIm T S) h5 b2 hbd (SmX.c (X := Z) hF.c hh) (fun Z3 hF3 hT => ?_)
  have hM3 := hM.ft hF3
  have fo3 : FO c X Z3 := ((hx.tr hF.ex).tr hF3.ex).fo
  have c3 : CacheX T Z3 := hc.ag (hF.c.tr hF3.c)
  have o3 : ∀ k, Z3.1 30 c k = X.1 30 c k := fun k => by rw [hF3.1]; exact o2 k
  have l3 : Z3.2.1 30 c 8 = X.2.1 30 c 8 := ((hF3.2.1 30 c 8 (by decide) (by decide) (by omega)).trans (by rw [hF.1])).trans (hx.2.1 30 c 8 (by omega))
  have pwlt : ∀ st, chPw T S st < 2 ^ 28 := fun st => (pw_e hbd).2
  have key2 : ∀ s1, s1 = nI ((S 1 / 4 + 1) % 62) → b_X10_followOne_101 Q c (nI (S 1 / 4)) (nI (chPw T S ((S 1 / 4 + 61) % 62))) s1 (Su T S ((S 1 / 4 + 61) % 62) Z3) := by
    rintro s1 rfl
    refine t10_sumAt (T := T) (d := T (1 + S 0) 1) (p := S 5) (sh := S 2) (tu := S 3) (re := chRe T S) (im := chIm T S) (Nat.mod_lt _ (by decide)) hbd (Su_M hM3) hT ?_
    refine t10_pow (T := T) (d := T (1 + S 0) 1) (st := (S 1 / 4 + 1) % 62) (p := S 5) (sh := S 2) (tu := S 3) hbd (Su_2 (T := T) (S := S)) (Su_3 (T := T) (S := S)) ?_
    refine t10_sumAt (T := T) (d := T (1 + S 0) 1) (p := S 5) (sh := S 2) (tu := S 3) (re := chRe T S) (im := chIm T S) hst hbd (Su_M (T := T) (S := S) (st := (S 1 / 4 + 1) % 62) (Su_M hM3)) hT ?_
    show p_X1_movePoint c (nI (chPw T S ((S 1 / 4 + 61) % 62))) (nI (chPw T S ((S 1 / 4 + 1) % 62))) (Su T S (S 1 / 4) (Su T S ((S 1 / 4 + 1) % 62) (Su T S ((S 1 / 4 + 61) % 62) Z3))) _
    generalize hV : Su T S (S 1 / 4) (Su T S ((S 1 / 4 + 1) % 62) (Su T S ((S 1 / 4 + 61) % 62) Z3)) = V
    have v2 : V.1 5 0 2 = iI (chSi T S (S 1 / 4)) := by rw [← hV]; exact Su_2
    have v3 : V.1 5 0 3 = iI (chSq T S (S 1 / 4)) := by rw [← hV]; exact Su_3
    have ov : ∀ k, V.1 30 c k = X.1 30 c k := fun k => by rw [← hV, Su_o (by omega), Su_o (by omega), Su_o (by omega)]; exact o3 k
    have lv : V.2.1 30 c 8 = X.2.1 30 c 8 := by rw [← hV]; exact l3
    have fov : FO c X V := by rw [← hV]; exact fo3.tr ((Su_ex.tr Su_ex).tr Su_ex).fo
    have cv2 : CacheX T V := by rw [← hV]; exact c3.ag ((Su_c.tr Su_c).tr Su_c)
    obtain ⟨sb1, sb2⟩ := si_b (T := T) (d := T (1 + S 0) 1) (st := S 1 / 4) (p := S 5) (sh := S 2) (tu := S 3) hbd
    refine t10_move (Nat.lt_trans (pwlt _) (by decide)) (Nat.lt_trans (pwlt _) (by decide)) b1 ((ov 1).trans (hS.1 1 (by decide))) (fun V1 hc1 e1 => ?_)
    rw [hc1.2 5 0 2 (by omega), hc1.2 5 0 3 (by omega), v2, v3]
    refine t10_mturn sb1 sb2 b3 ((hc1.2 30 c 3 (by omega)).trans ((ov 3).trans (hS.1 3 (by decide)))) (fun V2 hc2 e2 => ?_)
    have w2 : V2.1 5 0 2 = iI (chSi T S (S 1 / 4)) := (hc2.2 5 0 2 (by omega)).trans ((hc1.2 5 0 2 (by omega)).trans v2)
    have w3 : V2.1 5 0 3 = iI (chSq T S (S 1 / 4)) := (hc2.2 5 0 3 (by omega)).trans ((hc1.2 5 0 3 (by omega)).trans v3)
    have ow : ∀ k, k ≠ 1 → k ≠ 3 → V2.1 30 c k = X.1 30 c k := fun k k1 k3 => (hc2.2 30 c k (by omega)).trans ((hc1.2 30 c k (by omega)).trans (ov k))
    have lw : V2.2.1 30 c 8 = X.2.1 30 c 8 := by rw [hc2.1, hc1.1]; exact lv
    have fow : FO c X V2 := fov.tr (hc1.fo.tr hc2.fo)
    have cw : CacheX T V2 := cv2.ag (hc1.c.tr hc2.c)
    have fin : b_X10_followOne_162 Q c c (bitV (chB T S)) V2 := by
      refine t10_write b8 ((ow 9 (by decide) (by decide)).trans hS.2.2.1) ((congrArg uN lw).trans hS.2.2.2) (fun v hv => ?_)
      refine t10_pow (T := T) (d := T (1 + S 0) 1) (st := S 1 / 4) (p := S 5) (sh := S 2) (tu := S 3) hbd (by rw [sI_n (by omega), sL_1]; exact w2) (by rw [sI_n (by omega), sL_1]; exact w3) ?_
      refine t10_hold (base := S 4) (w := S 6) (nx := S 5) (pwlt _) b4 b6 (by omega) (by rw [sI_n (by omega), sL_1]; exact (ow 4 (by decide) (by decide)).trans (hS.1 4 (by decide))) (by rw [sI_n (by omega), sL_1]; exact (ow 6 (by decide) (by decide)).trans (hS.1 6 (by decide))) (by rw [sI_n (by omega), sL_1]; exact (ow 5 (by decide) (by decide)).trans (hS.1 5 (by decide))) (fun U u1 u2 u6 u5 u7 => ?_)
      refine h U ?_ ?_ ⟨fun k hk => ?_, ?_, ?_, ?_⟩
      · refine fow.tr ⟨fun f i k e g => ?_, fun f i k e g => ?_, ?_⟩
        · rw [u2 f i k (by omega), sI_n (by omega), sL_1]
        · rw [u1]; exact sL_n (by omega)
        · rw [u1]; rfl
      · refine cw.ag ⟨?_, fun k => ?_, fun k => ?_⟩
        · rw [u2 5 0 4 (by omega), sI_n (by omega), sL_1]
        · rw [u2 6 0 k (by omega), sI_n (by omega), sL_1]
        · rw [u2 7 0 k (by omega), sI_n (by omega), sL_1]
      · have : k = 0 ∨ k = 1 ∨ k = 2 ∨ k = 3 ∨ k = 4 ∨ k = 5 ∨ k = 6 := by omega
        rcases this with rfl | rfl | rfl | rfl | rfl | rfl | rfl
        · rw [u2 30 c 0 (by omega), sI_n (by omega), sL_1]; exact (ow 0 (by decide) (by decide)).trans (hS.1 0 (by decide))
        · rw [u2 30 c 1 (by omega), sI_n (by omega), sL_1, hc2.2 30 c 1 (by omega)]; exact e1
        · rw [u2 30 c 2 (by omega), sI_n (by omega), sL_1]; exact (ow 2 (by decide) (by decide)).trans (hS.1 2 (by decide))
        · rw [u2 30 c 3 (by omega), sI_n (by omega), sL_1]; exact e2
        · rw [u2 30 c 4 (by omega), sI_n (by omega), sL_1]; exact (ow 4 (by decide) (by decide)).trans (hS.1 4 (by decide))
        · exact u5
        · exact u6
      · rw [u7, sI_n (by omega), sL_1, ow 7 (by decide) (by decide), hS.2.1]
        show _ = lostX (if wkS (chPw T S (S 1 / 4)) (S 4) (S 6) = 3 then S 5 + 1 else S 7)
        by_cases y : wkS (chPw T S (S 1 / 4)) (S 4) (S 6) = 3
        · rw [if_pos y, if_pos y, lostX, if_neg (by omega), Nat.add_sub_cancel]
        · rw [if_neg y, if_neg y]
      · rw [u2 30 c 9 (by omega), sI_s]; rfl
      · rw [u1]
        show uN ((sL V2 30 c 8 v).2.1 30 c 8) = _
        rw [sL_s, hv]; rfl
    rw [w2, iI_ge0 (by unfold chSi; omega) (by unfold chSi; omega)]
    have ec : chB T S = decide (chSi T S (S 1 / 4) < 0) := rfl
    refine ⟨fun y => ?_, fun y => ?_⟩
    · rw [ec, decide_eq_false (by omega)] at fin; exact fin
    · rw [ec, decide_eq_true (by omega)] at fin; exact fin
  have key : ∀ s1, s1 = nI ((S 1 / 4 + 61) % 62) → b_X10_followOne_73 Q c (nI (S 1 / 4)) s1 Z3 := by
    rintro s1 rfl
    refine t10_sumAt (T := T) (d := T (1 + S 0) 1) (p := S 5) (sh := S 2) (tu := S 3) (re := chRe T S) (im := chIm T S) (Nat.mod_lt _ (by decide)) hbd hM3 hT ?_
    refine t10_pow (T := T) (d := T (1 + S 0) 1) (st := (S 1 / 4 + 61) % 62) (p := S 5) (sh := S 2) (tu := S 3) hbd (Su_2 (T := T) (S := S)) (Su_3 (T := T) (S := S)) ?_
    refine ⟨fun n => key2 _ ?_, fun n => key2 _ ?_⟩
    · have hne : S 1 / 4 ≠ 61 := fun y => n (by rw [y]; rfl)
      rw [nI_1]; congr 1; omega
    · have he : S 1 / 4 = 61 := (nI_eq (a := S 1 / 4) (b := 61) (by omega) (by decide)).mp n
      rw [he]; rfl
  refine ⟨fun n => key _ ?_, fun n => key _ ?_⟩
  · have hne : S 1 / 4 ≠ 0 := fun y => n (by rw [y]; rfl)
    rw [show (1 : Int32) = nI 1 from rfl, pk_sub (by omega)]; congr 1; omega
  · have he : S 1 / 4 = 0 := (nI_eq0 (by omega)).mp n
    rw [he]; rfl
