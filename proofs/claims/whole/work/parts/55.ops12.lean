/-! quotients by 62; op 27: errors -/
theorem sub_neg {x y : Nat} (hx : x < 2 ^ 30) (hy : y < 2 ^ 30) (h : x < y) : (nI x - nI y : Int32) = nI 0 - nI (y - x) := by
  apply Int32.toInt_inj.mp
  rw [pk_sub_toInt hx hy, pk_sub_toInt (by omega) (by omega)]
  omega
theorem fl_pos1 : ∀ a, a < 125 → ∀ b, b < 100 → (0 : Int32) ≤ (nI (100 * a + b) ^^^ 62) := by decide +kernel
theorem fl_pos (z : Nat) (h : z < 12500) : (0 : Int32) ≤ (nI z ^^^ 62) := by
  have := fl_pos1 (z / 100) (by omega) (z % 100) (by omega)
  rwa [Nat.div_add_mod] at this
theorem fl_neg : ∀ t, t < 262 → 1 ≤ t → ¬ (0 : Int32) ≤ ((nI 0 - nI t) ^^^ 62) ∧ ((nI 0 - nI t) / 62 * 62 = nI 0 - nI t → (nI 0 - nI t : Int32) / 62 < 0) ∧ (nI 0 - nI t : Int32) / 62 - 1 < 0 := by decide +kernel
theorem qu_neg : ∀ t, t < 262 → 1 ≤ t → ((0 : Int32) ≤ (nI 0 - nI t) - (nI 0 - nI t) / 62 * 62 → ((nI 0 - nI t) - ((nI 0 - nI t) - (nI 0 - nI t) / 62 * 62)) / 62 < 0) ∧ ((nI 0 - nI t) - (((nI 0 - nI t) - (nI 0 - nI t) / 62 * 62) + 62)) / 62 < 0 := by decide +kernel
def Qu62 (x y : Nat) (r : Int32) : Prop := (y ≤ x ∧ r = nI ((x - y) / 62)) ∨ (x < y ∧ r < 0)
theorem t10_floor {x y : Nat} (hx : x < 12500) (hy : y < 262) {M : Mem} {Q : Int32 → Mem → Prop} (h : ∀ r, Qu62 x y r → Q r M) : p_J9_floorDiv_7cf53 (nI x - nI y) 62 M Q := by
  refine ⟨by decide, ?_⟩
  rintro x2 rfl
  rcases Nat.lt_or_ge x y with hlt | hge
  · rw [sub_neg (by omega) (by omega) hlt]
    obtain ⟨f1, f2, f3⟩ := fl_neg (y - x) (by omega) (by omega)
    exact ⟨fun z => absurd z f1, fun _ => ⟨fun z => h _ (Or.inr ⟨hlt, f2 z⟩), fun _ => h _ (Or.inr ⟨hlt, f3⟩)⟩⟩
  · rw [pk_sub hge]
    refine ⟨fun _ => h _ (Or.inl ⟨hge, pk_div (d := 62) (by omega) (by decide) (by decide)⟩), fun z => absurd (fl_pos (x - y) (by omega)) z⟩
theorem t11_quot {x y : Nat} (hx : x < 12500) (hy : y < 262) {M : Mem} {Q : Int32 → Mem → Prop} (h : ∀ r, Qu62 x y r → Q r M) : p_X11_quotient (nI x - nI y) 62 M Q := by
  refine ⟨by decide, fun z => ⟨by decide, by decide, ?_⟩, fun z => ⟨by decide, by decide, ?_⟩⟩
  · rcases Nat.lt_or_ge x y with hlt | hge
    · rw [sub_neg (by omega) (by omega) hlt] at z ⊢
      exact h _ (Or.inr ⟨hlt, (qu_neg (y - x) (by omega) (by omega)).1 z⟩)
    · refine h _ (Or.inl ⟨hge, ?_⟩)
      rw [pk_sub hge, show (62 : Int32) = nI 62 from rfl, pk_rem (by omega) (by decide) (by decide), pk_sub (by omega), pk_div (by omega) (by decide) (by decide)]
      congr 1
      omega
  · rcases Nat.lt_or_ge x y with hlt | hge
    · rw [sub_neg (by omega) (by omega) hlt] at z ⊢
      exact h _ (Or.inr ⟨hlt, (qu_neg (y - x) (by omega) (by omega)).2⟩)
    · refine absurd ?_ z
      rw [pk_sub hge, show (62 : Int32) = nI 62 from rfl, pk_rem (by omega) (by decide) (by decide)]
      exact nI_pos' (by omega)
theorem t10_bitQ {T : Txt} {b q x y : Nat} {r : Int32} (h1 : TB T) (hb : b < T 0 0) (hx : x < 12500) (hr : Qu62 x y r) {X : Mem} (hB : BX T b q X) {Q : Int32 → Mem → Prop} (h : Q (bitV (bitN T b (((x : Int) - y) / 62))) X) : p_X0_bitAt q r X Q := by
  rcases hr with ⟨hge, rfl⟩ | ⟨hlt, hneg⟩
  · refine t10_bitAt h1 hb (by omega) hB ?_
    rw [show (((x - y) / 62 : Nat) : Int) = ((x : Int) - y) / 62 from by omega]
    exact h
  · refine ⟨fun _ => ?_, fun z => absurd hneg z⟩
    have e : bitN T b (((x : Int) - y) / 62) = false := by
      unfold bitN
      rw [if_pos (Or.inl (by omega))]
    rw [e] at h
    exact h
theorem t11_bitQ {T : Txt} {b x y : Nat} {r : Int32} (h1 : TB T) (hb : b < T 0 0) (hx : x < 12500) (hr : Qu62 x y r) {Y : Mem} (h5 : TYr T Y) {Q : Int32 → Mem → Prop} (h : Q (bitV (bitN T b (((x : Int) - y) / 62))) Y) : p_X11_sentBit (nI b) r Y Q := by
  have hnb := h1.1
  rcases hr with ⟨hge, rfl⟩ | ⟨hlt, hneg⟩
  · refine t11_sentBit h1 hb (by omega) h5 ?_
    rw [show (((x - y) / 62 : Nat) : Int) = ((x : Int) - y) / 62 from by omega]
    exact h
  · refine t11_birdOf (k := 9) (by omega) (by decide) (by omega) ⟨fun _ => ?_, fun z => absurd hneg z⟩
    have e : bitN T b (((x : Int) - y) / 62) = false := by
      unfold bitN
      rw [if_pos (Or.inl (by omega))]
    rw [e] at h
    exact h
theorem lt_le_if (u v : Int32) : (if u < v then u else v) = (if u ≤ v then u else v) := by
  by_cases h : u < v
  · rw [if_pos h, if_pos (Int32.le_of_lt h)]
  · rw [if_neg h]
    by_cases h2 : u ≤ v
    · rw [if_pos h2]; exact Int32.le_antisymm (Int32.not_lt.mp h) h2
    · rw [if_neg h2]
/-- the bit that was due for the i-th of m bits of a channel whose next period is t -/
def dueN (T : Txt) (b t m i : Nat) : Bool := bitN T b ((((62 * (t - m + i) + 31 : Nat) : Int) - (startN T b (t - m + i) : Nat)) / 62)
theorem t10_err_l {T : Txt} {b q c t m : Nat} (h1 : TB T) (hb : b < T 0 0) (hh : T (1 + b) 2 = 1) (hm : m ≤ 64) (hmt : m ≤ t) (ht : t < 201) {X : Mem} (hB : BX T b q X) (hl : X.1 30 c 9 = nI m) (hn : X.1 30 c 5 = nI t) {Q : Int32 → Mem → Prop} : ∀ (d i : Nat) (a : Int32), i + d = m → b_X10_errors_140 Q c (cntI (fun i => decide (¬ bitV ((X.2.1 30 c 8).toBitVec.toNat.testBit (m - 1 - i)) = bitV (dueN T b t m i))) i d a) X → b_X10_errors_71 Q (d + 1) c q a (nI i) X := by
  intro d
  induction d with
  | zero =>
    intro i a hi h
    have : i = m := by omega
    subst this
    exact ⟨fun _ => h, fun z => absurd (by rw [hl]; exact Int32.le_refl _) z⟩
  | succ d ih =>
    intro i a hi h
    refine ⟨fun z => absurd z (by rw [hl]; exact nI_ge (by omega) (by omega)), fun _ => ?_⟩
    rintro x13 rfl
    have hs := startN_lt h1 hb (p := t - m + i) (by omega)
    rw [hn, hl, pk_sub hmt, nI_add]
    refine t10_startIn h1 hb (by omega) hB hh ?_
    rw [show ((62 : Int32) * nI (t - m + i) + 31) = nI (62 * (t - m + i) + 31) from by rw [show (62 : Int32) = nI 62 from rfl, pk_mul, show (31 : Int32) = nI 31 from rfl, nI_add]]
    refine t10_floor (by omega) (by omega) (fun r hr => ?_)
    unfold p_X1_logBit
    rw [hl, show (nI m - 1 - nI i : Int32) = nI (m - 1 - i) from by rw [show (1 : Int32) = nI 1 from rfl, pk_sub (by omega), pk_sub (by omega)], lg_bit (by omega)]
    refine t10_bitQ h1 hb (by omega) hr hB ?_
    rw [cntI] at h
    refine ⟨fun z => ?_, fun z => ?_⟩
    · rintro x19 rfl
      rw [nI_1]
      refine ih (i + 1) a (by omega) ?_
      rw [if_neg (by rw [decide_eq_true_eq]; exact fun y => y z), Int32.add_zero] at h
      exact h
    · rintro x20 rfl x19 rfl
      rw [nI_1]
      refine ih (i + 1) _ (by omega) ?_
      rw [if_pos (by rw [decide_eq_true_eq]; exact z)] at h
      exact h
theorem t11_err_l {T : Txt} {b c t m : Nat} (h1 : TB T) (hb : b < T 0 0) (hc : c < 4) (hm : m ≤ 64) (hmt : m ≤ t) (ht : t < 201) {Y : Mem} (h5 : TYr T Y) (hb0 : Y.1 40 0 35 = 0) (hn : Y.1 54 0 (73 * c + 5) = nI t) {Q : Int32 → Mem → Prop} : ∀ (d i : Nat) (a : Int32), i + d = m → b_X11_errors_126 Q (nI m) (cntI (fun i => decide (¬ bitV (dueN T b t m i) = Y.1 54 0 (73 * c + 9 + i))) i d a) Y → b_X11_errors_48 Q (d + 1) (nI c) (nI b) (nI m) a (nI i) Y := by
  intro d
  induction d with
  | zero =>
    intro i a hi h
    have : i = m := by omega
    subst this
    exact ⟨fun _ => h, fun z => absurd (Int32.le_refl _) z⟩
  | succ d ih =>
    intro i a hi h
    refine ⟨fun z => absurd z (nI_ge (by omega) (by omega)), fun _ => t11_at (k := 5) (by omega) hb0 ?_⟩
    rintro x11 rfl
    have hs := startN_lt h1 hb (p := t - m + i) (by omega)
    rw [hn, pk_sub hmt, nI_add]
    refine t11_startIn h1 hb (by omega) h5 ?_
    rw [show ((62 : Int32) * nI (t - m + i) + 31) = nI (62 * (t - m + i) + 31) from by rw [show (62 : Int32) = nI 62 from rfl, pk_mul, show (31 : Int32) = nI 31 from rfl, nI_add]]
    refine t11_quot (by omega) (by omega) (fun r hr => ?_)
    refine t11_bitQ h1 hb (by omega) hr h5 ?_
    rw [show (9 : Int32) + nI i = nI (9 + i) from nI_add 9 i]
    refine t11_at (k := 9 + i) (by omega) hb0 ?_
    rw [← Nat.add_assoc]
    rw [cntI] at h
    refine ⟨fun z => ?_, fun z => ?_⟩
    · rintro x17 rfl x18 rfl
      rw [nI_1]
      refine ih (i + 1) _ (by omega) ?_
      rw [if_neg (by rw [decide_eq_true_eq]; exact fun y => y z)] at h
      exact h
    · rintro x17 rfl x18 rfl
      rw [nI_1]
      refine ih (i + 1) _ (by omega) ?_
      rw [if_pos (by rw [decide_eq_true_eq]; exact z)] at h
      exact h
theorem op_27 (X Y : Mem) (a1 : Int32) (hR : Rel X Y) : p_X10_errors a1 X (fun r X1 => p_X11_errors a1 Y (fun r1 Y1 => r = r1 ∧ Rel X1 Y1)) := by
  obtain ⟨T, w, h1, h2, h3, h4, h5, h6, h7, h8, h9, h10, h11, h12, h13⟩ := id hR
  obtain ⟨n0, hn0, hc0, hd0, hch, _⟩ := id h9
  have hnb := h1.1
  have hb0 : (sI Y 40 0 2 0).1 40 0 35 = 0 := by rw [sI_n (by decide)]; exact h6.1
  have hd1 : (sI Y 40 0 2 0).1 54 0 292 = nI n0 := by rw [sI_n (by decide)]; exact hd0
  have h5' : TYr T (sI Y 40 0 2 0) := h5.ag h1 (AgYt.set rfl)
  have hB := h3.2.2.2.2.2.2.2.2.2
  have R := hR.th 0
  have no : (a1 < 0 ∨ nI n0 ≤ a1) → p_X10_errors a1 X (fun r X1 => p_X11_errors a1 Y (fun r1 Y1 => r = r1 ∧ Rel X1 Y1)) := fun h =>
    t10_isCh0 hc0 h ⟨fun z => absurd rfl z, fun _ => by
      rintro M1 rfl
      exact t11_isCh0 hb0 hd1 h ⟨fun z => absurd rfl z, fun _ => ⟨rfl, R⟩⟩⟩
  rcases pk_ix a1 (n := n0) (by omega) with h | h | ⟨c, hc, rfl⟩
  · exact no (Or.inl h)
  · exact no (Or.inr h)
  obtain ⟨c1, -, -, -, -, c6, -, -, m, hm, c9, c10, c11⟩ := hch c hc
  simp only [Nat.mul_zero, Nat.zero_add] at c1 c6 c9 c10 c11
  obtain ⟨b, hb, xb, yb⟩ := c1
  obtain ⟨nx, hnx, xn, yn, m', hm', xl⟩ := c6
  have hmm : m' = m := (nI_eq (by omega) (by omega)).mp (xl.symm.trans c9)
  subst hmm
  have e0 : (sI Y 40 0 2 0).1 54 0 (73 * c + 0) = nI b := by rw [sI_n (by omega), Nat.add_zero]; exact yb
  have e5 : (sI Y 40 0 2 0).1 54 0 (73 * c + 5) = nI nx := by rw [sI_n (by omega)]; exact yn
  have e8 : (sI Y 40 0 2 0).1 54 0 (73 * c + 8) = nI m' := by rw [sI_n (by omega)]; exact c10
  refine t10_isCh1 hc0 hn0 hc ⟨fun _ => ⟨vp_in_nI (by omega) (by omega), ?_⟩, fun z => absurd z (by decide)⟩
  rw [nI_clamp (by omega), Nat.mul_zero, Nat.zero_add, xb]
  refine t10_isBird1 h2 h3.1 hnb hb ⟨fun z => absurd z (by decide), fun _ => ⟨w, h2.2.1, h2.1, ?_⟩⟩
  rw [xb, nI_clamp (by omega)]
  refine ⟨vp_in_nI (by omega) (by omega), t10_isHeard h1 hb (hB b hb) (fun hh => ⟨fun z => absurd rfl z, fun _ => ?_⟩) (fun hh => ⟨fun _ => ?_, fun z => absurd z (by decide)⟩)⟩
  · rintro M1 rfl
    refine t11_isCh1 hb0 hd1 hn0 hc ⟨fun _ => t11_at (k := 0) (by omega) hb0 ?_, fun z => absurd z (by decide)⟩
    rw [e0]
    refine t11_birdOf (k := 2) (by omega) (by decide) (by omega) ?_
    rw [h5'.2.2.1 b 2 hb (by decide), hh]
    exact ⟨fun z => absurd rfl z, fun _ => ⟨rfl, R⟩⟩
  · refine ⟨w, h2.2.1, h2.1, ?_⟩
    rw [xb, nI_clamp (by omega)]
    refine ⟨vp_in_nI (by omega) (by omega), m' + 1, t10_err_l h1 hb hh hm hm' hnx (hB b hb) c9 xn m' 0 0 (by omega) ?_⟩
    unfold b_X10_errors_140
    rw [c9]
    rintro M1 rfl
    refine t11_isCh1 hb0 hd1 hn0 hc ⟨fun _ => t11_at (k := 0) (by omega) hb0 ?_, fun z => absurd z (by decide)⟩
    rw [e0]
    refine t11_birdOf (k := 2) (by omega) (by decide) (by omega) ?_
    rw [h5'.2.2.1 b 2 hb (by decide), hh]
    refine ⟨fun _ => t11_at (k := 8) (by omega) hb0 ?_, fun z => absurd z (by decide)⟩
    rw [e8]
    refine ⟨m' + 1, t11_err_l h1 hb (by omega) hm hm' hnx h5' hb0 e5 m' 0 0 (by omega) ?_⟩
    have ec : cntI (fun i => decide (¬ bitV ((X.2.1 30 c 8).toBitVec.toNat.testBit (m' - 1 - i)) = bitV (dueN T b nx m' i))) 0 m' 0 = cntI (fun i => decide (¬ bitV (dueN T b nx m' i) = (sI Y 40 0 2 0).1 54 0 (73 * c + 9 + i))) 0 m' 0 := by
      refine cntI_congr _ _ _ (fun i _ hi => ?_)
      rw [sI_n (by omega), c11 i (by omega)]
      show decide (¬ bitV _ = bitV _) = decide (¬ bitV _ = bitV _)
      rw [decide_eq_decide]
      exact ⟨fun y z => y z.symm, fun y z => y z.symm⟩
    rw [lt_le_if, ec]
    refine ⟨fun z => ?_, fun z => ?_⟩
    · rw [if_pos z]; exact ⟨rfl, R⟩
    · rw [if_neg z]; exact ⟨rfl, R⟩
