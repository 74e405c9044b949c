/-! codes held against one another: ops 7, 8, 9 -/
theorem sh_l : ∀ k, k < 32 → (((nI k : Int32) &&& 31).toBitVec.smod 32).toNat = k := by decide +kernel
theorem sh_r : ∀ k, k < 32 → (((nI k : Int32).toUInt32 &&& Int32.toUInt32 31).toBitVec % 32).toNat = k := by decide +kernel
theorem t10_around {v by' : Nat} (hv : v < 2 ^ 31) (hb : by' < 31) {M : Mem} {Q : Int32 → Mem → Prop} (h : ∀ r, r < 2 ^ 31 → (∀ i, i < 31 → r.testBit i = v.testBit ((i + by') % 31)) → Q (nI r) M) : p_X10_around (nI v) (nI by') M Q := by
  unfold p_X10_around
  rw [pk_ushrN (by omega) (nI by') by' (sh_r by' (by omega)), show (31 : Int32) - nI by' = nI (31 - by') from by rw [show (31 : Int32) = nI 31 from rfl, pk_sub (by omega)]]
  have e0 : (31 : Int32) = nI 31 := rfl
  have e1 : (nI v <<< (nI (31 - by') &&& 31) : Int32) = nI (v * 2 ^ (31 - by') % 2 ^ 32) := by
    apply Int32.toBitVec_inj.1
    apply BitVec.eq_of_toNat_eq
    rw [pk_shl (nI v) _ (31 - by') (sh_l _ (by omega)), pk_tn (by omega), pk_tn (Nat.mod_lt _ (by decide))]
  rw [e1, fa_or, show (2147483647 : Int32) = nI (2 ^ 31 - 1) from rfl, fa_mask]
  refine h _ (Nat.mod_lt _ (by decide)) (fun i hi => ?_)
  rw [Nat.testBit_mod_two_pow, decide_eq_true hi, Bool.true_and, Nat.testBit_or, Nat.testBit_div_two_pow, Nat.testBit_mod_two_pow, decide_eq_true (show i < 32 by omega), Bool.true_and, Nat.testBit_mul_two_pow]
  by_cases y : i + by' < 31
  · rw [decide_eq_false (by omega), Bool.false_and, Bool.or_false, Nat.mod_eq_of_lt y]
  · rw [decide_eq_true (by omega), Bool.true_and, Nat.testBit_lt_two_pow (x := v) (i := i + by') (Nat.lt_of_lt_of_le hv (Nat.pow_le_pow_right (by decide) (by omega))), Bool.false_or]
    congr 1
    omega
def crZ (T : Txt) (d1 d2 k : Nat) : Int := fb_si (fun i => chZ T d1 i * chZ T d2 ((i + k) % 31)) 31
theorem cr_ct (T : Txt) (d1 d2 k : Nat) {p : Nat → Bool} : ∀ n, (∀ i, i < n → p i = (chipB T d1 i ^^ chipB T d2 ((i + k) % 31))) → fb_si (fun i => chZ T d1 i * chZ T d2 ((i + k) % 31)) n = n - 2 * (ct p n : Nat)
  | 0, _ => rfl
  | n + 1, h => by
    rw [fb_si_succ, cr_ct T d1 d2 k n (fun i hi => h i (by omega)), ct, h n (by omega)]
    unfold chZ
    cases chipB T d1 n <;> cases chipB T d2 ((n + k) % 31) <;> simp <;> omega
theorem crZ_b (T : Txt) (d1 d2 k : Nat) : -31 ≤ crZ T d1 d2 k ∧ crZ T d1 d2 k ≤ 31 := by
  have := cr_ct T d1 d2 k (p := fun i => (chipB T d1 i ^^ chipB T d2 ((i + k) % 31))) 31 (fun _ _ => rfl)
  have hl := ct_le (fun i => (chipB T d1 i ^^ chipB T d2 ((i + k) % 31))) 31
  unfold crZ
  omega
def isCode (T : Txt) (d cv : Nat) : Prop := cv < 2 ^ 31 ∧ ∀ i, i < 31 → cv.testBit i = chipB T d i
theorem t10_crossOf {T : Txt} {d1 d2 c1 c2 k : Nat} (h1 : isCode T d1 c1) (h2 : isCode T d2 c2) (hk : k < 31) {M : Mem} {Q : Int32 → Mem → Prop} (h : Q (iI (crZ T d1 d2 k)) M) : p_X10_crossOf (nI c1) (nI c2) (nI k) M Q := by
  refine t10_around h2.1 hk (fun r hr hb => t_bitCount ?_)
  have hx : c1 ^^^ r < 2 ^ 31 := Nat.xor_lt_two_pow h1.1 hr
  rw [fb_xorI, bc_e (by omega)]
  have e32 : ct (c1 ^^^ r).testBit 32 = ct (c1 ^^^ r).testBit 31 := by
    rw [ct, Nat.testBit_lt_two_pow hx]; rfl
  have e := cr_ct T d1 d2 k (p := (c1 ^^^ r).testBit) 31 (fun i hi => by rw [Nat.testBit_xor, h1.2 i hi, hb i hi, h2.2 _ (Nat.mod_lt _ (by decide))])
  have hl := ct_le (c1 ^^^ r).testBit 31
  rw [e32, show (2 : Int32) = nI 2 from rfl, pk_mul, show (31 : Int32) = nI 31 from rfl, err_e (by decide) (by omega)]
  unfold crZ at h
  rw [e] at h
  have e3 : ((31 : Nat) : Int) - ((2 * ct (c1 ^^^ r).testBit 31 : Nat) : Int) = ((31 : Nat) : Int) - 2 * ((ct (c1 ^^^ r).testBit 31 : Nat) : Int) := by omega
  rw [e3]
  exact h
theorem t11_crossed {T : Txt} {d1 d2 k : Nat} (h1 : d1 < 31) (h2 : d2 < 31) (hk : k < 31) {Y : Mem} (h5 : TYr T Y) {Q : Int32 → Mem → Prop} (h : Q (iI (crZ T d1 d2 k)) Y) : p_X11_crossed (nI d1) (nI d2) (nI k) Y Q := by
  have go : ∀ (d i : Nat), i + d = 31 → b_X11_crossed_6 Q (d + 1) (nI d1) (nI d2) (nI k) (iI (fb_si (fun i => chZ T d1 i * chZ T d2 ((i + k) % 31)) i)) (nI i) Y := by
    intro d
    induction d with
    | zero =>
      intro i hi
      have : i = 31 := by omega
      subst this
      exact ⟨fun _ => h, fun z => absurd (by decide) z⟩
    | succ d ih =>
      intro i hi
      have e31 : (nI i + nI k) - (nI i + nI k) / 31 * 31 = nI ((i + k) % 31) := by
        rw [nI_add, show (31 : Int32) = nI 31 from rfl, pk_rem (by omega) (by decide) (by decide)]
      refine ⟨fun z => absurd z (by rw [show (31 : Int32) = nI 31 from rfl]; exact nI_ge (by omega) (by omega)), fun _ => t11_chipBy h1 (by omega) h5 ?_⟩
      rw [e31]
      refine t11_chipBy h2 (Nat.mod_lt _ (by decide)) h5 ?_
      rintro x4 rfl x5 rfl
      have ec : ∀ d j, (if chipB T d j = true then (1 : Int32) else -1) = iI (chZ T d j) := fun d j => by
        unfold chZ
        cases chipB T d j <;> rfl
      rw [ec, ec, iI_mul, iI_add, nI_1]
      exact ih (i + 1) (by omega)
  exact ⟨32, go 31 0 rfl⟩
theorem e10_code {T : Txt} {w b : Nat} {X : Mem} (h3 : WXw T w X) (h4 : OutX T w X) (hb : b < T 0 0) : ∃ cv, isCode T (T (1 + b) 1) cv ∧ X.1 25 (5 * w + b) 2 = nI cv := by
  obtain ⟨cv, a, b', c⟩ := h4.2.2 b hb
  exact ⟨cv, ⟨a, c⟩, b'⟩
/-- op 7: cross -/
theorem op_7 (X Y : Mem) (a1 a2 a3 : Int32) (hR : Rel X Y) : p_X10_cross a1 a2 a3 X (fun r X1 => p_X11_cross a1 a2 a3 Y (fun r1 Y1 => r = r1 ∧ Rel X1 Y1)) := by
  obtain ⟨T, w, h1, h2, h3, h4, h5, h6, h7, h8, h9, h10, h11, h12, h13⟩ := id hR
  have hnb := h1.1
  have hYb : (sI Y 40 0 2 0).1 40 0 11 = nI (T 0 0) := by rw [sI_n (by omega)]; exact h5.1
  have h5' : TYr T (sI Y 40 0 2 0) := h5.ag h1 (AgYt.set rfl)
  have ym : ∀ {Q : Int32 → Mem → Prop}, (¬ (inL a1 0 (T 0 0) ∧ inL a2 0 (T 0 0) ∧ inL a3 0 31) → Q (-99) (sI Y 40 0 2 0)) → (inL a1 0 (T 0 0) ∧ inL a2 0 (T 0 0) ∧ inL a3 0 31 → (p_X11_birdOf a1 1 (sI Y 40 0 2 0) (fun r8 M8 => (p_X11_birdOf a2 1 M8 (fun r9 M9 => (p_X11_crossed r8 r9 a3 M9 (fun r10 M10 => (Q r10 M10)))))))) → p_X11_cross a1 a2 a3 Y Q := by
    intro Q q0 q1
    rintro M1 rfl
    exact e11_isBird hnb hYb (fun z => ⟨fun _ => q0 (fun g => z g.1), fun y => absurd rfl y⟩) (fun ga => ⟨fun y => absurd y z1n, fun _ => e11_isBird hnb hYb (fun z => ⟨fun _ => q0 (fun g => z g.2.1), fun y => absurd rfl y⟩) (fun gb => ⟨fun y => absurd y z1n, fun _ => e_isIn (lo := 0) (m := 30) (n := 31) (by decide) rfl (by decide) (fun z => ⟨fun _ => q0 (fun g => z g.2.2), fun y => absurd rfl y⟩) (fun gc => ⟨fun y => absurd y z1n, fun _ => q1 ⟨ga, gb, gc⟩⟩)⟩)⟩)
  have no : ¬ (inL a1 0 (T 0 0) ∧ inL a2 0 (T 0 0) ∧ inL a3 0 31) → p_X11_cross a1 a2 a3 Y (fun r1 Y1 => -99 = r1 ∧ Rel X Y1) := fun n => ym (fun _ => ⟨rfl, hR.th 0⟩) (fun g => absurd g n)
  refine e10_isBird hnb h2 h3.1 (fun z => ⟨fun _ => no (fun g => z g.1), fun y => absurd rfl y⟩) (fun ga => ⟨fun y => absurd y z1n, fun _ => e10_isBird hnb h2 h3.1 (fun z => ⟨fun _ => no (fun g => z g.2.1), fun y => absurd rfl y⟩) (fun gb => ⟨fun y => absurd y z1n, fun _ => ⟨fun z => no (fun g => inL_lo (by decide) z g.2.2), fun z4 => ⟨fun z5 => ?_, fun z => no (fun g => inL_ge (n := 31) (by decide) (Int32.not_lt.mp z) g.2.2)⟩⟩⟩)⟩)
  have gc : inL a3 0 31 := inL_mk (by decide) z4 (Int32.not_le.mpr z5) (by decide)
  have gg := And.intro ga (And.intro gb gc)
  obtain ⟨a, _, ha, rfl⟩ := ga
  obtain ⟨b, _, hb, rfl⟩ := gb
  obtain ⟨k, _, hk, rfl⟩ := gc
  obtain ⟨c1, k1, x1⟩ := e10_code h3 h4 ha
  obtain ⟨c2, k2, x2⟩ := e10_code h3 h4 hb
  have da := (h1.2.2.2.2.2.2.2.2.2.2.2.2.1 a ha).2.1
  have db := (h1.2.2.2.2.2.2.2.2.2.2.2.2.1 b hb).2.1
  refine ⟨w, h2.2.1, h2.1, vp_in_nI (by omega) (by omega), w, h2.2.1, h2.1, vp_in_nI (by omega) (by omega), ?_⟩
  rw [nI_clamp (by omega), nI_clamp (by omega), x1, x2]
  refine t10_crossOf k1 k2 hk (ym (fun n => absurd gg n) (fun _ => t11_birdOf (k := 1) (by omega) (by decide) (by omega) (t11_birdOf (k := 1) (by omega) (by decide) (by omega) ?_)))
  rw [h5'.2.2.1 a 1 ha (by decide), h5'.2.2.1 b 1 hb (by decide)]
  exact t11_crossed da db hk h5' ⟨rfl, hR.th 0⟩
/-! op 8: worst -/
def woR (T : Txt) (d1 d2 : Nat) : Nat → Nat → Nat → Nat
  | 0, _, acc => acc
  | d + 1, k, acc => woR T d1 d2 d (k + 1) (max acc (crZ T d1 d2 k).natAbs)
theorem woR_b (T : Txt) (d1 d2 : Nat) : ∀ d k acc, acc ≤ 31 → woR T d1 d2 d k acc ≤ 31
  | 0, _, _, h => h
  | d + 1, k, acc, h => by
    have := crZ_b T d1 d2 k
    exact woR_b T d1 d2 d (k + 1) _ (by omega)
theorem t10_worstOf {T : Txt} {d1 d2 c1 c2 : Nat} (h1 : isCode T d1 c1) (h2 : isCode T d2 c2) {M : Mem} {Q : Int32 → Mem → Prop} : ∀ (d k acc : Nat), k + d = 31 → acc ≤ 31 → Q (nI (woR T d1 d2 d k acc)) M → b_X10_worstOf_5 Q (d + 1) (nI c1) (nI c2) (nI acc) (nI k) M := by
  intro d
  induction d with
  | zero =>
    intro k acc hk ha h
    have : k = 31 := by omega
    subst this
    exact ⟨fun _ => h, fun z => absurd (by decide) z⟩
  | succ d ih =>
    intro k acc hk ha h
    have hb := crZ_b T d1 d2 k
    refine ⟨fun z => absurd z (by rw [show (31 : Int32) = nI 31 from rfl]; exact nI_ge (by omega) (by omega)), fun _ => t10_crossOf h1 h2 (by omega) ?_⟩
    rw [abs_e (by omega) (by omega)]
    have em : (if nI acc < nI (crZ T d1 d2 k).natAbs then nI (crZ T d1 d2 k).natAbs else nI acc) = nI (max acc (crZ T d1 d2 k).natAbs) := by
      by_cases y : acc < (crZ T d1 d2 k).natAbs
      · rw [if_pos (nI_lt y (by omega)), Nat.max_eq_right (by omega)]
      · rw [if_neg (nI_nlt (by omega) (by omega)), Nat.max_eq_left (by omega)]
    rw [em]
    rintro x3 rfl x4 rfl
    rw [nI_1]
    exact ih (k + 1) _ (by omega) (by omega) h
theorem t11_worstOf {T : Txt} {d1 d2 : Nat} (h1 : d1 < 31) (h2 : d2 < 31) {Y : Mem} (h5 : TYr T Y) {Q : Int32 → Mem → Prop} : ∀ (d k acc : Nat), k + d = 31 → acc ≤ 31 → Q (nI (woR T d1 d2 d k acc)) Y → b_X11_worstOf_6 Q (d + 1) (nI d1) (nI d2) (nI acc) (nI k) Y := by
  intro d
  induction d with
  | zero =>
    intro k acc hk ha h
    have : k = 31 := by omega
    subst this
    exact ⟨fun _ => h, fun z => absurd (by decide) z⟩
  | succ d ih =>
    intro k acc hk ha h
    have hb := crZ_b T d1 d2 k
    refine ⟨fun z => absurd z (by rw [show (31 : Int32) = nI 31 from rfl]; exact nI_ge (by omega) (by omega)), fun _ => t11_crossed h1 h2 (by omega) h5 ?_⟩
    have go := ih (k + 1) _ (by omega) (by omega) h
    have key : b_X11_worstOf_36 Q (fun v1 v2 v4 v5 M => b_X11_worstOf_6 Q (d + 1) v1 v2 v4 v5 M) (nI d1) (nI d2) (nI acc) (nI k) (nI (crZ T d1 d2 k).natAbs) Y := by
      unfold b_X11_worstOf_36
      rw [nI_leI (by omega) (by omega)]
      refine ⟨fun y => ?_, fun y => ?_⟩
      · rintro x5 rfl
        rw [nI_1]
        rw [Nat.max_eq_left (by omega)] at go
        exact go
      · rintro x5 rfl
        rw [nI_1]
        rw [Nat.max_eq_right (by omega)] at go
        exact go
    rw [iI_ge0 (by omega) (by omega), iI_neg]
    refine ⟨fun y => ?_, fun y => ?_⟩
    · rw [show iI (crZ T d1 d2 k) = nI (crZ T d1 d2 k).natAbs from by rw [← iI_n]; congr 1; omega]; exact key
    · rw [show iI (-crZ T d1 d2 k) = nI (crZ T d1 d2 k).natAbs from by rw [← iI_n]; congr 1; omega]; exact key
theorem op_8 (X Y : Mem) (a1 a2 : Int32) (hR : Rel X Y) : p_X10_worst a1 a2 X (fun r X1 => p_X11_worst a1 a2 Y (fun r1 Y1 => r = r1 ∧ Rel X1 Y1)) := by
  obtain ⟨T, w, h1, h2, h3, h4, h5, h6, h7, h8, h9, h10, h11, h12, h13⟩ := id hR
  have hnb := h1.1
  have hYb : (sI Y 40 0 2 0).1 40 0 11 = nI (T 0 0) := by rw [sI_n (by omega)]; exact h5.1
  have h5' : TYr T (sI Y 40 0 2 0) := h5.ag h1 (AgYt.set rfl)
  have ym : ∀ {Q : Int32 → Mem → Prop}, (¬ (inL a1 0 (T 0 0) ∧ inL a2 0 (T 0 0)) → Q (-2) (sI Y 40 0 2 0)) → (inL a1 0 (T 0 0) ∧ inL a2 0 (T 0 0) → (p_X11_birdOf a1 1 (sI Y 40 0 2 0) (fun r6 M6 => (p_X11_birdOf a2 1 M6 (fun r7 M7 => ((¬ a1 = a2 → (b_X11_worst_44 Q r6 r7 0 M7)) ∧ (a1 = a2 → (b_X11_worst_44 Q r6 r7 1 M7)))))))) → p_X11_worst a1 a2 Y Q := by
    intro Q q0 q1
    rintro M1 rfl
    exact e11_isBird hnb hYb (fun z => ⟨fun _ => q0 (fun g => z g.1), fun y => absurd rfl y⟩) (fun ga => ⟨fun y => absurd y z1n, fun _ => e11_isBird hnb hYb (fun z => ⟨fun _ => q0 (fun g => z g.2), fun y => absurd rfl y⟩) (fun gb => ⟨fun y => absurd y z1n, fun _ => q1 ⟨ga, gb⟩⟩)⟩)
  have no : ¬ (inL a1 0 (T 0 0) ∧ inL a2 0 (T 0 0)) → p_X11_worst a1 a2 Y (fun r1 Y1 => -2 = r1 ∧ Rel X Y1) := fun n => ym (fun _ => ⟨rfl, hR.th 0⟩) (fun g => absurd g n)
  refine e10_isBird hnb h2 h3.1 (fun z => ⟨fun _ => no (fun g => z g.1), fun y => absurd rfl y⟩) (fun ga => ⟨fun y => absurd y z1n, fun _ => e10_isBird hnb h2 h3.1 (fun z => ⟨fun y => absurd rfl y, fun _ => no (fun g => z g.2)⟩) (fun gb => ⟨fun _ => ?_, fun y => absurd y z1n⟩)⟩)
  have gg := And.intro ga gb
  obtain ⟨a, _, ha, rfl⟩ := ga
  obtain ⟨b, _, hb, rfl⟩ := gb
  obtain ⟨c1, k1, x1⟩ := e10_code h3 h4 ha
  obtain ⟨c2, k2, x2⟩ := e10_code h3 h4 hb
  have da := (h1.2.2.2.2.2.2.2.2.2.2.2.2.1 a ha).2.1
  have db := (h1.2.2.2.2.2.2.2.2.2.2.2.2.1 b hb).2.1
  refine ⟨w, h2.2.1, h2.1, vp_in_nI (by omega) (by omega), w, h2.2.1, h2.1, vp_in_nI (by omega) (by omega), ?_⟩
  rw [nI_clamp (by omega), nI_clamp (by omega), x1, x2]
  have yy : ∀ {Q : Int32 → Mem → Prop}, (¬ nI a = nI b → b_X11_worst_44 Q (nI (T (1 + a) 1)) (nI (T (1 + b) 1)) 0 (sI Y 40 0 2 0)) ∧ (nI a = nI b → b_X11_worst_44 Q (nI (T (1 + a) 1)) (nI (T (1 + b) 1)) 1 (sI Y 40 0 2 0)) → p_X11_worst (nI a) (nI b) Y Q := fun {Q} hq => ym (fun n => absurd gg n) (fun _ => t11_birdOf (k := 1) (by omega) (by decide) (by omega) (t11_birdOf (k := 1) (by omega) (by decide) (by omega) (by
    rw [h5'.2.2.1 a 1 ha (by decide), h5'.2.2.1 b 1 hb (by decide)]
    exact hq)))
  refine ⟨fun n => ⟨32, t10_worstOf k1 k2 31 0 0 rfl (by decide) (yy ⟨fun _ => ⟨32, t11_worstOf da db h5' 31 0 0 rfl (by decide) ⟨rfl, hR.th 0⟩⟩, fun y => absurd y n⟩)⟩, fun n => ⟨31, t10_worstOf k1 k2 30 1 0 rfl (by decide) (yy ⟨fun y => absurd n y, fun _ => ⟨31, t11_worstOf da db h5' 30 1 0 rfl (by decide) ⟨rfl, hR.th 0⟩⟩⟩)⟩⟩
/-! op 9: quiet -/
theorem t10_codeOf {T : Txt} {w d : Nat} {X : Mem} (h4 : OutX T w X) (hd : d < 31) {Q : Int32 → Mem → Prop} (h : ∀ cv, isCode T d cv → Q (nI cv) X) : p_X9_codeOf w (nI d) X Q := by
  obtain ⟨⟨v, v1, v2, v3⟩, ⟨u, u1, u2, u3⟩, -⟩ := h4
  unfold p_X9_codeOf
  rw [u2, v2]
  refine t10_around u1 hd (fun r hr hb => ?_)
  have hz : v ^^^ r < 2 ^ 31 := Nat.xor_lt_two_pow v1 hr
  rw [fb_xorI, show (-1 : Int32) = nI (2 ^ 32 - 1) from by decide, fb_xorI, show (2147483647 : Int32) = nI (2 ^ 31 - 1) from rfl, fa_mask]
  refine h _ ⟨Nat.mod_lt _ (by decide), fun i hi => ?_⟩
  rw [Nat.testBit_mod_two_pow, decide_eq_true hi, Bool.true_and, Nat.testBit_xor, Nat.testBit_xor, Nat.testBit_two_pow_sub_one, decide_eq_true (show i < 32 by omega), v3 i hi, hb i hi, u3 _ (Nat.mod_lt _ (by decide))]
  unfold chipB
  cases fbit (T 0 2) i <;> cases fbit (T 0 3) ((i + d) % 31) <;> rfl
def quW (T : Txt) (d : Nat) : Nat → Nat
  | 0 => 0
  | b + 1 => max (quW T d b) (woR T d (T (1 + b) 1) 31 0 0)
theorem quW_b (T : Txt) (d : Nat) : ∀ n, quW T d n ≤ 31
  | 0 => Nat.zero_le _
  | b + 1 => by
    have := quW_b T d b
    have := woR_b T d (T (1 + b) 1) 31 0 0 (by decide)
    rw [quW]; omega
def quR (T : Txt) (i : Nat) : Nat → Nat × Nat
  | 0 => (0, i)
  | k + 1 => if quW T k (T 0 0) < (quR T i k).2 then (k, quW T k (T 0 0)) else quR T i k
theorem quR_b (T : Txt) {i : Nat} (hi : i < 100) : ∀ k, (quR T i k).2 < 100 ∧ (quR T i k).1 ≤ k
  | 0 => ⟨hi, Nat.le_refl _⟩
  | k + 1 => by
    have a := quR_b T hi k
    have b := quW_b T k (T 0 0)
    rw [quR]
    split
    · exact ⟨by show quW T k (T 0 0) < 100; omega, by show k ≤ k + 1; omega⟩
    · exact ⟨a.1, by omega⟩
theorem quR_e (T : Txt) : ∀ k, quR T 32 (k + 1) = quR T 99 (k + 1)
  | 0 => by
    have b := quW_b T 0 (T 0 0)
    show (if quW T 0 (T 0 0) < 32 then (0, quW T 0 (T 0 0)) else (0, 32)) = (if quW T 0 (T 0 0) < 99 then (0, quW T 0 (T 0 0)) else (0, 99))
    rw [if_pos (by omega), if_pos (by omega)]
  | k + 1 => by
    rw [quR, quR_e T k, ← quR]
theorem t10_qu_in {T : Txt} {w d cv : Nat} {k7 : Int32 → Int32 → Int32 → Mem → Prop} {v1 v2 v3 : Int32} (h1 : TB T) {X : Mem} (h2 : RefR w X) (h3 : WXw T w X) (h4 : OutX T w X) (hc : isCode T d cv) {Q : Int32 → Mem → Prop} (h : b_X10_quiet_73 Q k7 v1 v2 v3 (nI (quW T d (T 0 0))) X) : ∀ (e b : Nat), b + e = T 0 0 → b_X10_quiet_29 Q k7 (e + 1) v1 v2 v3 (nI cv) (nI (quW T d b)) (nI b) X := by
  have hnb := h1.1
  intro e
  induction e with
  | zero =>
    intro b hb
    have : b = T 0 0 := by omega
    subst this
    exact ⟨w, h2.2.1, h2.1, fun _ => h, fun z => absurd (by rw [h3.1]; exact Int32.le_refl _) z⟩
  | succ e ih =>
    intro b hb
    have hlt : b < T 0 0 := by omega
    obtain ⟨c2, k2, x2⟩ := e10_code h3 h4 hlt
    have hq := quW_b T d b
    have hw := woR_b T d (T (1 + b) 1) 31 0 0 (by decide)
    refine ⟨w, h2.2.1, h2.1, fun z => absurd z (by rw [h3.1]; exact nI_ge hlt (by omega)), fun _ => ⟨w, h2.2.1, h2.1, vp_in_nI (by omega) (by omega), ?_⟩⟩
    rw [nI_clamp (by omega), x2]
    refine ⟨32, t10_worstOf hc k2 31 0 0 rfl (by decide) ?_⟩
    have em : (if nI (quW T d b) < nI (woR T d (T (1 + b) 1) 31 0 0) then nI (woR T d (T (1 + b) 1) 31 0 0) else nI (quW T d b)) = nI (quW T d (b + 1)) := by
      rw [quW]
      by_cases y : quW T d b < woR T d (T (1 + b) 1) 31 0 0
      · rw [if_pos (nI_lt y (by omega)), Nat.max_eq_right (by omega)]
      · rw [if_neg (nI_nlt (by omega) (by omega)), Nat.max_eq_left (by omega)]
    rw [em]
    rintro x11 rfl x12 rfl
    rw [nI_1]
    exact ih (b + 1) (by omega)
theorem t10_qu_l {T : Txt} {w : Nat} (h1 : TB T) {X : Mem} (h2 : RefR w X) (h3 : WXw T w X) (h4 : OutX T w X) {Q : Int32 → Mem → Prop} (h : Q (nI (quR T 32 31).1) X) : ∀ (e k : Nat), k + e = 31 → b_X10_quiet_7 Q (e + 1) (nI (quR T 32 k).1) (nI (quR T 32 k).2) (nI k) X := by
  intro e
  induction e with
  | zero =>
    intro k hk
    have : k = 31 := by omega
    subst this
    exact ⟨fun _ => h, fun z => absurd (by decide) z⟩
  | succ e ih =>
    intro k hk
    refine ⟨fun z => absurd z (by rw [show (31 : Int32) = nI 31 from rfl]; exact nI_ge (by omega) (by omega)), fun _ => ⟨w, h2.2.1, h2.1, t10_codeOf h4 (by omega) (fun cv hc => ⟨T 0 0 + 1, t10_qu_in h1 h2 h3 h4 hc ?_ (T 0 0) 0 (by omega)⟩)⟩⟩
    have go := ih (k + 1) (by omega)
    have er : quR T 32 (k + 1) = if quW T k (T 0 0) < (quR T 32 k).2 then (k, quW T k (T 0 0)) else quR T 32 k := rfl
    have b1 := quR_b T (i := 32) (by decide) k
    have b2 := quW_b T k (T 0 0)
    unfold b_X10_quiet_73
    rw [nI_leI (by omega) (by omega)]
    refine ⟨fun y => ?_, fun y => ?_⟩
    · rintro x7 rfl
      rw [nI_1]
      rw [er, if_neg (by omega)] at go
      exact go
    · rintro x7 rfl
      rw [nI_1]
      rw [er, if_pos (by omega)] at go
      dsimp only at go
      exact go
theorem t11_qu_in {T : Txt} {d : Nat} {k12 : Int32 → Int32 → Int32 → Mem → Prop} {v1 v2 : Int32} (h1 : TB T) (hd : d < 31) {Y : Mem} (h5 : TYr T Y) {Q : Int32 → Mem → Prop} (h : b_X11_quiet_70 Q k12 v1 v2 (nI d) (nI (quW T d (T 0 0))) Y) : ∀ (e b : Nat), b + e = T 0 0 → b_X11_quiet_24 Q k12 (e + 1) v1 v2 (nI d) (nI (quW T d b)) (nI b) Y := by
  have hnb := h1.1
  intro e
  induction e with
  | zero =>
    intro b hb
    have : b = T 0 0 := by omega
    subst this
    exact ⟨fun _ => h, fun z => absurd (by rw [h5.1]; exact Int32.le_refl _) z⟩
  | succ e ih =>
    intro b hb
    have hlt : b < T 0 0 := by omega
    have db := (h1.2.2.2.2.2.2.2.2.2.2.2.2.1 b hlt).2.1
    have hq := quW_b T d b
    have hw := woR_b T d (T (1 + b) 1) 31 0 0 (by decide)
    refine ⟨fun z => absurd z (by rw [h5.1]; exact nI_ge hlt (by omega)), fun _ => t11_birdOf (k := 1) (by omega) (by decide) (by omega) ?_⟩
    rw [h5.2.2.1 b 1 hlt (by decide)]
    refine ⟨32, t11_worstOf hd db h5 31 0 0 rfl (by decide) ?_⟩
    have go := ih (b + 1) (by omega)
    have eq : quW T d (b + 1) = max (quW T d b) (woR T d (T (1 + b) 1) 31 0 0) := rfl
    rw [nI_leI (by omega) (by omega)]
    refine ⟨fun y => ?_, fun y => ?_⟩
    · rintro x10 rfl
      rw [nI_1]
      rw [eq, Nat.max_eq_left y] at go
      exact go
    · rintro x10 rfl
      rw [nI_1]
      rw [eq, Nat.max_eq_right (by omega)] at go
      exact go
theorem t11_qu_l {T : Txt} (h1 : TB T) {Y : Mem} (h5 : TYr T Y) {Q : Int32 → Mem → Prop} (h : Q (nI (quR T 99 31).1) Y) : ∀ (e k : Nat), k + e = 31 → b_X11_quiet_12 Q (e + 1) (nI (quR T 99 k).1) (nI (quR T 99 k).2) (nI k) Y := by
  intro e
  induction e with
  | zero =>
    intro k hk
    have : k = 31 := by omega
    subst this
    exact ⟨fun _ => h, fun z => absurd (by decide) z⟩
  | succ e ih =>
    intro k hk
    refine ⟨fun z => absurd z (by rw [show (31 : Int32) = nI 31 from rfl]; exact nI_ge (by omega) (by omega)), fun _ => ⟨T 0 0 + 1, t11_qu_in h1 (by omega) h5 ?_ (T 0 0) 0 (by omega)⟩⟩
    have go := ih (k + 1) (by omega)
    have er : quR T 99 (k + 1) = if quW T k (T 0 0) < (quR T 99 k).2 then (k, quW T k (T 0 0)) else quR T 99 k := rfl
    have b1 := quR_b T (i := 99) (by decide) k
    have b2 := quW_b T k (T 0 0)
    unfold b_X11_quiet_70 b_X11_quiet_81
    rw [nI_leI (by omega) (by omega)]
    refine ⟨fun y => ⟨fun _ => ?_, fun z => absurd y z⟩, fun y => ⟨fun z => absurd z y, fun _ => ?_⟩⟩
    · rintro x6 rfl
      rw [nI_1]
      rw [er, if_neg (by omega)] at go
      exact go
    · rintro x6 rfl
      rw [nI_1]
      rw [er, if_pos (by omega)] at go
      dsimp only at go
      exact go
theorem op_9 (X Y : Mem) (hR : Rel X Y) : p_X10_quiet X (fun r X1 => p_X11_quiet Y (fun r1 Y1 => r = r1 ∧ Rel X1 Y1)) := by
  obtain ⟨T, w, h1, h2, h3, h4, h5, h6, h7, h8, h9, h10, h11, h12, h13⟩ := id hR
  refine ⟨32, t10_qu_l h1 h2 h3 h4 ?_ 31 0 rfl⟩
  rintro M1 rfl
  exact ⟨32, t11_qu_l h1 (h5.ag h1 (AgYt.set rfl)) ⟨by rw [quR_e T 30], hR.th 0⟩ 31 0 rfl⟩
