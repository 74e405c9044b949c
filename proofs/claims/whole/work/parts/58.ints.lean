/-! numbers below 0: quotient and rest by floor; chance -/
theorem tq_bd (a : Int32) {m : Nat} (h0 : 0 < m) : -2147483648 ≤ a.toInt.tdiv (m : Int) ∧ a.toInt.tdiv (m : Int) < 2147483648 := by
  have h := fb_rng a
  have hm : (1 : Int) ≤ (m : Int) := by omega
  rcases Int.le_total 0 a.toInt with z | z
  · rw [Int.tdiv_eq_ediv_of_nonneg z]
    have := Int.ediv_le_self (m : Int) z
    have := Int.ediv_nonneg z (show (0 : Int) ≤ (m : Int) by omega)
    omega
  · have e : a.toInt = -(-a.toInt) := by omega
    rw [e, Int.neg_tdiv, Int.tdiv_eq_ediv_of_nonneg (by omega)]
    have := Int.ediv_le_self (m : Int) (show (0 : Int) ≤ -a.toInt by omega)
    have := Int.ediv_nonneg (show (0 : Int) ≤ -a.toInt by omega) (show (0 : Int) ≤ (m : Int) by omega)
    omega
/-- the machine's quotient, its product, its remainder -/
theorem tq_div (a : Int32) {m : Nat} (h0 : 0 < m) (hm : m < 2 ^ 31) : (a / nI m).toInt = a.toInt.tdiv m := by
  have h := tq_bd a h0
  rw [Int32.toInt_div, nI_toInt hm, fb_bmod h.1 h.2]
/-- the quotient by floor -/
def fq (a : Int) (m : Nat) : Int := a / (m : Int)
/-- quotient and remainder of the machine in terms of floor's -/
theorem tq_cases (a : Int32) {m : Nat} (h0 : 0 < m) (hm : m < 2 ^ 31) : ∃ r : Int, 0 ≤ r ∧ r < m ∧ a.toInt = m * (a.toInt / (m : Int)) + r ∧ ((0 ≤ a.toInt ∨ r = 0) → (a / nI m).toInt = a.toInt / (m : Int) ∧ (a / nI m * nI m).toInt = a.toInt - r ∧ (a - a / nI m * nI m).toInt = r) ∧ (a.toInt < 0 → 0 < r → (a / nI m).toInt = a.toInt / (m : Int) + 1 ∧ (a / nI m * nI m).toInt = a.toInt - r + m ∧ (a - a / nI m * nI m).toInt = r - m) := by
  have hr := fb_rng a
  have hmz : (0 : Int) < (m : Int) := by omega
  have e := Int.mul_ediv_add_emod a.toInt m
  have r0 := Int.emod_nonneg a.toInt (show (m : Int) ≠ 0 by omega)
  have r1 := Int.emod_lt_of_pos a.toInt hmz
  have hd := tq_div a h0 hm
  have ht := Int.tdiv_eq_ediv (a := a.toInt) (b := (m : Int))
  have hnm := nI_toInt hm
  have hdvd : ((m : Int) ∣ a.toInt) ↔ a.toInt % m = 0 := Int.dvd_iff_emod_eq_zero
  refine ⟨a.toInt % m, r0, r1, e.symm, fun h => ?_, fun h1 h2 => ?_⟩
  · have hc : (0 ≤ a.toInt ∨ (m : Int) ∣ a.toInt) := h.imp id hdvd.mpr
    rw [if_pos hc, Int.add_zero] at ht
    have p : (a / nI m).toInt * (nI m).toInt = a.toInt - a.toInt % m := by rw [hd, ht, hnm, Int.mul_comm]; omega
    have hp : (a / nI m * nI m).toInt = a.toInt - a.toInt % m := by rw [fb_mulI (by rw [p]; omega) (by rw [p]; omega), p]
    refine ⟨hd.trans ht, hp, ?_⟩
    rw [fb_subI (by rw [hp]; omega) (by rw [hp]; omega), hp]; omega
  · have hc : ¬ (0 ≤ a.toInt ∨ (m : Int) ∣ a.toInt) := fun z => z.elim (fun y => by omega) (fun y => by have := hdvd.mp y; omega)
    rw [if_neg hc, Int.sign_eq_one_of_pos hmz] at ht
    have p : (a / nI m).toInt * (nI m).toInt = a.toInt - a.toInt % m + m := by
      rw [hd, ht, hnm, Int.add_mul, Int.mul_comm (a.toInt / (m : Int))]; omega
    have hp : (a / nI m * nI m).toInt = a.toInt - a.toInt % m + m := by rw [fb_mulI (by rw [p]; omega) (by rw [p]; omega), p]
    refine ⟨hd.trans ht, hp, ?_⟩
    rw [fb_subI (by rw [hp]; omega) (by rw [hp]; omega), hp]; omega
theorem fq_bd (a : Int32) {m : Nat} (h0 : 0 < m) : -2147483648 ≤ a.toInt / (m : Int) ∧ a.toInt / (m : Int) < 2147483648 := by
  have hr := fb_rng a
  have hmz : (0 : Int) < (m : Int) := by omega
  have e := Int.mul_ediv_add_emod a.toInt m
  have r0 := Int.emod_nonneg a.toInt (show (m : Int) ≠ 0 by omega)
  have r1 := Int.emod_lt_of_pos a.toInt hmz
  rcases Int.le_total 0 a.toInt with z | z
  · have := Int.ediv_le_self (m : Int) z
    have := Int.ediv_nonneg z (show (0 : Int) ≤ (m : Int) by omega)
    omega
  · have h1 : a.toInt / (m : Int) ≤ 0 := Int.ediv_nonpos_of_nonpos_of_neg z (by omega)
    have h2 : (1 : Int) * (a.toInt / (m : Int)) ≥ (m : Int) * (a.toInt / (m : Int)) := Int.mul_le_mul_of_nonpos_right (by omega) h1
    refine ⟨?_, by omega⟩
    rcases Int.le_total (-2147483648) (a.toInt / (m : Int)) with y | y
    · exact y
    · have h3 : (m : Int) * (a.toInt / (m : Int)) ≤ m * (-2147483648) := Int.mul_le_mul_of_nonneg_left y (by omega)
      have h4 : (m : Int) * (-2147483648) ≤ 1 * (-2147483648) := Int.mul_le_mul_of_nonpos_right (by omega) (by decide)
      omega
theorem xor_pos (a : Int32) {m : Nat} (hm : m < 2 ^ 31) : (0 ≤ (a ^^^ nI m)) ↔ 0 ≤ a.toInt := by
  have key : ∀ x : Int32, (0 ≤ x) ↔ x.toBitVec.msb = false := fun x => by
    rw [Int32.le_iff_toInt_le, show (0 : Int32).toInt = 0 from by decide]
    show 0 ≤ x.toBitVec.toInt ↔ _
    rw [BitVec.toInt_eq_msb_cond]
    cases h : x.toBitVec.msb
    · simp
    · have := x.toBitVec.isLt
      simp; omega
  have hn : (nI m).toBitVec.msb = false := (key _).mp (by rw [Int32.le_iff_toInt_le, nI_toInt hm]; exact Int.natCast_nonneg m)
  have ha : (0 ≤ a.toInt) ↔ (0 ≤ a) := by rw [Int32.le_iff_toInt_le]; exact Iff.rfl
  rw [ha, key, key, Int32.toBitVec_xor, BitVec.msb_xor, hn, Bool.xor_false]
theorem fq_of {x : Int32} {z : Int} (h : x.toInt = z) : x = Int32.ofInt z := by rw [← h, Int32.ofInt_toInt]
theorem nI_n0 {m : Nat} (h0 : 0 < m) (hm : m < 2 ^ 31) : ¬ nI m = 0 := nI_ne0 h0 hm
theorem t10_fl {a : Int32} {m : Nat} (h0 : 0 < m) (hm : m < 2 ^ 31) {M : Mem} {Q : Int32 → Mem → Prop} (h : Q (Int32.ofInt (a.toInt / (m : Int))) M) : p_J9_floorDiv_7cf53 a (nI m) M Q := by
  obtain ⟨r, r0, r1, e, f1, f2⟩ := tq_cases a h0 hm
  have hb := fq_bd a h0
  have hr := fb_rng a
  refine ⟨nI_n0 h0 hm, ?_⟩
  rintro x2 rfl
  rw [xor_pos a hm]
  refine ⟨fun z => ?_, fun z => ⟨fun y => ?_, fun y => ?_⟩⟩
  · rw [fq_of (f1 (Or.inl z)).1]; exact h
  · rcases Int.lt_or_eq_of_le r0 with q | q
    · have := (f2 (by omega) q).2.1
      rw [y] at this; omega
    · rw [fq_of (f1 (Or.inr q.symm)).1]; exact h
  · rcases Int.lt_or_eq_of_le r0 with q | q
    · have e1 := (f2 (by omega) q).1
      have one : (1 : Int32).toInt = 1 := by decide
      have e2 : (a / nI m - 1).toInt = a.toInt / (m : Int) := by rw [fb_subI (by rw [e1, one]; omega) (by rw [e1, one]; omega), e1, one]; omega
      rw [fq_of e2]; exact h
    · have := (f1 (Or.inr q.symm)).2.1
      exact absurd (Int32.toInt_inj.mp (by rw [this]; omega)) y
theorem t11_re {a : Int32} {m : Nat} (h0 : 0 < m) (hm : m < 2 ^ 31) {M : Mem} {Q : Int32 → Mem → Prop} (h : Q (Int32.ofInt (a.toInt % (m : Int))) M) : p_X11_rest a (nI m) M Q := by
  obtain ⟨r, r0, r1, e, f1, f2⟩ := tq_cases a h0 hm
  have hr := fb_rng a
  have em : a.toInt % (m : Int) = r := by
    have := Int.mul_ediv_add_emod a.toInt m
    omega
  rw [em] at h
  have z0 : (0 : Int32).toInt = 0 := by decide
  refine ⟨nI_n0 h0 hm, fun z => ⟨nI_n0 h0 hm, ?_⟩, fun z => ⟨nI_n0 h0 hm, ?_⟩⟩
  · rw [Int32.le_iff_toInt_le, z0] at z
    rcases Int.lt_or_eq_of_le r0 with q | q
    · rcases Int.lt_or_le a.toInt 0 with y | y
      · have := (f2 y q).2.2; omega
      · rw [fq_of (f1 (Or.inl y)).2.2]; exact h
    · rw [fq_of (f1 (Or.inr q.symm)).2.2]; exact h
  · rw [Int32.le_iff_toInt_le, z0] at z
    rcases Int.lt_or_le a.toInt 0 with y | y
    · rcases Int.lt_or_eq_of_le r0 with q | q
      · have e1 := (f2 y q).2.2
        have e2 := nI_toInt hm
        have e3 : (a - a / nI m * nI m + nI m).toInt = r := by rw [fb_addI (by rw [e1, e2]; omega) (by rw [e1, e2]; omega), e1, e2]; omega
        rw [fq_of e3]; exact h
      · have := (f1 (Or.inr q.symm)).2.2; omega
    · have := (f1 (Or.inl y)).2.2; omega
theorem t11_qu {a : Int32} {m : Nat} (h0 : 0 < m) (hm : m < 2 ^ 30) (ha : -1073741824 ≤ a.toInt) {M : Mem} {Q : Int32 → Mem → Prop} (h : Q (Int32.ofInt (a.toInt / (m : Int))) M) : p_X11_quotient a (nI m) M Q := by
  have hr := fb_rng a
  have hmz : (0 : Int) < (m : Int) := by omega
  have e := Int.mul_ediv_add_emod a.toInt m
  have r0 := Int.emod_nonneg a.toInt (show (m : Int) ≠ 0 by omega)
  have r1 := Int.emod_lt_of_pos a.toInt hmz
  refine t11_re h0 (by omega) ⟨nI_n0 h0 (by omega), ?_⟩
  have e1 : (Int32.ofInt (a.toInt % (m : Int))).toInt = a.toInt % m := fb_ofI (by omega) (by omega)
  have e2 : (a - Int32.ofInt (a.toInt % (m : Int))).toInt = m * (a.toInt / (m : Int)) := by rw [fb_subI (by rw [e1]; omega) (by rw [e1]; omega), e1]; omega
  have e3 : ((a - Int32.ofInt (a.toInt % (m : Int))) / nI m).toInt = a.toInt / (m : Int) := by
    rw [tq_div _ h0 (by omega), e2, Int.mul_comm, Int.mul_tdiv_cancel _ (by omega)]
  rw [fq_of e3]; exact h
/-- chance -/
theorem nx10 (x : Nat) : ((nI x * 1103515245 + 12345) &&& 2147483647 : Int32) = nI (nxtN x) := by
  rw [show (1103515245 : Int32) = nI 1103515245 from rfl, pk_mul, show (12345 : Int32) = nI 12345 from rfl, nI_add, pk_and _ (m := 2147483647) 31 (by decide)]
  refine congrArg nI ?_
  have e : (nI (x * 1103515245 + 12345)).toBitVec.toNat = (x * 1103515245 + 12345) % 2 ^ 32 := BitVec.toNat_ofNat _ _
  rw [e, Nat.mod_mod_of_dvd _ (Nat.pow_dvd_pow 2 (by decide : 31 ≤ 32))]
  rfl
theorem nx11 (x : Nat) : ((lN x * 1103515245 + 12345) &&& 2147483647 : Int64) = lN (nxtN x) := by
  rw [show (1103515245 : Int64) = lN 1103515245 from rfl, lN_mul, show (12345 : Int64) = lN 12345 from rfl, lN_add, show (2147483647 : Int64) = lN (2 ^ 31 - 1) from rfl, fb_andL, Nat.and_two_pow_sub_one_eq_mod]
  rfl
theorem nxtN_lt (x : Nat) : nxtN x < 2 ^ 31 := Nat.mod_lt _ (by decide)
theorem err_e {a k : Nat} (ha : a < 2 ^ 30) (hk : k < 2 ^ 30) : (nI a - nI k : Int32) = iI ((a : Int) - k) := by
  refine fq_of ?_
  rw [pk_sub_toInt ha hk]
theorem t10_noise {r k : Nat} (hr : r < 2 ^ 31) (hk : k < 1000) {M : Mem} {Q : Int32 → Mem → Prop} (h : Q (iI (errZ r k)) M) : p_X10_noiseOf (nI r) (nI k) M Q := by
  rintro x1 rfl
  have e : ((2 : Int32) * nI k + 1) = nI (2 * k + 1) := by rw [show (2 : Int32) = nI 2 from rfl, pk_mul, nI_1]
  rw [e]
  have hd : r / 65536 < 2 ^ 31 := Nat.lt_of_le_of_lt (Nat.div_le_self _ _) hr
  have hm : r / 65536 % (2 * k + 1) < 2 * k + 1 := Nat.mod_lt _ (by omega)
  refine ⟨fun z => absurd z (nI_nle (by omega) (by omega)), fun _ => ⟨nI_ne0 (by omega) (by omega), ?_⟩⟩
  rw [show (65536 : Int32) = nI 65536 from rfl, pk_div hr (by decide) (by decide), pk_rem hd (by omega) (by omega), err_e (by omega) (by omega)]
  exact h
theorem t11_error {r k : Nat} (hr : r < 2 ^ 31) (hk : k < 1000) {M : Mem} {Q : Int32 → Mem → Prop} (h : Q (iI (errZ r k)) M) : p_X11_errorOf (lN r) (nI k) M Q := by
  have e : ((2 : Int32) * nI k + 1) = nI (2 * k + 1) := by rw [show (2 : Int32) = nI 2 from rfl, pk_mul, nI_1]
  have hd : r / 65536 < 2 ^ 31 := Nat.lt_of_le_of_lt (Nat.div_le_self _ _) hr
  have hm : r / 65536 % (2 * k + 1) < 2 * k + 1 := Nat.mod_lt _ (by omega)
  unfold p_X11_errorOf
  rw [e, nI_l (by omega), show (65536 : Int64) = lN 65536 from rfl, pk_lDiv (by omega) (by decide) (by decide), pk_lRem (by omega) (by omega) (by omega), lN_i, err_e (by omega) (by omega)]
  refine ⟨fun z => ?_, h⟩
  have := (pk_lEQ (a := 2 * k + 1) (b := 0) (by omega) (by decide)).mp z
  omega
theorem mul_bd {x y : Int} {X Y : Nat} (hx : x.natAbs ≤ X) (hy : y.natAbs ≤ Y) : (x * y).natAbs ≤ X * Y := by
  rw [Int.natAbs_mul]; exact Nat.mul_le_mul hx hy
