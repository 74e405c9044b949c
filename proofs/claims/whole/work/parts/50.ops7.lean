/-! bits of a long; op 24 logged, op 36 distance. (uW_sk follows the kit's laws/BITS: uN_sk) -/
theorem uW_sk (x : Int64) {k : Nat} (hk : k < 64) : (x.toUInt64 >>> ((nI k).toInt64.toUInt64 &&& Int64.toUInt64 63)).toInt64.toBitVec.toNat = x.toBitVec.toNat / 2 ^ k := by
  have h : ((nI k).toInt64.toUInt64 &&& Int64.toUInt64 63).toNat % 64 = k := by
    rw [nI_l (by omega), UInt64.toNat_and]
    have e : (lN k).toUInt64.toNat = k % 2 ^ 64 := rfl
    have e2 : (Int64.toUInt64 63).toNat = 2 ^ 6 - 1 := by decide
    rw [e, e2, Nat.and_two_pow_sub_one_eq_mod]
    omega
  show (x.toUInt64 >>> ((nI k).toInt64.toUInt64 &&& Int64.toUInt64 63)).toNat = _
  rw [UInt64.toNat_shiftRight, h, Nat.shiftRight_eq_div_pow]
  rfl
theorem i32_and1 (x : Int64) : (x.toInt32 &&& 1) = nI (x.toBitVec.toNat % 2) := by
  have h := pk_and x.toInt32 (m := 1) 1 (by decide)
  rw [h]
  congr 1
  have e : x.toInt32.toBitVec.toNat = x.toBitVec.toNat % 2 ^ 32 := by
    show (BitVec.signExtend 32 x.toBitVec).toNat = _
    rw [BitVec.signExtend_eq_setWidth_of_le _ (by decide), BitVec.toNat_setWidth]
  rw [e]
  omega
theorem lg_bit {L : Int64} {k : Nat} (hk : k < 64) : (((L.toUInt64 >>> ((nI k).toInt64.toUInt64 &&& Int64.toUInt64 63)).toInt64 : Int64).toInt32 &&& 1) = (if L.toBitVec.toNat.testBit k then 1 else 0) := by
  rw [i32_and1, uW_sk L hk]
  have e := Nat.testBit_eq_decide_div_mod_eq (x := L.toBitVec.toNat) (i := k)
  rcases Nat.mod_two_eq_zero_or_one (L.toBitVec.toNat / 2 ^ k) with z | z
  · rw [e, z]; rfl
  · rw [e, z]; rfl
/-- op 24: logged -/
theorem op_24 (X Y : Mem) (a1 a2 : Int32) (hR : Rel X Y) : p_X10_logged a1 a2 X (fun r X1 => p_X11_logged a1 a2 Y (fun r1 Y1 => r = r1 ∧ Rel X1 Y1)) := by
  obtain ⟨T, w, h1, h2, h3, h4, h5, h6, h7, h8, h9, h10, h11, h12, h13⟩ := id hR
  obtain ⟨n0, hn0, hc0, hd0, hch, _⟩ := id h9
  have hb0 : (sI Y 40 0 2 0).1 40 0 35 = 0 := by rw [sI_n (by decide)]; exact h6.1
  have hd1 : (sI Y 40 0 2 0).1 54 0 292 = nI n0 := by rw [sI_n (by decide)]; exact hd0
  have no : (a1 < 0 ∨ nI n0 ≤ a1) → p_X10_logged a1 a2 X (fun r X1 => p_X11_logged a1 a2 Y (fun r1 Y1 => r = r1 ∧ Rel X1 Y1)) := fun h =>
    t10_isCh0 hc0 h ⟨fun _ => by
      rintro M1 rfl
      exact t11_isCh0 hb0 hd1 h ⟨fun _ => ⟨rfl, hR.th 0⟩, fun z => absurd rfl z⟩, fun z => absurd rfl z⟩
  rcases pk_ix a1 (n := n0) (by omega) with h | h | ⟨c, hc, rfl⟩
  · exact no (Or.inl h)
  · exact no (Or.inr h)
  obtain ⟨c1, c2, c3, c4, c5, c6, c7, c8, m, hm, c9, c10, c11⟩ := hch c hc
  simp only [Nat.mul_zero, Nat.zero_add] at c9 c10 c11
  have e8 : (sI Y 40 0 2 0).1 54 0 (73 * c + 8) = nI m := by rw [sI_n (by omega)]; exact c10
  refine t10_isCh1 hc0 hn0 hc ⟨fun z => absurd z (by decide), fun _ => ⟨fun hneg => ?_, fun hneg => ⟨vp_in_nI (by omega) (by omega), ?_⟩⟩⟩
  · rintro M1 rfl
    exact t11_isCh1 hb0 hd1 hn0 hc ⟨fun z => absurd z (by decide), fun _ => ⟨fun _ => ⟨rfl, hR.th 0⟩, fun z => absurd hneg z⟩⟩
  · rw [nI_clamp (by omega), Nat.mul_zero, Nat.zero_add, c9]
    refine ⟨fun hlt => ⟨vp_in_nI (by omega) (by omega), ?_⟩, fun hge => ?_⟩
    · obtain ⟨i, hi, rfl⟩ : ∃ i, i < m ∧ a2 = nI i := by
        rcases pk_ix a2 (n := m) (by omega) with z | z | z
        · exact absurd z hneg
        · exact absurd hlt (Int32.not_lt.mpr z)
        · exact z
      unfold p_X1_logBit
      rw [c9, show (nI m - 1 - nI i : Int32) = nI (m - 1 - i) from by rw [show (1 : Int32) = nI 1 from rfl, pk_sub (by omega), pk_sub (by omega)], lg_bit (by omega)]
      rintro M1 rfl
      refine t11_isCh1 hb0 hd1 hn0 hc ⟨fun z => absurd z (by decide), fun _ => ⟨fun z => absurd z hneg, fun _ => t11_at (k := 8) (by omega) hb0 ⟨fun z => ?_, fun _ => ?_⟩⟩⟩
      · rw [e8] at z; exact absurd z (nI_ge hi (by omega))
      · rw [show (9 : Int32) + nI i = nI (9 + i) from nI_add 9 i]
        refine t11_at (k := 9 + i) (by omega) hb0 ⟨?_, hR.th 0⟩
        rw [sI_n (by omega), ← Nat.add_assoc]
        exact (c11 i hi).symm
    · rintro M1 rfl
      refine t11_isCh1 hb0 hd1 hn0 hc ⟨fun z => absurd z (by decide), fun _ => ⟨fun z => absurd z hneg, fun _ => t11_at (k := 8) (by omega) hb0 ⟨fun _ => ⟨rfl, hR.th 0⟩, fun z => ?_⟩⟩⟩
      rw [e8] at z
      exact absurd (Int32.not_lt.mp hge) z
theorem root_one {r r' s : Nat} (h : isRoot r s) (h' : isRoot r' s) : r = r' := by
  have key : ∀ {a b : Nat}, isRoot a s → isRoot b s → ¬ a < b := by
    intro a b ha hb hab
    have h2 := Nat.mul_le_mul (show a + 1 ≤ b by omega) (show a + 1 ≤ b by omega)
    have := ha.2
    have := hb.1
    omega
  have h3 := key h h'
  have h4 := key h' h
  omega
def sqd (a b : Nat) : Nat := if a ≤ b then (b - a) * (b - a) else (a - b) * (a - b)
theorem sqd_e : ∀ a, a < 16 → ∀ b, b < 16 → (nI a - nI b) * (nI a - nI b) = nI (sqd a b) ∧ sqd a b ≤ 225 := by decide +kernel
theorem t10_way {a b c d e f : Nat} (ha : a < 16) (hb : b < 16) (hc : c < 16) (hd : d < 16) (he : e < 16) (hf : f < 16) {X : Mem} (hw : WaysR X) {Q : Int32 → Mem → Prop} (h : ∀ r, isRoot r (sqd a b + sqd c d + sqd e f) → Q (nI r) X) : p_X7_way (nI a - nI b) (nI c - nI d) (nI e - nI f) X Q := by
  rintro x1 rfl
  obtain ⟨e1, l1⟩ := sqd_e a ha b hb
  obtain ⟨e2, l2⟩ := sqd_e c hc d hd
  obtain ⟨e3, l3⟩ := sqd_e e he f hf
  rw [e1, e2, e3, nI_add, nI_add]
  refine ⟨fun z => absurd z (nI_pos (by omega)), fun _ => ⟨fun z => absurd z ?_, fun _ => ⟨vp_in_nI (by omega) (by omega), ?_⟩⟩⟩
  · rw [show (676 : Int32) = nI 676 from rfl]; exact nI_ge (by omega) (by omega)
  · rw [nI_clamp (by omega)]
    obtain ⟨r, hr, er⟩ := hw (sqd a b + sqd c d + sqd e f) (by omega)
    rw [er]; exact h r hr
theorem root_lt {r s : Nat} (h : isRoot r s) (hs : s < 676) : r < 104 := by
  rcases Nat.lt_or_ge r 104 with z | z
  · exact z
  · have := Nat.mul_le_mul z z
    have := h.1
    omega
theorem t11_rootOf {r s : Nat} (hr : isRoot r s) (hs : s < 676) {Y : Mem} {Q : Int32 → Mem → Prop} (h : Q (nI r) Y) : p_X11_rootOf (nI (16 * s)) Y Q := by
  have hr1 := root_lt hr hs
  have go : ∀ d j, j + d = r → b_X11_rootOf_2 Q (d + 1) (nI (16 * s)) (nI j) Y := by
    intro d
    induction d with
    | zero =>
      intro j hj
      have : j = r := by omega
      subst this
      refine ⟨fun _ => h, fun z => absurd ?_ z⟩
      rw [nI_1, pk_mul]
      have hb : (j + 1) * (j + 1) ≤ 104 * 104 := Nat.mul_le_mul (by omega) (by omega)
      exact nI_lt hr.2 (by omega)
    | succ d ih =>
      intro j hj
      have h2 : (j + 1) * (j + 1) ≤ r * r := Nat.mul_le_mul (by omega) (by omega)
      have := hr.1
      refine ⟨fun z => absurd z ?_, fun _ => ?_⟩
      · rw [nI_1, pk_mul]; exact nI_nlt (by omega) (by omega)
      · rintro x2 rfl
        rw [nI_1]
        exact ih (j + 1) (by omega)
  exact ⟨r + 1, go r 0 (by omega)⟩
theorem t11_far {a b c d e f r : Nat} (ha : a < 16) (hb : b < 16) (hc : c < 16) (hd : d < 16) (he : e < 16) (hf : f < 16) {Y : Mem} (hr : isRoot r (sqd a b + sqd c d + sqd e f)) {Q : Int32 → Mem → Prop} (h : Q (nI r) Y) : p_X11_far (nI a - nI b) (nI c - nI d) (nI e - nI f) Y Q := by
  obtain ⟨e1, l1⟩ := sqd_e a ha b hb
  obtain ⟨e2, l2⟩ := sqd_e c hc d hd
  obtain ⟨e3, l3⟩ := sqd_e e he f hf
  show p_X11_rootOf ((16 : Int32) * ((nI a - nI b) * (nI a - nI b) + (nI c - nI d) * (nI c - nI d) + (nI e - nI f) * (nI e - nI f))) Y _
  rw [e1, e2, e3, nI_add, nI_add, show (16 : Int32) = nI 16 from rfl, pk_mul]
  exact t11_rootOf hr (by omega) h
theorem t11_farFrom {T : Txt} {b x y z r : Nat} (h1 : TB T) {Y : Mem} (h5 : TYr T Y) (hb : b < T 0 0) (hx : x < 16) (hy : y < 16) (hz : z < 16) (hr : isRoot r (sqd (T (1 + b) 11) x + sqd (T (1 + b) 12) y + sqd (T (1 + b) 13) z)) {Q : Int32 → Mem → Prop} (h : Q (nI r) Y) : p_X11_farFrom (nI b) (nI x) (nI y) (nI z) Y Q := by
  have hnb := h1.1
  obtain ⟨-, -, -, -, -, -, -, -, -, -, -, t11, t12, t13, -⟩ := h1.2.2.2.2.2.2.2.2.2.2.2.2.1 b hb
  refine t11_birdOf (k := 11) (by omega) (by decide) (by omega) ?_
  refine t11_birdOf (k := 12) (by omega) (by decide) (by omega) ?_
  refine t11_birdOf (k := 13) (by omega) (by decide) (by omega) ?_
  rw [h5.2.2.1 b 11 hb (by decide), h5.2.2.1 b 12 hb (by decide), h5.2.2.1 b 13 hb (by decide)]
  exact t11_far t11 hx t12 hy t13 hz hr h
