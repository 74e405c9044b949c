/-! how many ones; codes turned around -/
theorem and_by {x p : Nat} (y q : Nat) (hx : x < 256) (hp : p < 256) : (x + 256 * y) &&& (p + 256 * q) = (x &&& p) + 256 * (y &&& q) := by
  apply Nat.eq_of_testBit_eq
  intro i
  have hxp : (x &&& p) < 2 ^ 8 := Nat.and_lt_two_pow _ hp
  rw [Nat.add_comm x, Nat.add_comm p, Nat.add_comm (x &&& p), Nat.testBit_and, show (256 : Nat) = 2 ^ 8 from rfl, Nat.testBit_two_pow_mul_add _ hx, Nat.testBit_two_pow_mul_add _ hp, Nat.testBit_two_pow_mul_add _ hxp]
  split
  · rw [Nat.testBit_and]
  · rw [Nat.testBit_and]
def w4 (a b c d : Nat) : Nat := a + 256 * (b + 256 * (c + 256 * d))
theorem and_w4 {a b c d p q r s : Nat} (ha : a < 256) (hb : b < 256) (hc : c < 256) (hp : p < 256) (hq : q < 256) (hr : r < 256) : w4 a b c d &&& w4 p q r s = w4 (a &&& p) (b &&& q) (c &&& r) (d &&& s) := by
  unfold w4
  rw [and_by _ _ ha hp, and_by _ _ hb hq, and_by _ _ hc hr]
def o1 (b : Nat) : Nat := b - ((b / 2) &&& 85)
def o2 (b : Nat) : Nat := (o1 b &&& 51) + ((o1 b / 4) &&& 51)
def o3 (b : Nat) : Nat := (o2 b + o2 b / 16) &&& 15
def ct (p : Nat → Bool) : Nat → Nat
  | 0 => 0
  | n + 1 => ct p n + (if p n then 1 else 0)
theorem by_1 : ∀ b, b < 256 → (∀ e, e < 2 → ((b / 2 + 128 * e) &&& 85) = ((b / 2) &&& 85)) ∧ ((b / 2) &&& 85) ≤ b ∧ ((b / 2) &&& 85) < 256 := by decide +kernel
theorem by_2 : ∀ b, b < 256 → (∀ e, e < 4 → ((b / 4 + 64 * e) &&& 51) = ((b / 4) &&& 51)) ∧ (b &&& 51) < 100 ∧ ((b / 4) &&& 51) < 100 := by decide +kernel
theorem by_3 : ∀ b, b < 256 → o2 b ≤ 68 ∧ o2 b % 16 ≤ 4 ∧ o3 b = ct b.testBit 8 ∧ o3 b ≤ 8 ∧ ∀ e, e ≤ 4 → ((o2 b + o2 b / 16 + 16 * e) &&& 15) = o3 b := by decide +kernel
theorem ct_cong {p q : Nat → Bool} : ∀ {n : Nat}, (∀ k, k < n → p k = q k) → ct p n = ct q n
  | 0, _ => rfl
  | n + 1, h => by rw [ct, ct, ct_cong (fun k hk => h k (by omega)), h n (by omega)]
theorem ct_split (p : Nat → Bool) (m : Nat) : ∀ n, ct p (m + n) = ct p m + ct (fun k => p (m + k)) n
  | 0 => rfl
  | n + 1 => by
    show ct p (m + n) + (if p (m + n) then 1 else 0) = ct p m + (ct (fun k => p (m + k)) n + (if p (m + n) then 1 else 0))
    rw [ct_split p m n, Nat.add_assoc]
theorem ct_le (p : Nat → Bool) : ∀ n, ct p n ≤ n
  | 0 => Nat.le_refl _
  | n + 1 => by
    have := ct_le p n
    rw [ct]
    split <;> omega
theorem bt_by (n : Nat) {j i : Nat} (hi : i < 8) : n.testBit (8 * j + i) = (n / 2 ^ (8 * j) % 256).testBit i := by
  rw [show (256 : Nat) = 2 ^ 8 from rfl, Nat.testBit_mod_two_pow, decide_eq_true hi, Bool.true_and, Nat.testBit_div_two_pow, Nat.add_comm]
theorem w4_d2 {a b c d : Nat} (ha : a < 256) (hb : b < 256) (hc : c < 256) : w4 a b c d / 2 = w4 (a / 2 + 128 * (b % 2)) (b / 2 + 128 * (c % 2)) (c / 2 + 128 * (d % 2)) (d / 2 + 128 * 0) := by unfold w4; omega
theorem w4_d4 {a b c d : Nat} (ha : a < 256) (hb : b < 256) (hc : c < 256) : w4 a b c d / 4 = w4 (a / 4 + 64 * (b % 4)) (b / 4 + 64 * (c % 4)) (c / 4 + 64 * (d % 4)) (d / 4 + 64 * 0) := by unfold w4; omega
theorem w4_d16 {a b c d : Nat} (ha : a < 256) (hb : b < 256) (hc : c < 256) : w4 a b c d / 16 = w4 (a / 16 + 16 * (b % 16)) (b / 16 + 16 * (c % 16)) (c / 16 + 16 * (d % 16)) (d / 16 + 16 * 0) := by unfold w4; omega
theorem w4_add (a b c d a' b' c' d' : Nat) : w4 a b c d + w4 a' b' c' d' = w4 (a + a') (b + b') (c + c') (d + d') := by unfold w4; omega
theorem w4_sub {a b c d a' b' c' d' : Nat} (ha : a' ≤ a) (hb : b' ≤ b) (hc : c' ≤ c) (hd : d' ≤ d) : w4 a b c d - w4 a' b' c' d' = w4 (a - a') (b - b') (c - c') (d - d') ∧ w4 a' b' c' d' ≤ w4 a b c d := by unfold w4; omega
theorem w4_lt {x y z w : Nat} (hx : x < 256) (hy : y < 256) (hz : z < 256) (hw : w < 256) : w4 x y z w < 2 ^ 32 := by unfold w4; omega
theorem w4_ex {n : Nat} (hn : n < 2 ^ 32) : ∃ a b c d, a < 256 ∧ b < 256 ∧ c < 256 ∧ d < 256 ∧ n = w4 a b c d := by
  refine ⟨n % 256, n / 256 % 256, n / 65536 % 256, n / 16777216, ?_⟩
  unfold w4; omega
theorem w4_bit {a b c d : Nat} (ha : a < 256) (hb : b < 256) (hc : c < 256) (j : Nat) : (w4 a b c d).testBit j = if j < 8 then a.testBit j else if j < 16 then b.testBit (j - 8) else if j < 24 then c.testBit (j - 16) else d.testBit (j - 24) := by
  unfold w4
  rw [Nat.add_comm a, show (256 : Nat) = 2 ^ 8 from rfl, Nat.testBit_two_pow_mul_add _ ha]
  split
  · rfl
  · rename_i h1
    rw [Nat.add_comm b, Nat.testBit_two_pow_mul_add _ hb]
    by_cases h2 : j < 16
    · rw [if_pos (by omega), if_pos h2]
    · rw [if_neg (by omega), if_neg h2, Nat.add_comm c, Nat.testBit_two_pow_mul_add _ hc]
      by_cases h3 : j < 24
      · rw [if_pos (by omega), if_pos h3]; congr 1
      · rw [if_neg (by omega), if_neg h3]; congr 1
theorem w4_ct {a b c d : Nat} (ha : a < 256) (hb : b < 256) (hc : c < 256) (hd : d < 256) : ct (w4 a b c d).testBit 32 = o3 a + o3 b + o3 c + o3 d := by
  rw [show (32 : Nat) = 8 + (8 + (8 + 8)) from rfl, ct_split, ct_split, ct_split, (by_3 a ha).2.2.1, (by_3 b hb).2.2.1, (by_3 c hc).2.2.1, (by_3 d hd).2.2.1]
  rw [ct_cong (q := a.testBit) (n := 8) (p := (w4 a b c d).testBit) (fun k hk => by rw [w4_bit ha hb hc, if_pos hk])]
  rw [ct_cong (q := b.testBit) (n := 8) (p := fun k => (w4 a b c d).testBit (8 + k)) (fun k hk => by rw [w4_bit ha hb hc, if_neg (by omega), if_pos (by omega), Nat.add_sub_cancel_left])]
  rw [ct_cong (q := c.testBit) (n := 8) (p := fun k => (w4 a b c d).testBit (8 + (8 + k))) (fun k hk => by rw [w4_bit ha hb hc, if_neg (by omega), if_neg (by omega), if_pos (by omega), show 8 + (8 + k) - 16 = k from by omega])]
  rw [ct_cong (q := d.testBit) (n := 8) (p := fun k => (w4 a b c d).testBit (8 + (8 + (8 + k)))) (fun k hk => by rw [w4_bit ha hb hc, if_neg (by omega), if_neg (by omega), if_neg (by omega), show 8 + (8 + (8 + k)) - 24 = k from by omega])]
  omega
theorem st_1 {a b c d : Nat} (ha : a < 256) (hb : b < 256) (hc : c < 256) (hd : d < 256) : (w4 a b c d - (w4 a b c d / 2 &&& 1431655765)) = w4 (o1 a) (o1 b) (o1 c) (o1 d) ∧ (w4 a b c d / 2 &&& 1431655765) ≤ w4 a b c d := by
  obtain ⟨a1, a2, a3⟩ := by_1 a ha
  obtain ⟨b1, b2, b3⟩ := by_1 b hb
  obtain ⟨c1, c2, c3⟩ := by_1 c hc
  obtain ⟨d1, d2, d3⟩ := by_1 d hd
  have e1 : (w4 a b c d / 2 &&& 1431655765) = w4 ((a / 2) &&& 85) ((b / 2) &&& 85) ((c / 2) &&& 85) ((d / 2) &&& 85) := by
    rw [w4_d2 ha hb hc, show (1431655765 : Nat) = w4 85 85 85 85 from rfl, and_w4 (by omega) (by omega) (by omega) (by decide) (by decide) (by decide), a1 _ (by omega), b1 _ (by omega), c1 _ (by omega), d1 0 (by decide)]
  rw [e1]
  exact w4_sub a2 b2 c2 d2
theorem st_2 {a b c d : Nat} (ha : a < 256) (hb : b < 256) (hc : c < 256) (hd : d < 256) : (w4 a b c d &&& 858993459) + (w4 a b c d / 4 &&& 858993459) = w4 ((a &&& 51) + ((a / 4) &&& 51)) ((b &&& 51) + ((b / 4) &&& 51)) ((c &&& 51) + ((c / 4) &&& 51)) ((d &&& 51) + ((d / 4) &&& 51)) := by
  obtain ⟨p1, -⟩ := by_2 _ ha
  obtain ⟨q1, -⟩ := by_2 _ hb
  obtain ⟨r1, -⟩ := by_2 _ hc
  obtain ⟨s1, -⟩ := by_2 _ hd
  rw [w4_d4 ha hb hc, show (858993459 : Nat) = w4 51 51 51 51 from rfl, and_w4 (by omega) (by omega) (by omega) (by decide) (by decide) (by decide), and_w4 (by omega) (by omega) (by omega) (by decide) (by decide) (by decide), p1 _ (by omega), q1 _ (by omega), r1 _ (by omega), s1 0 (by decide), w4_add]
theorem st_3 {a b c d : Nat} (la : a < 256) (lb : b < 256) (lc : c < 256) (ld : d < 256) : (w4 (o2 a) (o2 b) (o2 c) (o2 d) + w4 (o2 a) (o2 b) (o2 c) (o2 d) / 16 &&& 252645135) = w4 (o3 a) (o3 b) (o3 c) (o3 d) := by
  obtain ⟨t1, t2, -, -, t5⟩ := by_3 a la
  obtain ⟨u1, u2, -, -, u5⟩ := by_3 b lb
  obtain ⟨v1, v2, -, -, v5⟩ := by_3 c lc
  obtain ⟨x1, x2, -, -, x5⟩ := by_3 d ld
  rw [w4_d16 (by omega) (by omega) (by omega), w4_add, ← Nat.add_assoc, ← Nat.add_assoc, ← Nat.add_assoc, ← Nat.add_assoc, show (252645135 : Nat) = w4 15 15 15 15 from rfl, and_w4 (by omega) (by omega) (by omega) (by decide) (by decide) (by decide), t5 _ (by omega), u5 _ (by omega), v5 _ (by omega), x5 0 (by decide)]
theorem st_4 {a b c d : Nat} (ha : a ≤ 8) (hb : b ≤ 8) (hc : c ≤ 8) (hd : d ≤ 8) : (w4 a b c d + w4 a b c d / 256 + (w4 a b c d + w4 a b c d / 256) / 65536) % 64 = a + b + c + d := by
  have e1 : w4 a b c d / 256 = b + 256 * (c + 256 * d) := by unfold w4; omega
  rw [e1]
  have e2 : (w4 a b c d + (b + 256 * (c + 256 * d))) / 65536 = c + d + 256 * d := by unfold w4; omega
  rw [e2]
  unfold w4
  omega
theorem bcE_of {a x1 x2 x3 x4 x5 : Int32} (h1 : (a - (((a : Int32).toUInt32 >>> ((1 : Int32).toUInt32 &&& Int32.toUInt32 31)).toInt32 &&& 1431655765)) = x1) (h2 : ((x1 &&& 858993459) + (((x1 : Int32).toUInt32 >>> ((2 : Int32).toUInt32 &&& Int32.toUInt32 31)).toInt32 &&& 858993459)) = x2) (h3 : ((x2 + ((x2 : Int32).toUInt32 >>> ((4 : Int32).toUInt32 &&& Int32.toUInt32 31)).toInt32) &&& 252645135) = x3) (h4 : (x3 + ((x3 : Int32).toUInt32 >>> ((8 : Int32).toUInt32 &&& Int32.toUInt32 31)).toInt32) = x4) (h5 : (x4 + ((x4 : Int32).toUInt32 >>> ((16 : Int32).toUInt32 &&& Int32.toUInt32 31)).toInt32) = x5) : bcE a = x5 &&& 63 := by
  subst h1 h2 h3 h4 h5
  rfl
theorem bc_e {n : Nat} (hn : n < 2 ^ 32) : bcE (nI n) = nI (ct n.testBit 32) := by
  obtain ⟨a, b, c, d, ha, hb, hc, hd, rfl⟩ := w4_ex hn
  have oa : ∀ {x}, x < 256 → o1 x < 256 := fun {x} h => by unfold o1; omega
  have ob : ∀ {x}, x < 256 → o2 x < 256 := fun {x} h => by have := (by_3 x h).1; omega
  have oc : ∀ {x}, x < 256 → o3 x ≤ 8 := fun {x} h => (by_3 x h).2.2.2.1
  have l1 := w4_lt (oa ha) (oa hb) (oa hc) (oa hd)
  have l2 := w4_lt (ob ha) (ob hb) (ob hc) (ob hd)
  have l3 := w4_lt (Nat.lt_of_le_of_lt (oc ha) (by decide : 8 < 256)) (Nat.lt_of_le_of_lt (oc hb) (by decide : 8 < 256)) (Nat.lt_of_le_of_lt (oc hc) (by decide : 8 < 256)) (Nat.lt_of_le_of_lt (oc hd) (by decide : 8 < 256))
  have l4 : w4 (o3 a) (o3 b) (o3 c) (o3 d) + w4 (o3 a) (o3 b) (o3 c) (o3 d) / 256 < 2 ^ 32 := by
    have q1 := oc ha
    have q2 := oc hb
    have q3 := oc hc
    have q4 := oc hd
    unfold w4; omega
  obtain ⟨s1, s2⟩ := st_1 ha hb hc hd
  rw [bcE_of (x1 := nI (w4 (o1 a) (o1 b) (o1 c) (o1 d))) (x2 := nI (w4 (o2 a) (o2 b) (o2 c) (o2 d))) (x3 := nI (w4 (o3 a) (o3 b) (o3 c) (o3 d))) (x4 := nI (w4 (o3 a) (o3 b) (o3 c) (o3 d) + w4 (o3 a) (o3 b) (o3 c) (o3 d) / 256)) (x5 := nI (w4 (o3 a) (o3 b) (o3 c) (o3 d) + w4 (o3 a) (o3 b) (o3 c) (o3 d) / 256 + (w4 (o3 a) (o3 b) (o3 c) (o3 d) + w4 (o3 a) (o3 b) (o3 c) (o3 d) / 256) / 65536)) ?_ ?_ ?_ ?_ ?_]
  · rw [show (63 : Int32) = nI (2 ^ 6 - 1) from rfl, fa_mask, show (2 : Nat) ^ 6 = 64 from rfl, st_4 (oc ha) (oc hb) (oc hc) (oc hd), w4_ct ha hb hc hd]
  · rw [pk_ushrN hn (1 : Int32) 1 (by decide), show (1431655765 : Int32) = nI 1431655765 from rfl, fa_and, show (2 : Nat) ^ 1 = 2 from rfl, pk_sub s2, s1]
  · rw [pk_ushrN l1 (2 : Int32) 2 (by decide), show (858993459 : Int32) = nI 858993459 from rfl, fa_and, fa_and, show (2 : Nat) ^ 2 = 4 from rfl, nI_add, st_2 (oa ha) (oa hb) (oa hc) (oa hd)]
    rfl
  · rw [pk_ushrN l2 (4 : Int32) 4 (by decide), nI_add, show (252645135 : Int32) = nI 252645135 from rfl, fa_and, show (2 : Nat) ^ 4 = 16 from rfl, st_3 ha hb hc hd]
  · rw [pk_ushrN l3 (8 : Int32) 8 (by decide), nI_add]
  · rw [pk_ushrN l4 (16 : Int32) 16 (by decide), nI_add]
