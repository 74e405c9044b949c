/-! sums by a code: both sides -/
def lZ (z : Int) : Int64 := Int64.ofInt z
theorem lZ_add (a b : Int) : lZ a + lZ b = lZ (a + b) := (Int64.ofInt_add a b).symm
theorem lZ_sub (a b : Int) : lZ a - lZ b = lZ (a - b) := (Int64.ofInt_sub a b).symm
theorem lZ_mul (a b : Int) : lZ a * lZ b = lZ (a * b) := (Int64.ofInt_mul a b).symm
theorem sh32 : (((32 : Int32).toInt64 &&& 63 : Int64).toBitVec.smod 64).toNat = 32 := by decide
theorem lZ_shl (z : Int) : lZ z <<< ((32 : Int32).toInt64 &&& 63) = lZ (z * 4294967296) := by
  rw [← lZ_mul]
  apply Int64.toBitVec_inj.1
  show BitVec.ofInt 64 z <<< (((32 : Int32).toInt64 &&& 63 : Int64).toBitVec.smod 64) = BitVec.ofInt 64 z * BitVec.ofInt 64 4294967296
  rw [BitVec.shiftLeft_eq', sh32, BitVec.shiftLeft_eq_mul_twoPow]
  congr 1
theorem lZ_t {z : Int} (h1 : -9223372036854775808 ≤ z) (h2 : z < 9223372036854775808) : (lZ z).toInt = z := by
  show (Int64.ofInt z).toInt = z
  rw [Int64.toInt_ofInt, fb_bmodL h1 h2]
theorem lZ_shr {z : Int} (h1 : -9223372036854775808 ≤ z) (h2 : z < 9223372036854775808) : lZ z >>> ((32 : Int32).toInt64 &&& 63) = lZ (z / 4294967296) := by
  apply Int64.toInt_inj.1
  rw [lZ_t (by omega) (by omega)]
  show (BitVec.sshiftRight' (BitVec.ofInt 64 z) (((32 : Int32).toInt64 &&& 63 : Int64).toBitVec.smod 64)).toInt = _
  rw [BitVec.toInt_sshiftRight', sh32, BitVec.toInt_ofInt, fb_bmodL h1 h2, Int.shiftRight_eq_div_pow]
  rfl
theorem lZ_i (z : Int) : (lZ z).toInt32 = iI z := Int64.toInt32_ofInt
theorem iI_l {z : Int} (h1 : -2147483648 ≤ z) (h2 : z < 2147483648) : (iI z).toInt64 = lZ z :=
  Int32.toInt64_ofInt (by rw [show Int32.minValue.toInt = -2147483648 from by decide]; omega) (by rw [show Int32.maxValue.toInt = 2147483647 from by decide]; omega)
theorem iI_hi (U V : Int) : iI (U * 4294967296 + V) = iI V := by
  rw [← iI_add, ← iI_mul, show iI 4294967296 = 0 from by decide, Int32.mul_zero, Int32.zero_add]
theorem iI_shr6 {z : Int} (h1 : -2147483648 ≤ z) (h2 : z < 2147483648) : iI z >>> (6 &&& 31) = iI (z / 64) := by
  refine fq_of ?_
  rw [pk_shr _ (6 &&& 31) 6 (by decide), iI_t h1 h2, Int.shiftRight_eq_div_pow]
  rfl
theorem sL_s {M : Mem} {f i k : Nat} {v : Int64} : (sL M f i k v).2.1 f i k = v := by simp [sL]
theorem sL_n {M : Mem} {f i k f' i' k' : Nat} {v : Int64} (h : ¬ (f' = f ∧ i' = i ∧ k' = k)) : (sL M f i k v).2.1 f' i' k' = M.2.1 f' i' k' := if_neg h
/-! the specification of sums -/
def chZ (T : Txt) (d i : Nat) : Int := if chipB T d i then 1 else -1
def uZ (re im : Nat → Int) (p sh tu k : Nat) : Int := re k * tabZ (angN sh tu (62 * p + k)) + im k * tabZ ((angN sh tu (62 * p + k) + 12) % 16)
def vZ (re im : Nat → Int) (p sh tu k : Nat) : Int := im k * tabZ (angN sh tu (62 * p + k)) - re k * tabZ ((angN sh tu (62 * p + k) + 12) % 16)
def smZ (T : Txt) (d st : Nat) (f : Nat → Int) : Int := fb_si (fun k => chZ T d (((((k : Nat) : Int) - (st : Nat)) % 62).toNat / 2) * f k) 62
def BdS (re im : Nat → Int) : Prop := ∀ k, k < 62 → (-549 ≤ re k ∧ re k ≤ 549) ∧ -549 ≤ im k ∧ im k ≤ 549
theorem mul_b {x y : Int} {X Y : Int} (hx : -X ≤ x ∧ x ≤ X) (hy : -Y ≤ y ∧ y ≤ Y) : -(X * Y) ≤ x * y ∧ x * y ≤ X * Y := by
  have h := mul_bd (x := x) (y := y) (X := X.toNat) (Y := Y.toNat) (by omega) (by omega)
  have e : ((X.toNat * Y.toNat : Nat) : Int) = X * Y := by
    rw [Int.natCast_mul, Int.toNat_of_nonneg (by omega), Int.toNat_of_nonneg (by omega)]
  omega
theorem uv_b {re im : Nat → Int} (hb : BdS re im) (p sh tu : Nat) : ∀ k, k < 62 → (-10980 ≤ uZ re im p sh tu k ∧ uZ re im p sh tu k ≤ 10980) ∧ -10980 ≤ vZ re im p sh tu k ∧ vZ re im p sh tu k ≤ 10980 := by
  intro k hk
  obtain ⟨b1, b2⟩ := hb k hk
  have t1 := tab_b _ (ang_lt sh tu (62 * p + k))
  have t2 := tab_b ((angN sh tu (62 * p + k) + 12) % 16) (by omega)
  have c1 := mul_b (X := 549) (Y := 10) b1 t1
  have c2 := mul_b (X := 549) (Y := 10) b2 t2
  have c3 := mul_b (X := 549) (Y := 10) b2 t1
  have c4 := mul_b (X := 549) (Y := 10) b1 t2
  unfold uZ vZ
  omega
theorem chZ_b (T : Txt) (d i : Nat) : -1 ≤ chZ T d i ∧ chZ T d i ≤ 1 := by unfold chZ; split <;> omega
theorem smZ_b {T : Txt} {d st : Nat} {f : Nat → Int} (hf : ∀ k, k < 62 → -10980 ≤ f k ∧ f k ≤ 10980) : -680760 ≤ smZ T d st f ∧ smZ T d st f ≤ 680760 := by
  have := fb_si_bound (c := 10980) (by omega) (n := 62) (f := fun k => chZ T d (((((k : Nat) : Int) - (st : Nat)) % 62).toNat / 2) * f k) (fun k hk => by
    have := mul_b (X := 1) (Y := 10980) (chZ_b T d (((((k : Nat) : Int) - (st : Nat)) % 62).toNat / 2)) (hf k hk)
    omega)
  unfold smZ
  omega
theorem si_cyc (f : Nat → Int) {st : Nat} (hst : st < 62) : fb_si f 62 = fb_si (fun m => f ((st + m) % 62)) 62 := by
  have a := fb_si_split f st (62 - st)
  have b := fb_si_split (fun m => f ((st + m) % 62)) (62 - st) st
  rw [show st + (62 - st) = 62 from by omega] at a
  rw [show 62 - st + st = 62 from by omega] at b
  rw [a, b, Int.add_comm]
  congr 1
  · exact fb_si_cong (fun k hk => by show f (st + k) = f ((st + k) % 62); rw [Nat.mod_eq_of_lt (by omega)])
  · exact fb_si_cong (fun k hk => by show f k = f ((st + (62 - st + k)) % 62); congr 1; omega)
theorem si_two (f : Nat → Int) : ∀ n, fb_si f (2 * n) = fb_si (fun i => f (2 * i) + f (2 * i + 1)) n
  | 0 => rfl
  | n + 1 => by
    rw [show 2 * (n + 1) = 2 * n + 1 + 1 from by omega, fb_si_succ, fb_si_succ, fb_si_succ, si_two f n, Int.add_assoc]
theorem smZ_e (T : Txt) (d : Nat) {st : Nat} (hst : st < 62) (f : Nat → Int) : smZ T d st f = fb_si (fun i => chZ T d i * (f ((st + 2 * i) % 62) + f ((st + 2 * i + 1) % 62))) 31 := by
  unfold smZ
  rw [si_cyc _ hst, show (62 : Nat) = 2 * 31 from rfl, si_two]
  refine fb_si_cong (fun i hi => ?_)
  show chZ T d _ * f _ + chZ T d _ * f _ = _
  rw [Int.mul_add]
  congr 2
  · congr 1
    show (((((st + 2 * i) % (2 * 31) : Nat) : Int) - (st : Nat)) % 62).toNat / 2 = i
    omega
  · congr 1
    show (((((st + (2 * i + 1)) % (2 * 31) : Nat) : Int) - (st : Nat)) % 62).toNat / 2 = i
    omega
/-- all, less twice those of chips below 0 -/
theorem smZ_l (T : Txt) (d : Nat) {st : Nat} (hst : st < 62) (f : Nat → Int) : fb_si f 62 - 2 * fb_si (fun i => if !chipB T d i then f ((st + 2 * i) % 62) + f ((st + 2 * i + 1) % 62) else 0) 31 = smZ T d st f := by
  rw [smZ_e T d hst f, si_cyc f hst, show (62 : Nat) = 2 * 31 from rfl, si_two, ← fb_si_mul, ← fb_si_sub]
  refine fb_si_cong (fun i hi => ?_)
  show f ((st + 2 * i) % 62) + f ((st + (2 * i + 1)) % 62) - 2 * (if _ then _ else _) = _
  rw [show st + (2 * i + 1) = st + 2 * i + 1 from by omega]
  unfold chZ
  cases chipB T d i
  · show _ - 2 * (f ((st + 2 * i) % 62) + f ((st + 2 * i + 1) % 62)) = -1 * (f ((st + 2 * i) % 62) + f ((st + 2 * i + 1) % 62)); omega
  · show _ - 2 * 0 = 1 * (f ((st + 2 * i) % 62) + f ((st + 2 * i + 1) % 62)); omega
def lsum (g : Nat → Int) : List Nat → Int
  | [] => 0
  | a :: l => g a + lsum g l
theorem lsum_app (g : Nat → Int) : ∀ l m : List Nat, lsum g (l ++ m) = lsum g l + lsum g m
  | [], m => (Int.zero_add _).symm
  | a :: l, m => by show g a + lsum g (l ++ m) = g a + lsum g l + lsum g m; rw [lsum_app g l m, Int.add_assoc]
theorem lsum_fil (g : Nat → Int) (q : Nat → Bool) : ∀ n, lsum g ((List.range n).filter q) = fb_si (fun i => if q i then g i else 0) n
  | 0 => rfl
  | n + 1 => by
    rw [List.range_succ, List.filter_append, lsum_app, lsum_fil g q n, fb_si_succ]
    congr 1
    cases h : q n
    · simp [List.filter, h, lsum]
    · simp [List.filter, h, lsum]
def zsL (T : Txt) (d : Nat) : List Nat := (List.range 31).filter (fun i => !chipB T d i)
/-! the class: the code's chips below 0 -/
def MX (l : List Nat) (X : Mem) : Prop := X.1 5 0 6 = nI l.length ∧ ∀ (j i : Nat), l[j]? = some i → X.1 8 0 j = nI (2 * i)
def FM (X Z : Mem) : Prop := Z.2 = X.2 ∧ ∀ f i k, f ≠ 8 → ¬ (f = 5 ∧ i = 0 ∧ k = 6) → Z.1 f i k = X.1 f i k
theorem t10_take_l {cv : Nat} (hcv : cv < 2 ^ 31) {X : Mem} {Q : Mem → Prop} (h : ∀ Z, FM X Z → MX ((List.range 31).filter (fun i => !cv.testBit i)) Z → Q Z) : ∀ (d k : Nat) (Z : Mem), k + d = 31 → FM X Z → MX ((List.range k).filter (fun i => !cv.testBit i)) Z → b_X2_takeCode_7 Q (d + 1) (nI cv) (nI k) Z := by
  intro d
  induction d with
  | zero =>
    intro k Z hk h1 h2
    have : k = 31 := by omega
    subst this
    exact ⟨fun _ => h Z h1 h2, fun z => absurd (by decide) z⟩
  | succ d ih =>
    intro k Z hk h1 h2
    have hl : ((List.range k).filter (fun i => !cv.testBit i)).length ≤ k := by
      have := List.length_filter_le (fun i => !cv.testBit i) (List.range k)
      rwa [List.length_range] at this
    have hs : (List.range (k + 1)).filter (fun i => !cv.testBit i) = (List.range k).filter (fun i => !cv.testBit i) ++ (if cv.testBit k then [] else [k]) := by
      rw [List.range_succ, List.filter_append]
      congr 1
      cases hb : cv.testBit k <;> simp [List.filter, hb]
    refine ⟨fun z => absurd z (by rw [show (31 : Int32) = nI 31 from rfl]; exact nI_ge (by omega) (by omega)), fun _ => ?_⟩
    rw [ush_bit hcv (by omega)]
    refine ⟨fun n => ?_, fun n => ?_⟩
    · have hb : cv.testBit k = true := by
        cases e : cv.testBit k
        · rw [e] at n; exact absurd rfl n
        · rfl
      rintro x4 rfl
      rw [nI_1]
      refine ih (k + 1) Z (by omega) h1 ?_
      rw [hs, hb]
      show MX (_ ++ []) Z
      rw [List.append_nil]
      exact h2
    · have hb : cv.testBit k = false := by
        cases e : cv.testBit k
        · rfl
        · rw [e] at n; exact absurd n (by decide)
      rw [h2.1, nI_clamp (by omega), show (2 : Int32) = nI 2 from rfl, pk_mul]
      refine ⟨vp_in_nI (by omega) (by omega), ?_⟩
      rintro M5 rfl M6 rfl x4 rfl
      rw [sI_n (by omega), h2.1, nI_1, nI_1]
      refine ih (k + 1) _ (by omega) ⟨h1.1, fun f i j e1 e2 => by rw [sI_n (by omega), sI_n (by omega)]; exact h1.2 f i j e1 e2⟩ ?_
      rw [hs, hb]
      show MX (_ ++ [k]) _
      refine ⟨by rw [sI_s, List.length_append, List.length_singleton], fun j i hj => ?_⟩
      rcases app_some hj with ⟨hjl, hji⟩ | ⟨rfl, rfl⟩
      · rw [sI_n (by omega), sI_n (by omega)]; exact h2.2 j i hji
      · rw [sI_n (by omega), sI_s]
theorem t10_take {T : Txt} {d cv : Nat} (hcv : cv < 2 ^ 31) (hbit : ∀ i, i < 31 → cv.testBit i = chipB T d i) {X : Mem} {Q : Mem → Prop} (h : ∀ Z, FM X Z → MX (zsL T d) Z → Q Z) : p_X2_takeCode (nI cv) X Q := by
  rintro M1 rfl
  refine ⟨32, t10_take_l hcv (X := X) (fun Z h1 h2 => h Z h1 ?_) 31 0 _ rfl ⟨rfl, fun f i k _ e2 => sI_n (by omega)⟩ ⟨by rw [sI_s]; rfl, fun j i hj => by simp at hj⟩⟩
  have : (List.range 31).filter (fun i => !cv.testBit i) = zsL T d := List.filter_congr (fun i hi => by rw [hbit i (List.mem_range.mp hi)])
  rw [← this]
  exact h2
/-! the class: turned back -/
def SmX (re im : Nat → Int) (X : Mem) : Prop := ∀ k, k < 62 → X.1 6 0 k = iI (re k) ∧ X.1 7 0 k = iI (im k)
def WZ (re im : Nat → Int) (p sh tu k : Nat) : Int := uZ re im p sh tu k * 4294967296 + vZ re im p sh tu k
def FT (X Z : Mem) : Prop := Z.1 = X.1 ∧ (∀ f i k, f ≠ 9 → f ≠ 10 → ¬ (f = 5 ∧ i = 0 ∧ k = 9) → Z.2.1 f i k = X.2.1 f i k) ∧ Z.2.2 = X.2.2
def TX (W : Nat → Int) (X : Mem) : Prop := X.2.1 5 0 9 = lZ (fb_si W 62) ∧ ∀ k, k < 124 → X.2.1 10 0 k = lZ (W (k % 62) + W ((k + 1) % 62))
theorem t10_pairs_l {W : Nat → Int} {X : Mem} {Q : Mem → Prop} (h : ∀ Z, FT X Z → TX W Z → Q Z) : ∀ (d k : Nat) (Z : Mem), k + d = 62 → FT X Z → (∀ j, j < 62 → Z.2.1 9 0 j = lZ (W j)) → Z.2.1 5 0 9 = lZ (fb_si W 62) → (∀ j, j < k → Z.2.1 10 0 j = lZ (W (j % 62) + W ((j + 1) % 62)) ∧ Z.2.1 10 0 (j + 62) = lZ (W (j % 62) + W ((j + 1) % 62))) → b_X2_turnBack_138 Q (d + 1) (nI k) Z := by
  intro d
  induction d with
  | zero =>
    intro k Z hk h1 h2 h3 h4
    have : k = 62 := by omega
    subst this
    refine ⟨fun _ => h Z h1 ⟨h3, fun k hk => ?_⟩, fun z => absurd (by decide) z⟩
    rcases Nat.lt_or_ge k 62 with y | y
    · exact (h4 k y).1
    · have := (h4 (k - 62) (by omega)).2
      rw [show k - 62 + 62 = k from by omega, show (k - 62) % 62 = k % 62 from by omega, show (k - 62 + 1) % 62 = (k + 1) % 62 from by omega] at this
      exact this
  | succ d ih =>
    intro k Z hk h1 h2 h3 h4
    have ik : vp_in (nI k) 62 := vp_in_nI (by omega) (by omega)
    refine ⟨fun z => absurd z (by rw [show (62 : Int32) = nI 62 from rfl]; exact nI_ge (by omega) (by omega)), fun _ => ⟨ik, ?_⟩⟩
    have key : ∀ s, s < 62 → s = (k + 1) % 62 → b_X2_turnBack_171 Q (fun v5 M => b_X2_turnBack_138 Q (d + 1) v5 M) (nI k) (Z.2.1 9 0 (nI k).toNatClampNeg) (nI s) Z := by
      intro s hs hse
      refine ⟨vp_in_nI hs (by omega), ?_⟩
      rintro x8 rfl
      refine ⟨vp_in_nI (by omega) (by omega), ?_⟩
      rintro M9 rfl
      rw [show (62 : Int32) = nI 62 from rfl, nI_add]
      refine ⟨vp_in_nI (by omega) (by omega), ?_⟩
      rintro M10 rfl x11 rfl
      rw [nI_1, nI_clamp (by omega), nI_clamp (by omega), nI_clamp (by omega), h2 k (by omega), h2 s hs, lZ_add, hse]
      refine ih (k + 1) _ (by omega) ⟨h1.1, fun f i j e1 e2 e3 => by rw [sL_n (by omega), sL_n (by omega)]; exact h1.2.1 f i j e1 e2 e3, h1.2.2⟩ (fun j hj => by rw [sL_n (by omega), sL_n (by omega)]; exact h2 j hj) (by rw [sL_n (by omega), sL_n (by omega)]; exact h3) (fun j hj => ?_)
      by_cases hjk : j = k
      · subst hjk
        rw [sL_n (by omega), sL_s, sL_s, show j % 62 = j from by omega]
        exact ⟨rfl, rfl⟩
      · rw [sL_n (by omega), sL_n (by omega), sL_n (by omega), sL_n (by omega)]
        exact h4 j (by omega)
    refine ⟨fun n => ?_, fun n => ?_⟩
    · have hne : k ≠ 61 := fun y => n (by rw [y]; rfl)
      rw [nI_1]
      exact key (k + 1) (by omega) (by omega)
    · have he : k = 61 := (nI_eq (by omega) (by decide)).mp n
      exact key 0 (by omega) (by omega)
theorem w_e {a b c s : Int} (h1 : -10980 ≤ a * c + b * s ∧ a * c + b * s ≤ 10980) (h2 : -10980 ≤ b * c - a * s ∧ b * c - a * s ≤ 10980) : ((iI a * iI c + iI b * iI s : Int32).toInt64 <<< ((32 : Int32).toInt64 &&& 63)) + (iI b * iI c - iI a * iI s : Int32).toInt64 = lZ ((a * c + b * s) * 4294967296 + (b * c - a * s)) := by
  rw [iI_mul, iI_mul, iI_mul, iI_mul, iI_add, iI_sub, iI_l (by omega) (by omega), iI_l (by omega) (by omega), lZ_shl, lZ_add]
theorem t10_turn_l {re im : Nat → Int} {p sh tu : Nat} (hp : p < 200) (hsh : sh < 15) (hbd : BdS re im) {X : Mem} (hs : SmX re im X) {Q : Mem → Prop} (h : ∀ Z, FT X Z → TX (WZ re im p sh tu) Z → Q Z) : ∀ (d k : Nat) (Z : Mem), k + d = 62 → FT X Z → (∀ j, j < k → Z.2.1 9 0 j = lZ (WZ re im p sh tu j)) → Z.2.1 5 0 9 = lZ (fb_si (WZ re im p sh tu) k) → b_X2_turnBack_14 Q (d + 1) (nI sh) (nI tu) (nI (62 * p)) (nI k) Z := by
  intro d
  induction d with
  | zero =>
    intro k Z hk h1 h2 h3
    have : k = 62 := by omega
    subst this
    exact ⟨fun _ => ⟨63, t10_pairs_l h 62 0 Z rfl h1 h2 h3 (fun j hj => absurd hj (by omega))⟩, fun z => absurd (by decide) z⟩
  | succ d ih =>
    intro k Z hk h1 h2 h3
    have ik : vp_in (nI k) 62 := vp_in_nI (by omega) (by omega)
    have hal := ang_lt sh tu (62 * p + k)
    obtain ⟨u1, u2⟩ := uv_b hbd p sh tu k (by omega)
    refine ⟨fun z => absurd z (by rw [show (62 : Int32) = nI 62 from rfl]; exact nI_ge (by omega) (by omega)), fun _ => ?_⟩
    have e12 : ((nI (angN sh tu (62 * p + k)) + 12) &&& 15 : Int32) = nI ((angN sh tu (62 * p + k) + 12) % 16) := by
      rw [show (12 : Int32) = nI 12 from rfl, nI_add, pk_andN (by omega) 4 (by decide)]
    rw [nI_add]
    refine t10_angle hsh (by omega) ⟨vp_in_nI hal (by omega), ?_⟩
    rw [e12, nI_clamp (n := angN sh tu (62 * p + k)) (by omega), nI_clamp (n := (angN sh tu (62 * p + k) + 12) % 16) (by omega), nI_clamp (n := k) (by omega), tab_e _ hal, tab_e _ (by omega)]
    rintro x14 rfl
    refine ⟨vp_in_nI (by omega) (by omega), ?_⟩
    rintro x16 rfl
    refine ⟨ik, ik, ?_⟩
    rw [h1.1, (hs k (by omega)).1, (hs k (by omega)).2]
    rintro x19 rfl
    refine ⟨ik, ik, ?_⟩
    rintro x22 rfl
    refine ⟨ik, ?_⟩
    rw [w_e u1 u2]
    rintro M23 rfl M24 rfl x25 rfl
    rw [nI_1, sL_n (by omega), h3, lZ_add]
    refine ih (k + 1) _ (by omega) ⟨h1.1, fun f i j e1 e2 e3 => by rw [sL_n (by omega), sL_n (by omega)]; exact h1.2.1 f i j e1 e2 e3, h1.2.2⟩ (fun j hj => ?_) (by rw [sL_s]; rfl)
    by_cases hjk : j = k
    · subst hjk
      rw [sL_n (by omega), sL_s]; rfl
    · rw [sL_n (by omega), sL_n (by omega)]; exact h2 j (by omega)
theorem t10_turn {re im : Nat → Int} {p sh tu : Nat} (hp : p < 200) (hsh : sh < 15) (hbd : BdS re im) {X : Mem} (hs : SmX re im X) {Q : Mem → Prop} (h : ∀ Z, FT X Z → TX (WZ re im p sh tu) Z → Q Z) : p_X2_turnBack (nI p) (nI sh) (nI tu) X Q := by
  rintro x1 rfl M2 rfl
  rw [show (62 : Int32) = nI 62 from rfl, pk_mul]
  exact ⟨63, t10_turn_l hp hsh hbd hs h 62 0 _ rfl ⟨rfl, fun f i k _ _ e3 => sL_n (fun z => e3 ⟨z.1, z.2.1, z.2.2⟩), rfl⟩ (fun j hj => absurd hj (by omega)) (by rw [sL_s]; rfl)⟩
/-! the class: sums -/
def siZ (T : Txt) (d st : Nat) (re im : Nat → Int) (p sh tu : Nat) : Int := smZ T d st (uZ re im p sh tu) / 64
def sqZ (T : Txt) (d st : Nat) (re im : Nat → Int) (p sh tu : Nat) : Int := smZ T d st (vZ re im p sh tu) / 64
def pwN (T : Txt) (d st : Nat) (re im : Nat → Int) (p sh tu : Nat) : Nat := (siZ T d st re im p sh tu * siZ T d st re im p sh tu + sqZ T d st re im p sh tu * sqZ T d st re im p sh tu).toNat
theorem si_b {T : Txt} {d st p sh tu : Nat} {re im : Nat → Int} (hb : BdS re im) : (-10637 ≤ siZ T d st re im p sh tu ∧ siZ T d st re im p sh tu ≤ 10637) ∧ -10637 ≤ sqZ T d st re im p sh tu ∧ sqZ T d st re im p sh tu ≤ 10637 := by
  have a := smZ_b (T := T) (d := d) (st := st) (fun k hk => (uv_b hb p sh tu k hk).1)
  have b := smZ_b (T := T) (d := d) (st := st) (fun k hk => (uv_b hb p sh tu k hk).2)
  unfold siZ sqZ
  omega
theorem sq_nn (x : Int) : 0 ≤ x * x := by
  rw [← Int.natAbs_mul_self]
  exact Int.natCast_nonneg _
theorem pw_e {T : Txt} {d st p sh tu : Nat} {re im : Nat → Int} (hb : BdS re im) : iI (siZ T d st re im p sh tu) * iI (siZ T d st re im p sh tu) + iI (sqZ T d st re im p sh tu) * iI (sqZ T d st re im p sh tu) = nI (pwN T d st re im p sh tu) ∧ pwN T d st re im p sh tu < 2 ^ 28 := by
  obtain ⟨b1, b2⟩ := si_b (T := T) (d := d) (st := st) (p := p) (sh := sh) (tu := tu) hb
  have c1 := mul_b b1 b1
  have c2 := mul_b b2 b2
  have p1 := sq_nn (siZ T d st re im p sh tu)
  have p2 := sq_nn (sqZ T d st re im p sh tu)
  unfold pwN
  refine ⟨?_, by omega⟩
  rw [iI_mul, iI_mul, iI_add, ← iI_n]
  congr 1
  omega
theorem si_W (re im : Nat → Int) (p sh tu : Nat) : ∀ n, fb_si (WZ re im p sh tu) n = fb_si (uZ re im p sh tu) n * 4294967296 + fb_si (vZ re im p sh tu) n
  | 0 => rfl
  | n + 1 => by
    rw [fb_si_succ, fb_si_succ, fb_si_succ, si_W re im p sh tu n]
    unfold WZ
    omega
theorem smZ_W (T : Txt) (d st : Nat) (re im : Nat → Int) (p sh tu : Nat) : smZ T d st (WZ re im p sh tu) = smZ T d st (uZ re im p sh tu) * 4294967296 + smZ T d st (vZ re im p sh tu) := by
  unfold smZ
  rw [Int.mul_comm _ 4294967296, ← fb_si_mul, ← fb_si_add]
  refine fb_si_cong (fun k _ => ?_)
  show _ * (uZ re im p sh tu k * 4294967296 + vZ re im p sh tu k) = _
  rw [Int.mul_add, Int.mul_comm (uZ re im p sh tu k), Int.mul_left_comm]
theorem t10_sum_l {T : Txt} {d st p sh tu : Nat} {re im : Nat → Int} (hst : st < 62) (hb : BdS re im) {X : Mem} {l : List Nat} (hM : MX l X) (hl : l.length ≤ 31) (hli : ∀ i ∈ l, i < 31) (hT : TX (WZ re im p sh tu) X) {Q : Mem → Prop} (hall : fb_si (WZ re im p sh tu) 62 - 2 * lsum (fun i => WZ re im p sh tu ((st + 2 * i) % 62) + WZ re im p sh tu ((st + 2 * i + 1) % 62)) l = smZ T d st (WZ re im p sh tu)) (h : Q (sI (sI X 5 0 2 (iI (siZ T d st re im p sh tu))) 5 0 3 (iI (sqZ T d st re im p sh tu)))) : ∀ (e j : Nat) (acc : Int), j + e = l.length → acc + lsum (fun i => WZ re im p sh tu ((st + 2 * i) % 62) + WZ re im p sh tu ((st + 2 * i + 1) % 62)) (l.drop j) = lsum (fun i => WZ re im p sh tu ((st + 2 * i) % 62) + WZ re im p sh tu ((st + 2 * i + 1) % 62)) l → b_X2_sumAt_26 Q (e + 1) (nI st) (lZ acc) (nI j) X := by
  intro e
  induction e with
  | zero =>
    intro j acc hj he
    have : j = l.length := by omega
    subst this
    rw [List.drop_length] at he
    have he2 : acc = lsum (fun i => WZ re im p sh tu ((st + 2 * i) % 62) + WZ re im p sh tu ((st + 2 * i + 1) % 62)) l := (Int.add_zero acc).symm.trans he
    refine ⟨fun _ => ?_, fun z => absurd (by rw [hM.1]; exact Int32.le_refl _) z⟩
    have bu := smZ_b (T := T) (d := d) (st := st) (fun k hk => (uv_b hb p sh tu k hk).1)
    have bv := smZ_b (T := T) (d := d) (st := st) (fun k hk => (uv_b hb p sh tu k hk).2)
    rintro x6 rfl x7 rfl
    rw [hT.1, show (2 : Int64) = lZ 2 from rfl, lZ_mul, lZ_sub, lZ_i, he2, hall, smZ_W, iI_hi, iI_l (by omega) (by omega), lZ_sub, show smZ T d st (uZ re im p sh tu) * 4294967296 + smZ T d st (vZ re im p sh tu) - smZ T d st (vZ re im p sh tu) = smZ T d st (uZ re im p sh tu) * 4294967296 from by omega, lZ_shr (by omega) (by omega), lZ_i, show smZ T d st (uZ re im p sh tu) * 4294967296 / 4294967296 = smZ T d st (uZ re im p sh tu) from by omega, iI_shr6 (by omega) (by omega), iI_shr6 (by omega) (by omega)]
    rintro M8 rfl M9 rfl
    exact h
  | succ e ih =>
    intro j acc hj he
    have hjl : j < l.length := by omega
    have hg : l[j]? = some l[j] := List.getElem?_eq_getElem hjl
    have hi31 := hli _ (List.getElem_mem hjl)
    refine ⟨fun z => absurd z (by rw [hM.1]; exact nI_ge (by omega) (by omega)), fun _ => ⟨vp_in_nI (by omega) (by omega), ?_⟩⟩
    rw [nI_clamp (by omega), hM.2 j _ hg, nI_add, nI_clamp (by omega), hT.2 _ (by omega), lZ_add]
    refine ⟨vp_in_nI (by omega) (by omega), ?_⟩
    rintro x12 rfl x13 rfl
    rw [nI_1]
    refine ih (j + 1) _ (by omega) ?_
    rw [List.drop_eq_getElem_cons hjl] at he
    rw [Int.add_assoc]
    exact he
theorem t10_sumAt {T : Txt} {d st p sh tu : Nat} {re im : Nat → Int} (hst : st < 62) (hb : BdS re im) {X : Mem} (hM : MX (zsL T d) X) (hT : TX (WZ re im p sh tu) X) {Q : Mem → Prop} (h : Q (sI (sI X 5 0 2 (iI (siZ T d st re im p sh tu))) 5 0 3 (iI (sqZ T d st re im p sh tu)))) : p_X2_sumAt (nI st) X Q := by
  have hl : (zsL T d).length ≤ 31 := by
    have := List.length_filter_le (fun i => !chipB T d i) (List.range 31)
    rwa [List.length_range] at this
  refine ⟨fun z => absurd z (nI_pos (by omega)), fun _ => ⟨fun _ => ⟨(zsL T d).length + 1, t10_sum_l hst hb hM hl (fun i hi => List.mem_range.mp (List.mem_filter.mp hi).1) hT ?_ h _ 0 0 (by omega) ?_⟩, fun z => absurd (by rw [show (62 : Int32) = nI 62 from rfl]; exact nI_lt hst (by omega)) z⟩⟩
  · rw [← smZ_l T d hst, ← lsum_fil]; rfl
  · rw [List.drop_zero, Int.zero_add]
/-! the reference -/
def SY (re im : Nat → Int) (Y : Mem) : Prop := ∀ k, k < 62 → Y.1 49 0 k = iI (re k) ∧ Y.1 50 0 k = iI (im k)
def UY (re im : Nat → Int) (p sh tu : Nat) (Y : Mem) : Prop := ∀ k, k < 62 → Y.1 51 0 k = iI (uZ re im p sh tu k) ∧ Y.1 52 0 k = iI (vZ re im p sh tu k)
def FU (Y Z : Mem) : Prop := (∀ a i j, a ≠ 51 → a ≠ 52 → Z.1 a i j = Y.1 a i j) ∧ Z.2 = Y.2
theorem t11_turns_l {re im : Nat → Int} {p sh tu : Nat} (hp : p < 200) (hsh : sh < 15) (htu : tu < 16) {Y : Mem} (htb : TbY Y) (hs : SY re im Y) {Q : Mem → Prop} (h : ∀ Z, FU Y Z → UY re im p sh tu Z → Q Z) : ∀ (d k : Nat) (Z : Mem), k + d = 62 → FU Y Z → (∀ j, j < k → Z.1 51 0 j = iI (uZ re im p sh tu j) ∧ Z.1 52 0 j = iI (vZ re im p sh tu j)) → b_X11_turnsBack_3 Q (d + 1) (nI p) (nI sh) (nI tu) (nI k) Z := by
  intro d
  induction d with
  | zero =>
    intro k Z hk h1 h2
    have : k = 62 := by omega
    subst this
    exact ⟨fun _ => h Z h1 h2, fun z => absurd (by decide) z⟩
  | succ d ih =>
    intro k Z hk h1 h2
    have ik : vp_in (nI k) 62 := vp_in_nI (by omega) (by omega)
    have tz : TbY Z := fun j hj => (h1.1 48 0 j (by decide) (by decide)).trans (htb j hj)
    have z49 := (h1.1 49 0 k (by decide) (by decide)).trans (hs k (by omega)).1
    have z50 := (h1.1 50 0 k (by decide) (by decide)).trans (hs k (by omega)).2
    refine ⟨fun z => absurd z (by rw [show (62 : Int32) = nI 62 from rfl]; exact nI_ge (by omega) (by omega)), fun _ => ?_⟩
    rw [show (62 : Int32) * nI p + nI k = nI (62 * p + k) from by rw [show (62 : Int32) = nI 62 from rfl, pk_mul, nI_add], nI_clamp (n := k) (by omega)]
    refine t11_angle hsh (by omega) ⟨ik, t11_cos hsh (by omega) htu tz ⟨ik, t11_sin hsh (by omega) htu tz ⟨ik, ?_⟩⟩⟩
    rw [z49, z50, iI_mul, iI_mul, iI_add]
    rintro M7 rfl
    refine ⟨ik, t11_cos hsh (by omega) htu (fun j hj => by rw [sI_n (by omega)]; exact tz j hj) ⟨ik, t11_sin hsh (by omega) htu (fun j hj => by rw [sI_n (by omega)]; exact tz j hj) ⟨ik, ?_⟩⟩⟩
    rw [sI_n (by omega), sI_n (by omega), z49, z50, iI_mul, iI_mul, iI_sub]
    rintro M12 rfl x13 rfl
    rw [nI_1]
    refine ih (k + 1) _ (by omega) ⟨fun a i j e1 e2 => by rw [sI_n (by omega), sI_n (by omega)]; exact h1.1 a i j e1 e2, h1.2⟩ (fun j hj => ?_)
    by_cases hjk : j = k
    · subst hjk
      rw [sI_n (by omega), sI_s, sI_s]; exact ⟨rfl, rfl⟩
    · rw [sI_n (by omega), sI_n (by omega), sI_n (by omega)]; exact h2 j (by omega)
theorem t11_turns {re im : Nat → Int} {p sh tu : Nat} (hp : p < 200) (hsh : sh < 15) (htu : tu < 16) {Y : Mem} (htb : TbY Y) (hs : SY re im Y) {Q : Mem → Prop} (h : ∀ Z, FU Y Z → UY re im p sh tu Z → Q Z) : p_X11_turnsBack (nI p) (nI sh) (nI tu) Y Q :=
  ⟨63, t11_turns_l hp hsh htu htb hs h 62 0 Y rfl ⟨fun _ _ _ _ _ => rfl, rfl⟩ (fun j hj => absurd hj (by omega))⟩
theorem t11_pow_l {T : Txt} {b st p sh tu : Nat} {re im : Nat → Int} (h1 : TB T) (hb : b < T 0 0) (hst : st < 62) (hbd : BdS re im) {Y : Mem} (h5 : TYr T Y) (hu : UY re im p sh tu Y) {Q : Int32 → Mem → Prop} (h : Q (nI (pwN T (T (1 + b) 1) st re im p sh tu)) (sI (sI Y 40 0 29 (iI (siZ T (T (1 + b) 1) st re im p sh tu))) 40 0 30 (iI (sqZ T (T (1 + b) 1) st re im p sh tu)))) : ∀ (d k : Nat), k + d = 62 → b_X11_powerBy_8 Q (d + 1) (nI b) (nI st) (iI (fb_si (fun k => chZ T (T (1 + b) 1) (((((k : Nat) : Int) - (st : Nat)) % 62).toNat / 2) * uZ re im p sh tu k) k)) (iI (fb_si (fun k => chZ T (T (1 + b) 1) (((((k : Nat) : Int) - (st : Nat)) % 62).toNat / 2) * vZ re im p sh tu k) k)) (nI k) Y := by
  have hnb := h1.1
  obtain ⟨-, td, -⟩ := h1.2.2.2.2.2.2.2.2.2.2.2.2.1 b hb
  intro d
  induction d with
  | zero =>
    intro k hk
    have : k = 62 := by omega
    subst this
    have bu := smZ_b (T := T) (d := T (1 + b) 1) (st := st) (fun k hk => (uv_b hbd p sh tu k hk).1)
    have bv := smZ_b (T := T) (d := T (1 + b) 1) (st := st) (fun k hk => (uv_b hbd p sh tu k hk).2)
    refine ⟨fun _ => ?_, fun z => absurd (by decide) z⟩
    show b_X11_powerBy_72 Q (iI (smZ T (T (1 + b) 1) st (uZ re im p sh tu))) (iI (smZ T (T (1 + b) 1) st (vZ re im p sh tu))) Y
    refine t11_qu (m := 64) (by decide) (by decide) (by rw [iI_t (by omega) (by omega)]; omega) ?_
    rintro M3 rfl
    refine t11_qu (m := 64) (by decide) (by decide) (by rw [iI_t (by omega) (by omega)]; omega) ?_
    rintro M5 rfl
    rw [iI_t (by omega) (by omega), iI_t (by omega) (by omega)]
    have e1 : Int32.ofInt (smZ T (T (1 + b) 1) st (uZ re im p sh tu) / ((64 : Nat) : Int)) = iI (siZ T (T (1 + b) 1) st re im p sh tu) := rfl
    have e2 : Int32.ofInt (smZ T (T (1 + b) 1) st (vZ re im p sh tu) / ((64 : Nat) : Int)) = iI (sqZ T (T (1 + b) 1) st re im p sh tu) := rfl
    rw [e1, e2, sI_n (by omega), sI_s, sI_s, (pw_e hbd).1]
    exact h
  | succ d ih =>
    intro k hk
    have ik : vp_in (nI k) 62 := vp_in_nI (by omega) (by omega)
    refine ⟨fun z => absurd z (by rw [show (62 : Int32) = nI 62 from rfl]; exact nI_ge (by omega) (by omega)), fun _ => ?_⟩
    refine t11_birdOf (k := 1) (by omega) (by decide) (by omega) ?_
    rw [h5.2.2.1 b 1 hb (by decide), err_e (by omega) (by omega)]
    refine t11_re (m := 62) (by decide) (by decide) ?_
    rw [iI_t (by omega) (by omega)]
    have e1 : Int32.ofInt ((((k : Nat) : Int) - (st : Nat)) % ((62 : Nat) : Int)) = nI ((((k : Nat) : Int) - (st : Nat)) % 62).toNat := by
      rw [← iI_n]; show iI _ = iI _; congr 1; omega
    have e2 : (nI ((((k : Nat) : Int) - (st : Nat)) % 62).toNat / 2 : Int32) = nI (((((k : Nat) : Int) - (st : Nat)) % 62).toNat / 2) := pk_div (d := 2) (by omega) (by decide) (by decide)
    rw [e1, e2]
    refine t11_chipBy td (by omega) h5 ⟨ik, ?_⟩
    have e3 : (if chipB T (T (1 + b) 1) (((((k : Nat) : Int) - (st : Nat)) % 62).toNat / 2) = true then (1 : Int32) else -1) = iI (chZ T (T (1 + b) 1) (((((k : Nat) : Int) - (st : Nat)) % 62).toNat / 2)) := by
      unfold chZ
      cases chipB T (T (1 + b) 1) (((((k : Nat) : Int) - (st : Nat)) % 62).toNat / 2) <;> rfl
    rw [e3, nI_clamp (by omega), (hu k (by omega)).1, (hu k (by omega)).2, iI_mul, iI_mul, iI_add, iI_add]
    rintro x10 rfl
    refine ⟨ik, ?_⟩
    rintro x12 rfl x13 rfl
    rw [nI_1]
    exact ih (k + 1) (by omega)
theorem t11_pow {T : Txt} {b st p sh tu : Nat} {re im : Nat → Int} (h1 : TB T) (hb : b < T 0 0) (hst : st < 62) (hbd : BdS re im) {Y : Mem} (h5 : TYr T Y) (hu : UY re im p sh tu Y) {Q : Int32 → Mem → Prop} (h : Q (nI (pwN T (T (1 + b) 1) st re im p sh tu)) (sI (sI Y 40 0 29 (iI (siZ T (T (1 + b) 1) st re im p sh tu))) 40 0 30 (iI (sqZ T (T (1 + b) 1) st re im p sh tu)))) : p_X11_powerBy (nI b) (nI st) Y Q :=
  ⟨63, t11_pow_l h1 hb hst hbd h5 hu h 62 0 rfl⟩
