/-! samples on both sides: angles, birds, noise; op 10 -/
theorem iI_n (n : Nat) : iI (n : Int) = nI n := Int32.toBitVec_inj.1 (BitVec.ofInt_natCast 32 n)
theorem iI_add (a b : Int) : iI a + iI b = iI (a + b) := (Int32.ofInt_add a b).symm
theorem iI_sub (a b : Int) : iI a - iI b = iI (a - b) := (Int32.ofInt_sub a b).symm
theorem iI_mul (a b : Int) : iI a * iI b = iI (a * b) := (Int32.ofInt_mul a b).symm
theorem iI_neg (a : Int) : -(iI a) = iI (-a) := (Int32.ofInt_neg a).symm
theorem iI_t {z : Int} (h1 : -2147483648 ≤ z) (h2 : z < 2147483648) : (iI z).toInt = z := fb_ofI h1 h2
theorem nN_t {n : Nat} (h : n < 2 ^ 31) : (nI n).toInt = n := nI_toInt h
theorem iI_and {z : Int} (k : Nat) {m : Int32} (hm : m.toBitVec.toNat = 2 ^ k - 1) (hk : k ≤ 32) : (iI z &&& m) = nI ((z % (2 ^ k : Nat)).toNat) := by
  rw [pk_and (iI z) k hm]
  congr 1
  have e : (iI z).toBitVec.toNat = (z % (2 ^ 32 : Nat)).toNat := by
    show (BitVec.ofInt 32 z).toNat = _
    rw [BitVec.toNat_ofInt]
  have h32 : ((2 ^ 32 : Nat) : Int) = ((2 ^ k : Nat) : Int) * ((2 ^ (32 - k) : Nat) : Int) := by
    rw [← Int.natCast_mul, ← Nat.pow_add, Nat.add_sub_cancel' hk]
  have hz : 0 ≤ z % ((2 ^ 32 : Nat) : Int) := Int.emod_nonneg _ (by decide)
  have h1 : ((z % ((2 ^ 32 : Nat) : Int)).toNat : Int) = z % ((2 ^ 32 : Nat) : Int) := Int.toNat_of_nonneg hz
  have h2 : (z % ((2 ^ 32 : Nat) : Int)) % ((2 ^ k : Nat) : Int) = z % ((2 ^ k : Nat) : Int) := Int.emod_emod_of_dvd _ ⟨_, h32⟩
  rw [e]
  have : (((z % ((2 ^ 32 : Nat) : Int)).toNat % 2 ^ k : Nat) : Int) = z % ((2 ^ k : Nat) : Int) := by
    rw [Int.natCast_emod, h1, h2]
  omega
/-! angles -/
def angZ (sh n : Nat) : Int := (((sh : Int) - 7) * n) / 8
theorem ang_e (sh tu n : Nat) : ((angZ sh n + tu) % 16).toNat = angN sh tu n := rfl
theorem ang_lt (sh tu n : Nat) : angN sh tu n < 16 := by unfold angN; omega
theorem ang_s (sh tu n : Nat) : ((angZ sh n + tu + 12) % 16).toNat = (angN sh tu n + 12) % 16 := by
  rw [← ang_e]; omega
theorem ang_bd {sh n : Nat} (hs : sh < 15) (hn : n < 12500) : -100000 ≤ ((sh : Int) - 7) * n ∧ ((sh : Int) - 7) * n ≤ 100000 := by
  have h1 : ((sh : Int) - 7) ≤ 7 := by omega
  have h2 : -7 ≤ ((sh : Int) - 7) := by omega
  have h3 : ((sh : Int) - 7) * n ≤ 7 * n := Int.mul_le_mul_of_nonneg_right h1 (by omega)
  have h4 : (-7 : Int) * n ≤ ((sh : Int) - 7) * n := Int.mul_le_mul_of_nonneg_right h2 (by omega)
  omega
theorem t10_angle {sh tu n : Nat} (hs : sh < 15) (hn : n < 12500) {M : Mem} {Q : Int32 → Mem → Prop} (h : Q (nI (angN sh tu n)) M) : p_X2_angleOf (nI n) (nI sh) (nI tu) M Q := by
  unfold p_X2_angleOf
  obtain ⟨b1, b2⟩ := ang_bd hs hn
  have e1 : (nI sh - 7) * nI n = iI (((sh : Int) - 7) * n) := by
    rw [← iI_n, ← iI_n, show (7 : Int32) = iI 7 from rfl, iI_sub, iI_mul]
  have e2 : (iI (((sh : Int) - 7) * n) >>> (3 &&& 31) : Int32) = iI (angZ sh n) := by
    refine fq_of ?_
    rw [pk_shr _ (3 &&& 31) 3 (by decide), iI_t (by omega) (by omega), Int.shiftRight_eq_div_pow]
    rfl
  rw [e1, e2, ← iI_n tu, iI_add, iI_and 4 (by decide) (by decide)]
  exact h
theorem t11_angle {sh tu n : Nat} (hs : sh < 15) (hn : n < 12500) {M : Mem} {Q : Int32 → Mem → Prop} (h : Q (iI (angZ sh n + tu)) M) : p_X11_angleOf (nI sh) (nI tu) (nI n) M Q := by
  obtain ⟨b1, b2⟩ := ang_bd hs hn
  have e1 : (nI sh - 7) * nI n = iI (((sh : Int) - 7) * n) := by
    rw [← iI_n, ← iI_n, show (7 : Int32) = iI 7 from rfl, iI_sub, iI_mul]
  unfold p_X11_angleOf
  rw [e1]
  refine t11_qu (m := 8) (by decide) (by decide) (by rw [iI_t (by omega) (by omega)]; omega) ?_
  rw [iI_t (by omega) (by omega), ← iI_n tu]
  show Q (iI _ + iI _) M
  rw [iI_add]
  exact h
theorem tab_e : ∀ a, a < 16 → stab 4 a = iI (tabZ a) := by decide +kernel
theorem tab_b : ∀ a, a < 16 → -10 ≤ tabZ a ∧ tabZ a ≤ 10 := by decide +kernel
theorem ang_zb {sh n tu : Nat} (hs : sh < 15) (hn : n < 12500) (ht : tu < 16) : -20000 ≤ angZ sh n + tu ∧ angZ sh n + tu ≤ 20000 := by
  obtain ⟨b1, b2⟩ := ang_bd hs hn
  unfold angZ; omega
theorem t11_tab {z : Int} {Y : Mem} (htb : ∀ k, k < 16 → Y.1 48 0 k = stab 4 k) {Q : Int32 → Mem → Prop} (h : Q (iI (tabZ ((z % 16).toNat))) Y) : vp_in (iI (z % 16)) 16 ∧ Q (Y.1 48 0 (iI (z % 16)).toNatClampNeg) Y := by
  have e : iI (z % 16) = nI ((z % 16).toNat) := by rw [← iI_n]; congr 1; omega
  rw [e, nI_clamp (by omega), htb _ (by omega), tab_e _ (by omega)]
  exact ⟨vp_in_nI (by omega) (by omega), h⟩
theorem t11_cos {sh n tu : Nat} (hs : sh < 15) (hn : n < 12500) (ht : tu < 16) {Y : Mem} (htb : ∀ k, k < 16 → Y.1 48 0 k = stab 4 k) {Q : Int32 → Mem → Prop} (h : Q (iI (tabZ (angN sh tu n))) Y) : p_X11_cosOf (iI (angZ sh n + tu)) Y Q := by
  obtain ⟨b1, b2⟩ := ang_zb hs hn ht
  refine t11_re (m := 16) (by decide) (by decide) ?_
  rw [iI_t (by omega) (by omega)]
  exact t11_tab htb h
theorem t11_sin {sh n tu : Nat} (hs : sh < 15) (hn : n < 12500) (ht : tu < 16) {Y : Mem} (htb : ∀ k, k < 16 → Y.1 48 0 k = stab 4 k) {Q : Int32 → Mem → Prop} (h : Q (iI (tabZ ((angN sh tu n + 12) % 16))) Y) : p_X11_sinOf (iI (angZ sh n + tu)) Y Q := by
  obtain ⟨b1, b2⟩ := ang_zb hs hn ht
  unfold p_X11_sinOf
  rw [show (12 : Int32) = iI 12 from rfl, iI_add]
  refine t11_re (m := 16) (by decide) (by decide) ?_
  rw [iI_t (by omega) (by omega)]
  refine t11_tab htb ?_
  rw [ang_s]
  exact h
/-! bits by a number that may be below 0 -/
theorem t10_bitZ {T : Txt} {b q : Nat} {z : Int} (h1 : TB T) (hb : b < T 0 0) (h2 : z < 2 ^ 30) (h3 : -1000000 < z) {X : Mem} (hB : BX T b q X) {Q : Int32 → Mem → Prop} (h : Q (bitV (bitN T b z)) X) : p_X0_bitAt q (iI z) X Q := by
  rcases Int.lt_or_le z 0 with y | y
  · have hn : iI z < 0 := by rw [Int32.lt_iff_toInt_lt, iI_t (by omega) (by omega)]; exact y
    refine ⟨fun _ => ?_, fun n => absurd hn n⟩
    have e : bitN T b z = false := by unfold bitN; rw [if_pos (Or.inl y)]
    rw [e] at h
    exact h
  · obtain ⟨j, rfl⟩ := Int.eq_ofNat_of_zero_le y
    rw [show iI ((j : Nat) : Int) = nI j from iI_n j]
    exact t10_bitAt h1 hb (by omega) hB h
theorem t11_bitZ {T : Txt} {b : Nat} {z : Int} (h1 : TB T) (hb : b < T 0 0) (h2 : z < 2 ^ 30) (h3 : -1000000 < z) {Y : Mem} (h5 : TYr T Y) {Q : Int32 → Mem → Prop} (h : Q (bitV (bitN T b z)) Y) : p_X11_sentBit (nI b) (iI z) Y Q := by
  have hnb := h1.1
  rcases Int.lt_or_le z 0 with y | y
  · have hn : iI z < 0 := by rw [Int32.lt_iff_toInt_lt, iI_t (by omega) (by omega)]; exact y
    refine t11_birdOf (k := 9) (by omega) (by decide) (by omega) ⟨fun _ => ?_, fun n => absurd hn n⟩
    have e : bitN T b z = false := by unfold bitN; rw [if_pos (Or.inl y)]
    rw [e] at h
    exact h
  · obtain ⟨j, rfl⟩ := Int.eq_ofNat_of_zero_le y
    rw [show iI ((j : Nat) : Int) = nI j from iI_n j]
    exact t11_sentBit h1 hb (by omega) h5 h
/-! frames of the ear -/
def EX (X Z : Mem) : Prop := (∀ f i k, (f < 5 ∨ 12 < f) → Z.1 f i k = X.1 f i k) ∧ (∀ f i k, (f < 5 ∨ 12 < f) → Z.2.1 f i k = X.2.1 f i k) ∧ Z.2.2 = X.2.2
theorem EX.rf (X : Mem) : EX X X := ⟨fun _ _ _ _ => rfl, fun _ _ _ _ => rfl, rfl⟩
theorem EX.tr {X Z V : Mem} (h : EX X Z) (h2 : EX Z V) : EX X V := ⟨fun f i k e => (h2.1 f i k e).trans (h.1 f i k e), fun f i k e => (h2.2.1 f i k e).trans (h.2.1 f i k e), h2.2.2.trans h.2.2⟩
theorem EX.set {X : Mem} {f i k : Nat} {v : Int32} (h5 : 5 ≤ f) (h12 : f ≤ 12) : EX X (sI X f i k v) := ⟨fun _ _ _ e => sI_n (by omega), fun _ _ _ _ => rfl, rfl⟩
theorem EX.ag {X Z : Mem} (h : EX X Z) : AgX X Z := by
  refine ⟨fun f i k e => h.1 f i k ?_, fun i _ => h.2.1 30 i 8 (by omega), fun k => congrFun (congrFun (congrFun h.2.2 0) 0) k⟩
  unfold kX at e
  split at e <;> first | omega | exact absurd e (by decide)
/-- of the reference's: samples, what is turned back, sums, powers -/
def EY (Y Z : Mem) : Prop := ∀ f i k, (f < 49 ∨ 53 < f) → ¬ (f = 40 ∧ (k = 29 ∨ k = 30 ∨ k = 32)) → Z.1 f i k = Y.1 f i k
theorem EY.rf (Y : Mem) : EY Y Y := fun _ _ _ _ _ => rfl
theorem EY.tr {Y Z V : Mem} (h : EY Y Z) (h2 : EY Z V) : EY Y V := fun f i k e g => (h2 f i k e g).trans (h f i k e g)
theorem EY.set {Y : Mem} {f i k : Nat} {v : Int32} (h : (49 ≤ f ∧ f ≤ 53) ∨ (f = 40 ∧ (k = 29 ∨ k = 30 ∨ k = 32))) : EY Y (sI Y f i k v) := fun f' i' k' e g => sI_n (fun z => by
  obtain ⟨rfl, rfl, rfl⟩ := z
  omega)
theorem EY.setL {Y : Mem} {f i k : Nat} {v : Int64} : EY Y (sL Y f i k v) := fun _ _ _ _ _ => rfl
theorem EY.ag {Y Z : Mem} (h : EY Y Z) : AgY Y Z := by
  intro f k e
  refine h f 0 k ?_ ?_
  · unfold kY at e
    split at e <;> first | omega | exact absurd e (by decide)
  · rintro ⟨rfl, rfl | rfl | rfl⟩ <;> exact absurd e (by decide)
/-! the class's samples of a bird -/
def AR (X Z : Mem) (g h : Nat → Int) (k : Nat) : Prop := Z.2 = X.2 ∧ (∀ f i j, f ≠ 6 → f ≠ 7 → Z.1 f i j = X.1 f i j) ∧ ∀ j, j < 62 → Z.1 6 0 j = X.1 6 0 j + iI (if j < k then g j else 0) ∧ Z.1 7 0 j = X.1 7 0 j + iI (if j < k then h j else 0)
theorem AR.rf (X : Mem) (g h : Nat → Int) : AR X X g h 0 := ⟨rfl, fun _ _ _ _ _ => rfl, fun j _ => by
  rw [if_neg (Nat.not_lt_zero j), if_neg (Nat.not_lt_zero j)]
  exact ⟨(Int32.add_zero _).symm, (Int32.add_zero _).symm⟩⟩
theorem AR.step {X Z : Mem} {g h : Nat → Int} {k : Nat} (hk : k < 62) (H : AR X Z g h k) {a b : Int32} (ha : a = Z.1 6 0 k + iI (g k)) (hb : b = Z.1 7 0 k + iI (h k)) : AR X (sI (sI Z 6 0 k a) 7 0 k b) g h (k + 1) := by
  obtain ⟨h1, h2, h3⟩ := H
  refine ⟨h1, fun f i j e1 e2 => by rw [sI_n (by omega), sI_n (by omega)]; exact h2 f i j e1 e2, fun j hj => ?_⟩
  obtain ⟨q1, q2⟩ := h3 j hj
  by_cases hjk : j = k
  · subst hjk
    rw [if_neg (Nat.lt_irrefl j)] at q1 q2
    have z0 : iI 0 = 0 := rfl
    rw [z0, Int32.add_zero] at q1 q2
    rw [sI_n (by omega), sI_s, sI_s, if_pos (by omega), if_pos (by omega), ha, hb, q1, q2]
    exact ⟨rfl, rfl⟩
  · rw [sI_n (by omega), sI_n (by omega), sI_n (by omega), sI_n (by omega), q1, q2]
    by_cases hlt : j < k
    · rw [if_pos hlt, if_pos hlt, if_pos (by omega), if_pos (by omega)]; exact ⟨rfl, rfl⟩
    · rw [if_neg hlt, if_neg hlt, if_neg (by omega), if_neg (by omega)]; exact ⟨rfl, rfl⟩
def gRe (T : Txt) (b p k : Nat) : Int := byZ T b p (62 * p + k) * tabZ (angN (T (1 + b) 4) (T (1 + b) 5) (62 * p + k))
def gIm (T : Txt) (b p k : Nat) : Int := byZ T b p (62 * p + k) * tabZ ((angN (T (1 + b) 4) (T (1 + b) 5) (62 * p + k) + 12) % 16)
theorem AR.bx {T : Txt} {b q : Nat} {X Z : Mem} {g h : Nat → Int} {k : Nat} (H : AR X Z g h k) (hB : BX T b q X) : BX T b q Z :=
  hB.ag ⟨fun f i k e => H.2.1 f i k (by rintro rfl; exact Bool.false_ne_true e) (by rintro rfl; exact Bool.false_ne_true e), fun k => by rw [H.1]⟩
/-- strength with its sign -/
theorem sg_e {S : Nat} {c d : Bool} : (if c = d then -(nI S) else nI S) = iI ((S : Int) * (if c then 1 else -1) * (if d then -1 else 1)) := by
  rw [← iI_n]
  cases c <;> cases d
  · rw [if_pos rfl, iI_neg]; congr 1; simp
  · rw [if_neg (by decide)]; congr 1; simp
  · rw [if_neg (by decide)]; congr 1; simp
  · rw [if_pos rfl, iI_neg]; congr 1; simp
theorem t10_bird_l {T : Txt} {b q p : Nat} (h1 : TB T) (hb : b < T 0 0) (hp : p < 200) (hh : T (1 + b) 2 = 1) {X : Mem} (hB : BX T b q X) (hC : CodeX T b q X) {Q : Mem → Prop} (h : ∀ Z, AR X Z (gRe T b p) (gIm T b p) 62 → Q Z) : ∀ (d k : Nat) (Z : Mem), k + d = 62 → AR X Z (gRe T b p) (gIm T b p) k → b_X2_addBird_45 Q (d + 1) q (nI (62 * p)) (iI ((((62 * p + k : Nat) : Int) - (startN T b p : Nat)) / 62)) (nI ((((62 * p + k : Nat) : Int) - (startN T b p : Nat)) % 62).toNat) (bitV (bitN T b ((((62 * p + k : Nat) : Int) - (startN T b p : Nat)) / 62))) (nI k) Z := by
  have hst := startN_lt h1 hb (p := p) (by omega)
  obtain ⟨-, td, -, -, tsh, ttu, tst, -⟩ := h1.2.2.2.2.2.2.2.2.2.2.2.2.1 b hb
  have hB' := hB
  obtain ⟨-, -, xst, xx, -⟩ := hB
  obtain ⟨-, xsh, xtu⟩ := xx hh
  obtain ⟨cv, hcv, xcv, hbit⟩ := hC
  intro d
  induction d with
  | zero =>
    intro k Z hk hZ
    have : k = 62 := by omega
    subst this
    exact ⟨fun _ => h Z hZ, fun z => absurd (by decide) z⟩
  | succ d ih =>
    intro k Z hk hZ
    have o := fun i j => hZ.2.1 25 i j (by decide) (by decide)
    refine ⟨fun z => absurd z (by rw [show (62 : Int32) = nI 62 from rfl]; exact nI_ge (by omega) (by omega)), fun _ => ?_⟩
    rw [o, o, xsh, xtu, nI_add]
    refine t10_angle tsh (by omega) ?_
    generalize hm : (((62 * p + k : Nat) : Int) - (startN T b p : Nat)) = m
    have hm1 : ((62 * p + (k + 1) : Nat) : Int) - (startN T b p : Nat) = m + 1 := by omega
    have hplt : (m % 62).toNat < 62 := by omega
    have e2 : (nI (m % 62).toNat / 2 : Int32) = nI ((m % 62).toNat / 2) := pk_div (d := 2) (by omega) (by decide) (by decide)
    have key : ∀ s0 : Int32, s0 = iI (byZ T b p (62 * p + k)) → b_X2_addBird_97 Q (fun v1 v3 v4 v5 v6 v7 M => b_X2_addBird_45 Q (d + 1) v1 v3 v4 v5 v6 v7 M) q (nI (62 * p)) (iI (m / 62)) (nI (m % 62).toNat) (bitV (bitN T b (m / 62))) (nI k) (nI (angN (T (1 + b) 4) (T (1 + b) 5) (62 * p + k))) s0 Z := by
      rintro s0 rfl
      have hal := ang_lt (T (1 + b) 4) (T (1 + b) 5) (62 * p + k)
      have ik : vp_in (nI k) 62 := vp_in_nI (by omega) (by omega)
      unfold b_X2_addBird_97
      rw [nI_clamp (by omega), nI_clamp (by omega), show (12 : Int32) = nI 12 from rfl, nI_add, pk_andN (by omega) 4 (by decide), show (2 : Nat) ^ 4 = 16 from rfl, nI_clamp (by omega), tab_e _ hal, tab_e _ (by omega), iI_mul, iI_mul]
      refine ⟨ik, vp_in_nI hal (by omega), ik, ?_⟩
      rintro M12 rfl
      refine ⟨ik, vp_in_nI (by omega) (by omega), ik, ?_⟩
      rintro M15 rfl
      have hZ' := hZ.step (a := Z.1 6 0 k + iI (gRe T b p k)) (b := (sI Z 6 0 k (Z.1 6 0 k + iI (gRe T b p k))).1 7 0 k + iI (gIm T b p k)) (by omega) rfl (by rw [sI_n (by omega)])
      have go := ih (k + 1) _ (by omega) hZ'
      rw [hm1] at go
      rintro x16 rfl
      rw [nI_1]
      refine ⟨fun n => ?_, fun n => ?_⟩
      · have hne : (m % 62).toNat + 1 ≠ 62 := fun y => n (by rw [y]; rfl)
        rintro x18 rfl
        rw [nI_1]
        rw [show (m + 1) / 62 = m / 62 from by omega, show ((m + 1) % 62).toNat = (m % 62).toNat + 1 from by omega] at go
        exact go
      · have he : (m % 62).toNat + 1 = 62 := (nI_eq (by omega) (by decide)).mp n
        rintro x19 rfl
        rw [show (1 : Int32) = iI 1 from rfl, iI_add]
        refine t10_bitZ h1 hb (by omega) (by omega) (hZ'.bx hB') ?_
        rintro x18 rfl
        rw [nI_1]
        rw [show (m + 1) / 62 = m / 62 + 1 from by omega, show ((m + 1) % 62).toNat = 0 from by omega] at go
        exact go
    have hby : byZ T b p (62 * p + k) = (T (1 + b) 6 : Int) * (if chipB T (T (1 + b) 1) ((m % 62).toNat / 2) then 1 else -1) * (if bitN T b (m / 62) then -1 else 1) := by
      unfold byZ
      rw [hm]
    rw [o, xcv, e2, ush_bit hcv (by omega), hbit _ (by omega), o, xst]
    have hs := @sg_e (T (1 + b) 6) (chipB T (T (1 + b) 1) ((m % 62).toNat / 2)) (bitN T b (m / 62))
    have hcd : ((if chipB T (T (1 + b) 1) ((m % 62).toNat / 2) = true then (1 : Int32) else 0) = bitV (bitN T b (m / 62))) ↔ chipB T (T (1 + b) 1) ((m % 62).toNat / 2) = bitN T b (m / 62) := by
      cases chipB T (T (1 + b) 1) ((m % 62).toNat / 2) <;> cases bitN T b (m / 62) <;> decide
    rw [hcd]
    refine ⟨fun n => key _ ?_, fun n => key _ ?_⟩
    · rw [if_neg n] at hs; rw [hby]; exact hs
    · rw [if_pos n] at hs; rw [hby]; exact hs
theorem t10_addBird {T : Txt} {b q p : Nat} (h1 : TB T) (hb : b < T 0 0) (hp : p < 200) (hh : T (1 + b) 2 = 1) {X : Mem} (hB : BX T b q X) (hC : CodeX T b q X) {Q : Mem → Prop} (h : ∀ Z, AR X Z (gRe T b p) (gIm T b p) 62 → Q Z) : p_X2_addBird q (nI p) X Q := by
  have hst := startN_lt h1 hb (p := p) (by omega)
  rintro x1 rfl
  rw [show (62 : Int32) = nI 62 from rfl, pk_mul]
  refine t10_startIn h1 hb (by omega) hB hh ?_
  rw [err_e (by omega) (by omega)]
  refine t10_fl (m := 62) (by decide) (by decide) ?_
  rw [iI_t (by omega) (by omega)]
  refine t10_startIn h1 hb (by omega) hB hh ?_
  rintro x5 rfl
  have e5 : (nI (62 * p) - nI (startN T b p)) - nI 62 * Int32.ofInt ((((62 * p : Nat) : Int) - (startN T b p : Nat)) / ((62 : Nat) : Int)) = nI ((((62 * p : Nat) : Int) - (startN T b p : Nat)) % 62).toNat := by
    rw [err_e (by omega) (by omega), ← iI_n 62]
    show _ - iI _ * iI _ = _
    rw [iI_mul, iI_sub, ← iI_n]
    congr 1
    omega
  rw [e5]
  refine t10_bitZ (z := (((62 * p : Nat) : Int) - (startN T b p : Nat)) / ((62 : Nat) : Int)) h1 hb (by omega) (by omega) hB ?_
  exact ⟨63, t10_bird_l h1 hb hp hh hB hC h 62 0 X rfl (AR.rf X _ _)⟩
/-! hearing as told otherwise -/
def oI : Option Nat → Int32
  | none => -1
  | some b => nI b
def fRe (T : Txt) (p : Nat) (only : Option Nat) (n j : Nat) : Int := sumB (fun b => if loudB T only b p then gRe T b p j else 0) n
def fIm (T : Txt) (p : Nat) (only : Option Nat) (n j : Nat) : Int := sumB (fun b => if loudB T only b p then gIm T b p j else 0) n
theorem fRe_0 {T : Txt} {p b : Nat} {only : Option Nat} (h : loudB T only b p = false) : fRe T p only (b + 1) = fRe T p only b ∧ fIm T p only (b + 1) = fIm T p only b := by
  constructor <;> funext j
  · show fRe T p only b j + (if loudB T only b p then gRe T b p j else 0) = _
    rw [h]; exact Int.add_zero _
  · show fIm T p only b j + (if loudB T only b p then gIm T b p j else 0) = _
    rw [h]; exact Int.add_zero _
theorem fRe_1 {T : Txt} {p b : Nat} {only : Option Nat} (h : loudB T only b p = true) : (∀ j, fRe T p only (b + 1) j = fRe T p only b j + gRe T b p j) ∧ ∀ j, fIm T p only (b + 1) j = fIm T p only b j + gIm T b p j := by
  constructor <;> intro j
  · show fRe T p only b j + (if loudB T only b p then gRe T b p j else 0) = _
    rw [h]; rfl
  · show fIm T p only b j + (if loudB T only b p then gIm T b p j else 0) = _
    rw [h]; rfl
def HS (X Z : Mem) (f g : Nat → Int) : Prop := Z.2 = X.2 ∧ (∀ a i j, a ≠ 6 → a ≠ 7 → ¬ (a = 5 ∧ j = 4) → Z.1 a i j = X.1 a i j) ∧ Z.1 5 0 4 = -1 ∧ ∀ j, j < 62 → Z.1 6 0 j = iI (f j) ∧ Z.1 7 0 j = iI (g j)
theorem HS.add {X Z V : Mem} {f g f2 g2 f3 g3 : Nat → Int} (H : HS X Z f g) (A : AR Z V f2 g2 62) (e1 : ∀ j, j < 62 → f3 j = f j + f2 j) (e2 : ∀ j, j < 62 → g3 j = g j + g2 j) : HS X V f3 g3 := by
  obtain ⟨a1, a2, a3, a4⟩ := H
  obtain ⟨b1, b2, b3⟩ := A
  refine ⟨b1.trans a1, fun a i j c1 c2 c3 => (b2 a i j c1 c2).trans (a2 a i j c1 c2 c3), (b2 5 0 4 (by decide) (by decide)).trans a3, fun j hj => ?_⟩
  obtain ⟨q1, q2⟩ := b3 j hj
  obtain ⟨q3, q4⟩ := a4 j hj
  rw [q1, q2, q3, q4, if_pos hj, if_pos hj, iI_add, iI_add, e1 j hj, e2 j hj]
  exact ⟨rfl, rfl⟩
theorem HS.xt {X Z : Mem} {f g : Nat → Int} (H : HS X Z f g) : AgXt X Z := by
  refine ⟨fun a i k e => H.2.1 a i k ?_ ?_ ?_, fun k => by rw [H.1]⟩
  · rintro rfl; exact Bool.false_ne_true e
  · rintro rfl; exact Bool.false_ne_true e
  · rintro ⟨rfl, rfl⟩; exact absurd e (by decide)
theorem t10_isHeardIn {T : Txt} {b q p : Nat} (h1 : TB T) (hb : b < T 0 0) (hp : p < 200) {X : Mem} (hB : BX T b q X) {Q : Int32 → Mem → Prop} (h : Q (bitV (T (1 + b) 2 == 1 && (T (1 + b) 8 == 0 || decide (p < T (1 + b) 8)))) X) : p_X0_isHeardIn q (nI p) X Q := by
  obtain ⟨-, -, t2, -, -, -, t6, -, t8, -, -, -, -, -, tt⟩ := h1.2.2.2.2.2.2.2.2.2.2.2.2.1 b hb
  unfold p_X0_isHeardIn
  rw [hB.2.2.1, hB.2.2.2.2.2.1]
  refine ⟨fun z => ?_, fun z => ?_⟩
  · have e := (nI_le0 (by omega)).mp z
    rw [show (T (1 + b) 2 == 1) = false from by rw [beq_eq_false_iff_ne]; omega] at h
    exact h
  · have e : T (1 + b) 6 ≠ 0 := fun y => z ((nI_le0 (by omega)).mpr y)
    rw [show (T (1 + b) 2 == 1) = true from by rw [beq_iff_eq]; omega, Bool.true_and] at h
    refine ⟨fun y => ?_, fun y => ⟨fun x => ?_, fun x => ?_⟩⟩
    · have e := (nI_eq0 (by omega)).mp y
      rw [e] at h
      exact h
    · have e : T (1 + b) 8 ≠ 0 := fun w => y (by rw [w]; rfl)
      rw [nI_leI (by omega) (by omega)] at x
      rw [show (T (1 + b) 8 == 0) = false from by rw [beq_eq_false_iff_ne]; omega, decide_eq_false (by omega)] at h
      exact h
    · have e : T (1 + b) 8 ≠ 0 := fun w => y (by rw [w]; rfl)
      rw [nI_leI (by omega) (by omega)] at x
      rw [show (T (1 + b) 8 == 0) = false from by rw [beq_eq_false_iff_ne]; omega, decide_eq_true (by omega)] at h
      exact h
theorem t10_noise_l {p noise seed : Nat} (hn0 : noise < 1000) {X : Mem} {Q : Mem → Prop} (h : ∀ Z, AR X Z (fun k => errZ (nxtN (seed + 62 * p + k)) noise) (fun k => errZ (nxtN (nxtN (seed + 62 * p + k))) noise) 62 → Q Z) : ∀ (d k : Nat) (Z : Mem), k + d = 62 → AR X Z (fun k => errZ (nxtN (seed + 62 * p + k)) noise) (fun k => errZ (nxtN (nxtN (seed + 62 * p + k))) noise) k → b_X2_addNoise_3 Q (d + 1) (nI p) (nI noise) (nI seed) (nI k) Z := by
  intro d
  induction d with
  | zero =>
    intro k Z hk hZ
    have : k = 62 := by omega
    subst this
    exact ⟨fun _ => h Z hZ, fun z => absurd (by decide) z⟩
  | succ d ih =>
    intro k Z hk hZ
    have ik : vp_in (nI k) 62 := vp_in_nI (by omega) (by omega)
    refine ⟨fun z => absurd z (by rw [show (62 : Int32) = nI 62 from rfl]; exact nI_ge (by omega) (by omega)), fun _ => ?_⟩
    unfold p_X10_nextNumber
    rw [show (62 : Int32) = nI 62 from rfl, pk_mul, nI_add, nI_add, nx10, nI_clamp (by omega)]
    refine ⟨ik, t10_noise (nxtN_lt _) hn0 ⟨ik, ?_⟩⟩
    rintro M5 rfl
    rw [nx10]
    refine ⟨ik, t10_noise (nxtN_lt _) hn0 ⟨ik, ?_⟩⟩
    rintro M9 rfl x10 rfl
    rw [nI_1]
    exact ih (k + 1) _ (by omega) (hZ.step (by omega) rfl (by rw [sI_n (by omega)]))
theorem HS.noise {X Z V : Mem} {T : Txt} {p noise seed : Nat} {only : Option Nat} (H : HS X Z (fRe T p only (T 0 0)) (fIm T p only (T 0 0))) (A : AR Z V (fun k => errZ (nxtN (seed + 62 * p + k)) noise) (fun k => errZ (nxtN (nxtN (seed + 62 * p + k))) noise) 62) : HS X V (sreZ T p noise seed only) (simZ T p noise seed only) := H.add A (fun _ _ => rfl) (fun _ _ => rfl)
theorem errZ_0 (x : Nat) : errZ x 0 = 0 := by unfold errZ; omega
theorem t10_hear_l {T : Txt} {w p noise seed : Nat} {only : Option Nat} (h1 : TB T) (hw : w < 2) (hp : p < 200) (hn0 : noise < 1000) (ho : ∀ o, only = some o → o < 5) {X : Mem} (h3 : WXw T w X) (h4 : OutX T w X) {Q : Mem → Prop} (h : ∀ Z, HS X Z (sreZ T p noise seed only) (simZ T p noise seed only) → Q Z) : ∀ (d b : Nat) (Z : Mem), b + d = T 0 0 → HS X Z (fRe T p only b) (fIm T p only b) → b_X2_hearAs_40 Q (d + 1) w (nI p) (nI noise) (nI seed) (oI only) (nI b) Z := by
  have hnb := h1.1
  intro d
  induction d with
  | zero =>
    intro b Z hbd hZ
    have hbe : b = T 0 0 := by omega
    subst hbe
    have e1 : Z.1 23 w 1 = nI (T 0 0) := (hZ.2.1 23 w 1 (by decide) (by decide) (by decide)).trans h3.1
    refine ⟨fun _ => ⟨fun z => h Z ?_, fun z => ⟨63, t10_noise_l hn0 (fun V hV => h V (hZ.noise hV)) 62 0 Z rfl (AR.rf Z _ _)⟩⟩, fun z => absurd (by rw [e1]; exact Int32.le_refl _) z⟩
    have e0 := (nI_le0 (by omega)).mp z
    obtain ⟨a1, a2, a3, a4⟩ := hZ
    refine ⟨a1, a2, a3, fun j hj => ?_⟩
    obtain ⟨q3, q4⟩ := a4 j hj
    have r1 : sreZ T p noise seed only j = fRe T p only (T 0 0) j := by
      show fRe T p only (T 0 0) j + errZ _ noise = _
      rw [e0, errZ_0]; exact Int.add_zero _
    have r2 : simZ T p noise seed only j = fIm T p only (T 0 0) j := by
      show fIm T p only (T 0 0) j + errZ _ noise = _
      rw [e0, errZ_0]; exact Int.add_zero _
    rw [r1, r2]
    exact ⟨q3, q4⟩
  | succ d ih =>
    intro b Z hbd hZ
    have hb : b < T 0 0 := by omega
    have e1 : Z.1 23 w 1 = nI (T 0 0) := (hZ.2.1 23 w 1 (by decide) (by decide) (by decide)).trans h3.1
    have ib : vp_in (nI b) 5 := vp_in_nI (by omega) (by omega)
    have hB := (h3.2.2.2.2.2.2.2.2.2 b hb).ag hZ.xt
    have hC := (h4.2.2 b hb).ag hZ.xt
    have nx : ∀ V, HS X V (fRe T p only (b + 1)) (fIm T p only (b + 1)) → b_X2_hearAs_88 Q (fun v1 v2 v3 v4 v5 v6 M => b_X2_hearAs_40 Q (d + 1) v1 v2 v3 v4 v5 v6 M) w (nI p) (nI noise) (nI seed) (oI only) (nI b) V := by
      rintro V hV x12 rfl
      rw [nI_1]
      exact ih (b + 1) V (by omega) hV
    have mi : (only == none || only == some b) = true → b_X2_hearAs_62 Q (fun v1 v2 v3 v4 v5 v6 M => b_X2_hearAs_88 Q (fun v1 v2 v3 v4 v5 v6 M => b_X2_hearAs_40 Q (d + 1) v1 v2 v3 v4 v5 v6 M) v1 v2 v3 v4 v5 v6 M) w (nI p) (nI noise) (nI seed) (oI only) (nI b) Z := by
      intro hon
      have hlb : loudB T only b p = (T (1 + b) 2 == 1 && (T (1 + b) 8 == 0 || decide (p < T (1 + b) 8))) := by
        unfold loudB; rw [hon, Bool.and_true]
      refine ⟨ib, ?_⟩
      rw [nI_clamp (by omega)]
      refine t10_isHeardIn h1 hb hp hB ?_
      rw [← hlb]
      cases hl : loudB T only b p
      · refine ⟨fun _ => nx Z ?_, fun z => absurd rfl z⟩
        rw [(fRe_0 hl).1, (fRe_0 hl).2]; exact hZ
      · have hh : T (1 + b) 2 = 1 := by
          rw [hlb, Bool.and_eq_true] at hl
          exact eq_of_beq hl.1
        exact ⟨fun z => absurd z (by decide), fun _ => ⟨ib, t10_addBird h1 hb hp hh hB hC (fun V hV => nx V (hZ.add hV (fun j _ => (fRe_1 hl).1 j) (fun j _ => (fRe_1 hl).2 j)))⟩⟩
    refine ⟨fun z => absurd z (by rw [e1]; exact nI_ge hb (by omega)), fun _ => ?_⟩
    cases hoc : only with
    | none => rw [hoc] at mi; exact ⟨fun _ => mi rfl, fun z => absurd rfl z⟩
    | some o =>
      have ho5 := ho o hoc
      refine ⟨fun z => ?_, fun _ => ⟨fun z => ?_, fun z => ?_⟩⟩
      · exact absurd z (by have : ∀ o, o < 5 → ¬ nI o = -1 := by decide
                           exact this o ho5)
      · have hne : o ≠ b := fun y => z (by rw [y]; rfl)
        have hl : loudB T only b p = false := by
          unfold loudB
          rw [hoc, show ((some o : Option Nat) == none || (some o : Option Nat) == some b) = false from by simp [hne], Bool.and_false]
        have := nx Z (by rw [(fRe_0 hl).1, (fRe_0 hl).2]; exact hZ)
        rw [hoc] at this
        exact this
      · have he : o = b := (nI_eq (by omega) (by omega)).mp z
        rw [hoc] at mi
        exact mi (by rw [he]; simp)
theorem t10_zero_l {w : Nat} {a b c e : Int32} {X : Mem} {Q : Mem → Prop} (h : ∀ Z, Z.2 = X.2 → (∀ f i j, f ≠ 6 → f ≠ 7 → Z.1 f i j = X.1 f i j) → (∀ j, j < 62 → Z.1 6 0 j = 0 ∧ Z.1 7 0 j = 0) → b_X2_hearAs_37 Q w a b c e Z) : ∀ (d k : Nat) (Z : Mem), k + d = 62 → Z.2 = X.2 → (∀ f i j, f ≠ 6 → f ≠ 7 → Z.1 f i j = X.1 f i j) → (∀ j, j < k → Z.1 6 0 j = 0 ∧ Z.1 7 0 j = 0) → b_X2_hearAs_8 Q (d + 1) w a b c e (nI k) Z := by
  intro d
  induction d with
  | zero =>
    intro k Z hk h1 h2 h3
    have : k = 62 := by omega
    subst this
    exact ⟨fun _ => h Z h1 h2 h3, fun z => absurd (by decide) z⟩
  | succ d ih =>
    intro k Z hk h1 h2 h3
    have ik : vp_in (nI k) 62 := vp_in_nI (by omega) (by omega)
    refine ⟨fun z => absurd z (by rw [show (62 : Int32) = nI 62 from rfl]; exact nI_ge (by omega) (by omega)), fun _ => ⟨ik, ?_⟩⟩
    rw [nI_clamp (by omega)]
    rintro M14 rfl
    refine ⟨ik, ?_⟩
    rintro M15 rfl x16 rfl
    rw [nI_1]
    refine ih (k + 1) _ (by omega) h1 (fun f i j e1 e2 => by rw [sI_n (by omega), sI_n (by omega)]; exact h2 f i j e1 e2) (fun j hj => ?_)
    by_cases hjk : j = k
    · subst hjk
      rw [sI_n (by omega), sI_s, sI_s]; exact ⟨rfl, rfl⟩
    · rw [sI_n (by omega), sI_n (by omega), sI_n (by omega)]; exact h3 j (by omega)
theorem t10_hearAs {T : Txt} {w p noise seed : Nat} {only : Option Nat} (h1 : TB T) (hw : w < 2) (hp : p < 200) (hn0 : noise < 1000) (ho : ∀ o, only = some o → o < 5) {X : Mem} (h3 : WXw T w X) (h4 : OutX T w X) {Q : Mem → Prop} (h : ∀ Z, HS X Z (sreZ T p noise seed only) (simZ T p noise seed only) → Q Z) : p_X2_hearAs w (nI p) (nI noise) (nI seed) (oI only) X Q := by
  rintro M1 rfl
  refine ⟨63, t10_zero_l (X := sI X 5 0 4 (-1)) (fun Z e1 e2 e3 => ⟨T 0 0 + 1, t10_hear_l h1 hw hp hn0 ho h3 h4 h (T 0 0) 0 Z (by omega) ⟨e1, fun a i j c1 c2 c3 => ?_, ?_, fun j hj => ?_⟩⟩) 62 0 _ rfl rfl (fun _ _ _ _ _ => rfl) (fun j hj => absurd hj (by omega))⟩
  · rw [e2 a i j c1 c2]
    show (if _ then _ else _) = _
    exact if_neg (fun z => c3 ⟨z.1, z.2.2⟩)
  · rw [e2 5 0 4 (by decide) (by decide), sI_s]
  · exact ⟨(e3 j hj).1, (e3 j hj).2⟩
theorem HS.ex {X Z : Mem} {f g : Nat → Int} (H : HS X Z f g) : EX X Z := ⟨fun a i k e => H.2.1 a i k (by omega) (by omega) (by omega), fun _ _ _ _ => by rw [H.1], by rw [H.1]⟩
theorem t10_hear {T : Txt} {w p : Nat} (h1 : TB T) (hw : w < 2) (hp : p < 200) {X : Mem} (h3 : WXw T w X) (h4 : OutX T w X) (h13 : CacheX T X) {Q : Mem → Prop} (h : ∀ Z, EX X Z → (∀ f i k, 8 ≤ f → Z.1 f i k = X.1 f i k) → HeardX T p (T 0 4) (T 0 5) none Z → CacheX T Z → Q Z) : p_X2_hear w (nI p) X Q := by
  refine ⟨fun z => ?_, fun z => ?_⟩
  · rcases id h13 with y | ⟨p', hp', y, hh⟩
    · rw [z] at y
      exact absurd y (by have : ∀ o, o < 200 → ¬ nI o = -1 := by decide +kernel
                         exact this p hp)
    · have : p' = p := (nI_eq (by omega) (by omega)).mp (y.symm.trans z)
      subst this
      exact h X (EX.rf X) (fun _ _ _ _ => rfl) hh h13
  · rw [h3.2.2.2.2.1, h3.2.2.2.2.2.1]
    refine t10_hearAs (only := none) h1 hw hp (by have := h1.2.2.2.2.1; omega) (fun o e => by cases e) h3 h4 (fun Z hZ => ?_)
    rintro M3 rfl
    have hh : HeardX T p (T 0 4) (T 0 5) none (sI Z 5 0 4 (nI p)) := fun k hk => by rw [sI_n (by omega), sI_n (by omega)]; exact hZ.2.2.2 k hk
    exact h _ (hZ.ex.tr (EX.set (by decide) (by decide))) (fun f i k e => by rw [sI_n (by omega)]; exact hZ.2.1 f i k (by omega) (by omega) (by omega)) hh (Or.inr ⟨p, hp, sI_s, hh⟩)
