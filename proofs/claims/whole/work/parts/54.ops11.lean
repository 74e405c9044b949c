/-! op 0: feed -/
def byN (v : Int32) (k : Nat) : Nat := v.toBitVec.toNat / 2 ^ k % 256
theorem byN_lt (v : Int32) (k : Nat) : byN v k < 256 := Nat.mod_lt _ (by decide)
theorem ush_byte (v : Int32) {k : Nat} (hk : k < 32) : (((v : Int32).toUInt32 >>> ((nI k : Int32).toUInt32 &&& Int32.toUInt32 31)).toInt32 &&& 255) = nI (byN v k) := by
  have hs : ∀ k, k < 32 → (((nI k : Int32).toUInt32 &&& Int32.toUInt32 31).toBitVec % 32).toNat = k := by decide +kernel
  have h := pk_and ((v : Int32).toUInt32 >>> ((nI k : Int32).toUInt32 &&& Int32.toUInt32 31)).toInt32 (m := 255) 8 (by decide)
  rw [h, pk_ushr v (nI k) k (hs k hk)]
  rfl
theorem sar_byte (v : Int32) {k : Nat} (hk : k = 0 ∨ k = 8 ∨ k = 16 ∨ k = 24) : ((v >>> (nI k &&& 31)) &&& 255) = nI (byN v k) := by
  have hs : ∀ k, k < 31 → ((nI k &&& 31 : Int32).toBitVec.smod 32).toNat = k := by decide +kernel
  have h := pk_and (v >>> (nI k &&& 31)) (m := 255) 8 (by decide)
  have e := pk_shr v (nI k &&& 31) k (hs k (by omega))
  rw [h]
  have t1 : (v >>> (nI k &&& 31)).toInt = (v >>> (nI k &&& 31)).toBitVec.toInt := rfl
  have t2 : v.toInt = v.toBitVec.toInt := rfl
  rw [t1, t2, BitVec.toInt_eq_toNat_cond, BitVec.toInt_eq_toNat_cond, Int.shiftRight_eq_div_pow] at e
  have l1 := (v >>> (nI k &&& 31)).toBitVec.isLt
  have l2 := v.toBitVec.isLt
  congr 1
  unfold byN
  generalize (v >>> (nI k &&& 31)).toBitVec.toNat = a at *
  generalize v.toBitVec.toNat = b at *
  rcases hk with rfl | rfl | rfl | rfl <;> (simp at e ⊢; split at e <;> split at e <;> omega)
/-- four bytes more on the class's tape -/
def P4 (v : Int32) (n : Nat) (M Z : Mem) : Prop := Z.2 = M.2 ∧ Z.1 0 0 1 = nI (n + 4) ∧ (∀ r, r < 4 → Z.1 1 0 (n + r) = nI (byN v (24 - 8 * r))) ∧ ∀ f i k, ¬ (f = 0 ∧ i = 0 ∧ k = 1) → ¬ (f = 1 ∧ i = 0 ∧ n ≤ k ∧ k < n + 4) → Z.1 f i k = M.1 f i k
theorem t10_putFour {v : Int32} {n : Nat} (hn : n + 4 ≤ 700) {M : Mem} (hl : M.1 0 0 1 = nI n) {Q : Mem → Prop} (h : ∀ Z, P4 v n M Z → Q Z) : p_X10_putFour v M Q := by
  have go : ∀ (d r : Nat) (Z : Mem), r + d = 4 → Z.2 = M.2 → Z.1 0 0 1 = nI (n + r) → (∀ s, s < r → Z.1 1 0 (n + s) = nI (byN v (24 - 8 * s))) → (∀ f i k, ¬ (f = 0 ∧ i = 0 ∧ k = 1) → ¬ (f = 1 ∧ i = 0 ∧ n ≤ k ∧ k < n + 4) → Z.1 f i k = M.1 f i k) → b_X10_putFour_3 Q (d + 1) v (if r = 4 then -8 else nI (24 - 8 * r)) Z := by
    intro d
    induction d with
    | zero =>
      intro r Z hr z1 z2 z3 z4
      have : r = 4 := by omega
      subst this
      exact ⟨fun _ => h Z ⟨z1, z2, z3, z4⟩, fun z => absurd (by decide) z⟩
    | succ d ih =>
      intro r Z hr z1 z2 z3 z4
      rw [if_neg (by omega)]
      refine ⟨fun z => absurd z (nI_pos (by omega)), fun _ => ⟨fun z => absurd z ?_, fun _ => ?_⟩⟩
      · rw [z2, show (700 : Int32) = nI 700 from rfl]; exact nI_ge (by omega) (by omega)
      · rw [z2, nI_clamp (by omega), ush_byte v (by omega)]
        refine ⟨vp_in_nI (by omega) (by omega), ?_⟩
        rintro M4 rfl M5 rfl x3 rfl
        have ex : (nI (24 - 8 * r) + (-8) : Int32) = (if r + 1 = 4 then -8 else nI (24 - 8 * (r + 1))) := by
          have : r = 0 ∨ r = 1 ∨ r = 2 ∨ r = 3 := by omega
          rcases this with rfl | rfl | rfl | rfl <;> decide
        rw [ex]
        refine ih (r + 1) _ (by omega) z1 ?_ (fun s hs => ?_) (fun f i k a b => ?_)
        · rw [sI_s, sI_n (by omega), z2, nI_1]; rfl
        · rw [sI_n (by omega)]
          by_cases hsr : s = r
          · subst hsr; rw [sI_s]
          · rw [sI_n (by omega)]; exact z3 s (by omega)
        · rw [sI_n a, sI_n (fun z => b ⟨z.1, z.2.1, by omega, by omega⟩)]; exact z4 f i k a b
  exact ⟨5, go 4 0 M rfl rfl hl (fun s hs => absurd hs (Nat.not_lt_zero s)) (fun _ _ _ _ _ => rfl)⟩
def selV (a b c d e : Int32) (j : Nat) : Int32 := if j < 4 then a else if j < 8 then b else if j < 12 then c else if j < 16 then d else e
theorem le_lit {j m : Nat} (hj : j < 100) (hm : m < 100) : (nI m ≤ nI j) ↔ m ≤ j := nI_leI (by omega) (by omega)
theorem t11_feed_l {a b c d e : Int32} {n : Nat} (hn : n + 20 ≤ 700) {Y : Mem} {Q : Int32 → Mem → Prop} (h : ∀ Z, Z.2 = Y.2 → Z.1 40 0 1 = nI (n + 20) → (∀ j, j < 20 → Z.1 41 0 (n + j) = nI (byN (selV a b c d e j) (24 - 8 * (j % 4)))) → (∀ f i k, ¬ (f = 40 ∧ i = 0 ∧ k = 1) → ¬ (f = 41 ∧ i = 0 ∧ n ≤ k ∧ k < n + 20) → Z.1 f i k = Y.1 f i k) → Q (nI (n + 20)) Z) : ∀ (g j : Nat) (Z : Mem), j + g = 20 → Z.2 = Y.2 → Z.1 40 0 1 = nI n → (∀ s, s < j → Z.1 41 0 (n + s) = nI (byN (selV a b c d e s) (24 - 8 * (s % 4)))) → (∀ f i k, ¬ (f = 40 ∧ i = 0 ∧ k = 1) → ¬ (f = 41 ∧ i = 0 ∧ n ≤ k ∧ k < n + 20) → Z.1 f i k = Y.1 f i k) → b_X11_feed_23 Q (g + 1) a b c d e (nI j) Z := by
  intro g
  induction g with
  | zero =>
    intro j Z hj z1 z2 z3 z4
    have : j = 20 := by omega
    subst this
    refine ⟨fun _ => ?_, fun z => absurd (by decide) z⟩
    rintro M4 rfl
    have e : (sI Z 40 0 1 (Z.1 40 0 1 + 20)).1 40 0 1 = nI (n + 20) := by rw [sI_s, z2]; exact nI_add n 20
    rw [e]
    exact h _ z1 e (fun s hs => by rw [sI_n (by omega)]; exact z3 s hs) (fun f i k p q => by rw [sI_n p]; exact z4 f i k p q)
  | succ g ih =>
    intro j Z hj z1 z2 z3 z4
    have step : b_X11_feed_76 Q (fun v1 v2 v3 v4 v5 v6 M => b_X11_feed_23 Q (g + 1) v1 v2 v3 v4 v5 v6 M) a b c d e (nI j) (selV a b c d e j) Z := by
      have ej : (Z.1 40 0 1 + nI j : Int32) = nI (n + j) := by rw [z2, nI_add]
      have es : ((24 : Int32) - ((8 : Int32) * (nI j - nI j / 4 * 4))) = nI (24 - 8 * (j % 4)) := by
        rw [show (4 : Int32) = nI 4 from rfl, pk_rem (by omega) (by decide) (by decide), show (8 : Int32) = nI 8 from rfl, pk_mul, show (24 : Int32) = nI 24 from rfl, pk_sub (by omega)]
      unfold b_X11_feed_76
      rw [ej, es, nI_clamp (by omega), sar_byte _ (by omega)]
      refine ⟨vp_in_nI (by omega) (by omega), ?_⟩
      rintro M9 rfl x10 rfl
      rw [nI_1]
      refine ih (j + 1) _ (by omega) z1 (by rw [sI_n (by omega)]; exact z2) (fun s hs => ?_) (fun f i k p q => ?_)
      · by_cases hsj : s = j
        · subst hsj; rw [sI_s]
        · rw [sI_n (by omega)]; exact z3 s (by omega)
      · rw [sI_n (fun z => q ⟨z.1, z.2.1, by omega, by omega⟩)]; exact z4 f i k p q
    unfold selV at step
    refine ⟨fun z => absurd ((le_lit (m := 20) (by omega) (by decide)).mp z) (by omega), fun _ => ⟨fun z4' => ⟨fun z8 => ⟨fun z12 => ⟨fun z16 => ?_, fun z16 => ?_⟩, fun z12 => ?_⟩, fun z8 => ?_⟩, fun z4' => ?_⟩⟩
    · have := (le_lit (m := 16) (j := j) (by omega) (by decide)).mp z16
      rw [if_neg (by omega), if_neg (by omega), if_neg (by omega), if_neg (by omega)] at step; exact step
    · have a1 := (le_lit (m := 12) (j := j) (by omega) (by decide)).mp z12
      have a2 : ¬ 16 ≤ j := fun y => z16 ((le_lit (m := 16) (by omega) (by decide)).mpr y)
      rw [if_neg (by omega), if_neg (by omega), if_neg (by omega), if_pos (by omega)] at step; exact step
    · have a1 := (le_lit (m := 8) (j := j) (by omega) (by decide)).mp z8
      have a2 : ¬ 12 ≤ j := fun y => z12 ((le_lit (m := 12) (by omega) (by decide)).mpr y)
      rw [if_neg (by omega), if_neg (by omega), if_pos (by omega)] at step; exact step
    · have a1 := (le_lit (m := 4) (j := j) (by omega) (by decide)).mp z4'
      have a2 : ¬ 8 ≤ j := fun y => z8 ((le_lit (m := 8) (by omega) (by decide)).mpr y)
      rw [if_neg (by omega), if_pos (by omega)] at step; exact step
    · have a2 : ¬ 4 ≤ j := fun y => z4' ((le_lit (m := 4) (by omega) (by decide)).mpr y)
      rw [if_pos (by omega)] at step; exact step
/-- the memory Z but for the tape, which is X's -/
def mixX (X Z : Mem) : Mem := (fun f i k => if (f = 0 ∧ k = 1) ∨ f = 1 then X.1 f i k else Z.1 f i k, Z.2)
def mixY (Y V : Mem) : Mem := (fun f i k => if (f = 40 ∧ k = 1) ∨ f = 41 then Y.1 f i k else V.1 f i k, V.2)
theorem op_0 (X Y : Mem) (a1 a2 a3 a4 a5 : Int32) (hR : Rel X Y) : p_X10_feed a1 a2 a3 a4 a5 X (fun r X1 => p_X11_feed a1 a2 a3 a4 a5 Y (fun r1 Y1 => r = r1 ∧ Rel X1 Y1)) := by
  obtain ⟨T, w, h1, h2, h3, h4, h5, h6, h7, h8, h9, h10, h11, h12, h13⟩ := id hR
  obtain ⟨n, hn, hx, hy, ht⟩ := id h7
  have hy0 : (sI Y 40 0 2 0).1 40 0 1 = nI n := by rw [sI_n (by decide)]; exact hy
  have hle : ∀ u : Int32, u = nI n → ((u + 20 ≤ 700) ↔ n + 20 ≤ 700) := fun u hu => by
    rw [hu, show (20 : Int32) = nI 20 from rfl, nI_add, show (700 : Int32) = nI 700 from rfl]
    exact nI_leI (by omega) (by omega)
  refine ⟨fun hfit => ?_, fun hno => ?_⟩
  · have hn20 := (hle _ hx).mp hfit
    refine t10_putFour (n := n) (by omega) hx (fun Z1 p1 => ?_)
    refine t10_putFour (n := n + 4) (by omega) p1.2.1 (fun Z2 p2 => ?_)
    refine t10_putFour (n := n + 4 + 4) (by omega) p2.2.1 (fun Z3 p3 => ?_)
    refine t10_putFour (n := n + 4 + 4 + 4) (by omega) p3.2.1 (fun Z4 p4 => ?_)
    refine t10_putFour (n := n + 4 + 4 + 4 + 4) (by omega) p4.2.1 (fun Z5 p5 => ?_)
    rw [p5.2.1, show n + 4 + 4 + 4 + 4 + 4 = n + 20 from by omega]
    rintro M1 rfl
    refine ⟨fun _ => ⟨21, t11_feed_l (Y := sI Y 40 0 2 0) hn20 (fun V v1 v2 v3 v4 => ⟨rfl, ?_⟩) 20 0 _ rfl rfl hy0 (fun s hs => absurd hs (Nat.not_lt_zero s)) (fun _ _ _ _ _ => rfl)⟩, fun z => absurd ((hle _ hy0).mpr hn20) z⟩
    have zo : ∀ f i k, ¬ (f = 0 ∧ i = 0 ∧ k = 1) → ¬ (f = 1 ∧ i = 0 ∧ n ≤ k ∧ k < n + 20) → Z5.1 f i k = X.1 f i k := fun f i k a b => by
      rw [p5.2.2.2 f i k a (fun z => b ⟨z.1, z.2.1, by omega, by omega⟩), p4.2.2.2 f i k a (fun z => b ⟨z.1, z.2.1, by omega, by omega⟩), p3.2.2.2 f i k a (fun z => b ⟨z.1, z.2.1, by omega, by omega⟩), p2.2.2.2 f i k a (fun z => b ⟨z.1, z.2.1, by omega, by omega⟩), p1.2.2.2 f i k a (fun z => b ⟨z.1, z.2.1, by omega, by omega⟩)]
    have zb : ∀ j, j < 20 → Z5.1 1 0 (n + j) = nI (byN (selV a1 a2 a3 a4 a5 j) (24 - 8 * (j % 4))) := fun j hj => by
      unfold selV
      by_cases j4 : j < 4
      · rw [if_pos j4, p5.2.2.2 _ _ _ (by omega) (by omega), p4.2.2.2 _ _ _ (by omega) (by omega), p3.2.2.2 _ _ _ (by omega) (by omega), p2.2.2.2 _ _ _ (by omega) (by omega), p1.2.2.1 j j4, show j % 4 = j from by omega]
      rw [if_neg j4]
      by_cases j8 : j < 8
      · rw [if_pos j8, p5.2.2.2 _ _ _ (by omega) (by omega), p4.2.2.2 _ _ _ (by omega) (by omega), p3.2.2.2 _ _ _ (by omega) (by omega), show n + j = n + 4 + (j - 4) from by omega, p2.2.2.1 (j - 4) (by omega), show j % 4 = j - 4 from by omega]
      rw [if_neg j8]
      by_cases j12 : j < 12
      · rw [if_pos j12, p5.2.2.2 _ _ _ (by omega) (by omega), p4.2.2.2 _ _ _ (by omega) (by omega), show n + j = n + 4 + 4 + (j - 8) from by omega, p3.2.2.1 (j - 8) (by omega), show j % 4 = j - 8 from by omega]
      rw [if_neg j12]
      by_cases j16 : j < 16
      · rw [if_pos j16, p5.2.2.2 _ _ _ (by omega) (by omega), show n + j = n + 4 + 4 + 4 + (j - 12) from by omega, p4.2.2.1 (j - 12) (by omega), show j % 4 = j - 12 from by omega]
      rw [if_neg j16, show n + j = n + 4 + 4 + 4 + 4 + (j - 16) from by omega, p5.2.2.1 (j - 16) (by omega), show j % 4 = j - 16 from by omega]
    have z2 : Z5.2 = X.2 := by rw [p5.1, p4.1, p3.1, p2.1, p1.1]
    have ax : AgX X (mixX X Z5) := by
      refine ⟨fun f i k e => ?_, fun i _ => by show Z5.2.1 30 i 8 = _; rw [z2], fun k => by show Z5.2.2 0 0 k = _; rw [z2]⟩
      show (if (f = 0 ∧ k = 1) ∨ f = 1 then X.1 f i k else Z5.1 f i k) = X.1 f i k
      split
      · rfl
      · exact zo f i k (fun z => by omega) (fun z => by omega)
    have ay : AgY Y (mixY Y V) := by
      intro f k e
      show (if (f = 40 ∧ k = 1) ∨ f = 41 then Y.1 f 0 k else V.1 f 0 k) = Y.1 f 0 k
      split
      · rfl
      · rw [v4 f 0 k (fun z => by omega) (fun z => by omega)]
        refine sI_n (fun z => ?_)
        obtain ⟨rfl, _, rfl⟩ := z
        simp [kY] at e
    refine ⟨T, w, h1, (h2.ag ax.t : RefR w (mixX X Z5)), (h3.ag ax.t : WXw T w (mixX X Z5)), (h4.ag ax.t : OutX T w (mixX X Z5)), (h5.ag h1 ay.t : TYr T (mixY Y V)), (h6.ag ay.t : MYr T (mixY Y V)), ?_, (h8.ag ax.t ay.t : FltR (mixX X Z5) (mixY Y V)), (h9.ag ax ay (by decide) (by decide) : StR (T 0 0) (mixX X Z5) 0 (mixY Y V) 0), (h10.ag ax ay : ImgR (T 0 0) (mixX X Z5) (mixY Y V)), (h11.ag ax ay : PastR (T 0 0) (mixX X Z5) (mixY Y V)), (h12.ag ax.t : WaysR (mixX X Z5)), h13.ag ⟨zo 5 0 4 (by omega) (by omega), fun k => zo 6 0 k (by omega) (by omega), fun k => zo 7 0 k (by omega) (by omega)⟩⟩
    refine ⟨n + 20, by omega, ?_, v2, fun k hk => ?_⟩
    · rw [p5.2.1]
    · by_cases hkn : k < n
      · rw [zo 1 0 k (by omega) (by omega), v4 41 0 k (by omega) (by omega), sI_n (by omega)]
        exact ht k hkn
      · have e1 := zb (k - n) (by omega)
        have e2 := v3 (k - n) (by omega)
        rw [show n + (k - n) = k from by omega] at e1 e2
        exact ⟨_, byN_lt _ _, e1, e2⟩
  · rintro M1 rfl
    exact ⟨fun z => absurd ((hle _ hx).mpr ((hle _ hy0).mp z)) hno, fun _ => ⟨rfl, hR.th 0⟩⟩
