/-! tokens on both sides -/
def isLb (c : Nat) : Bool := decide (97 ≤ c) && decide (c ≤ 122)
def isDb (c : Nat) : Bool := decide (48 ≤ c) && decide (c ≤ 57)
def isBb (c : Nat) : Bool := c == 32 || c == 10
/-- the end of a run, fuel first -/
def rn (q : Nat → Bool) (B : Nat → Nat) : Nat → Nat → Nat
  | 0, p => p
  | d + 1, p => if q (B p) then rn q B d (p + 1) else p
theorem rn_le (q : Nat → Bool) (B : Nat → Nat) : ∀ d p, p ≤ rn q B d p ∧ rn q B d p ≤ p + d
  | 0, p => ⟨Nat.le_refl _, Nat.le_refl _⟩
  | d + 1, p => by
    have := rn_le q B d (p + 1)
    rw [rn]; split <;> omega
theorem rn_all {q : Nat → Bool} {B : Nat → Nat} : ∀ d p j, p ≤ j → j < rn q B d p → q (B j) = true
  | 0, p, j, h1, h2 => absurd h2 (by rw [rn]; omega)
  | d + 1, p, j, h1, h2 => by
    rw [rn] at h2
    split at h2
    · rename_i e
      rcases Nat.lt_or_ge p j with y | y
      · exact rn_all d (p + 1) j (by omega) h2
      · have : j = p := by omega
        rw [this]; exact e
    · omega
def pkR (B : Nat → Nat) (q : Nat) : Nat → Nat
  | 0 => 0
  | i + 1 => pkR B q i + (if i < 6 then (B (q + i) - 96) * 2 ^ (25 - 5 * i) else 0)
def nX (v d : Nat) : Nat := min 1000000 (10 * v + d)
def nY (v d : Nat) : Nat := if 99999 < v then v else 10 * v + d
def nv (f : Nat → Nat → Nat) (B : Nat → Nat) : Nat → Nat → Nat → Nat
  | 0, _, v => v
  | d + 1, p, v => if isDb (B p) then nv f B d (p + 1) (f v (B p - 48)) else v
theorem nv_rel {B : Nat → Nat} : ∀ d p x y, ((x = y ∧ x ≤ 99999) ∨ (99999 < x ∧ 99999 < y)) → ((nv nX B d p x = nv nY B d p y ∧ nv nX B d p x ≤ 99999) ∨ (99999 < nv nX B d p x ∧ 99999 < nv nY B d p y))
  | 0, _, _, _, h => h
  | d + 1, p, x, y, h => by
    rw [nv, nv]
    cases e : isDb (B p)
    · exact h
    · have e1 : B p ≤ 57 := by
        unfold isDb at e
        rw [Bool.and_eq_true, decide_eq_true_eq, decide_eq_true_eq] at e
        exact e.2
      rw [if_pos rfl, if_pos rfl]
      refine nv_rel d (p + 1) _ _ ?_
      unfold nX nY
      split <;> omega
theorem nv_b {B : Nat → Nat} : ∀ d p x y, x ≤ 1000000 → y < 1000000 → nv nX B d p x ≤ 1000000 ∧ nv nY B d p y < 1000000
  | 0, _, _, _, h, h2 => ⟨h, h2⟩
  | d + 1, p, x, y, h, h2 => by
    rw [nv, nv]
    cases e : isDb (B p)
    · exact ⟨h, h2⟩
    · have e1 : B p ≤ 57 := by
        unfold isDb at e
        rw [Bool.and_eq_true, decide_eq_true_eq, decide_eq_true_eq] at e
        exact e.2
      rw [if_pos rfl, if_pos rfl]
      refine nv_b d (p + 1) _ _ ?_ ?_
      · unfold nX; omega
      · unfold nY; split <;> omega
/-- a token: its place, its kind (0 end, 1 word, 2 number, 3 stop, 4 wrong), where the next begins -/
def tkP (B : Nat → Nat) (N p : Nat) : Nat := rn isBb B (N - p) p
def tkK (B : Nat → Nat) (N p : Nat) : Nat :=
  if N ≤ tkP B N p then 0 else if isLb (B (tkP B N p)) then (if rn isLb B (N - tkP B N p) (tkP B N p) - tkP B N p ≤ 6 then 1 else 4) else if isDb (B (tkP B N p)) then 2 else if B (tkP B N p) = 59 then 3 else 4
def tkE (B : Nat → Nat) (N p : Nat) : Nat :=
  if N ≤ tkP B N p then tkP B N p else if isLb (B (tkP B N p)) then rn isLb B (N - tkP B N p) (tkP B N p) else if isDb (B (tkP B N p)) then rn isDb B (N - tkP B N p) (tkP B N p) else tkP B N p + 1
def tkW (B : Nat → Nat) (N p : Nat) : Nat := pkR B (tkP B N p) (rn isLb B (N - tkP B N p) (tkP B N p) - tkP B N p)
theorem tkP_le {B : Nat → Nat} {N p : Nat} (h : p ≤ N) : p ≤ tkP B N p ∧ tkP B N p ≤ N := by
  have := rn_le isBb B (N - p) p
  unfold tkP; omega
theorem tkE_le {B : Nat → Nat} {N p : Nat} (h : p ≤ N) : tkP B N p ≤ tkE B N p ∧ tkE B N p ≤ N := by
  have a := tkP_le (B := B) h
  have b := rn_le isLb B (N - tkP B N p) (tkP B N p)
  have c := rn_le isDb B (N - tkP B N p) (tkP B N p)
  unfold tkE
  split
  · omega
  · split
    · omega
    · split <;> omega
/-- a token that isn't the end has a byte at least -/
theorem tkE_gt {B : Nat → Nat} {N p : Nat} (h : p ≤ N) (hk : tkK B N p ≠ 0) : p < tkE B N p := by
  have a := tkP_le (B := B) h
  have hP : ¬ N ≤ tkP B N p := fun z => hk (by unfold tkK; rw [if_pos z])
  have g : ∀ q, q (B (tkP B N p)) = true → tkP B N p < rn q B (N - tkP B N p) (tkP B N p) := fun q hq => by
    obtain ⟨d, hd⟩ : ∃ d, N - tkP B N p = d + 1 := ⟨N - tkP B N p - 1, by omega⟩
    have := rn_le q B d (tkP B N p + 1)
    rw [hd, rn, if_pos hq]; omega
  unfold tkE
  rw [if_neg hP]
  split
  · rename_i e; have := g _ e; omega
  · split
    · rename_i e; have := g _ e; omega
    · omega
theorem pk_dv {B : Nat → Nat} {q : Nat} : ∀ i, i ≤ 6 → (∀ j, j < i → B (q + j) ≤ 122) → ∃ m, m < 2 ^ (5 * i) ∧ pkR B q i = 2 ^ (30 - 5 * i) * m
  | 0, _, _ => ⟨0, by decide, by rw [pkR, Nat.mul_zero]⟩
  | i + 1, hi, h => by
    obtain ⟨m, hm, e⟩ := pk_dv i (by omega) (fun j hj => h j (by omega))
    have hb := h i (by omega)
    refine ⟨32 * m + (B (q + i) - 96), ?_, ?_⟩
    · rw [show 5 * (i + 1) = 5 * i + 5 from by omega, Nat.pow_add]
      have : B (q + i) - 96 < 32 := by omega
      omega
    · rw [pkR, if_pos (by omega), e, show 30 - 5 * (i + 1) = 25 - 5 * i from by omega, show 30 - 5 * i = (25 - 5 * i) + 5 from by omega, Nat.pow_add, Nat.mul_add, Nat.mul_assoc, show (2 : Nat) ^ 5 = 32 from rfl, Nat.mul_comm (B (q + i) - 96)]
theorem pk_7 {B : Nat → Nat} {q : Nat} : ∀ i, 6 ≤ i → pkR B q i = pkR B q 6
  | 6, _ => rfl
  | 0, h => absurd h (by decide)
  | 1, h => absurd h (by decide)
  | 2, h => absurd h (by decide)
  | 3, h => absurd h (by decide)
  | 4, h => absurd h (by decide)
  | 5, h => absurd h (by decide)
  | i + 7, _ => by rw [pkR, if_neg (by omega), Nat.add_zero]; exact pk_7 (i + 6) (by omega)
theorem pkR_lt {B : Nat → Nat} {q L : Nat} (h : ∀ j, j < L → B (q + j) ≤ 122) : pkR B q L < 2 ^ 30 := by
  have key : ∀ i, i ≤ 6 → (∀ j, j < i → B (q + j) ≤ 122) → pkR B q i < 2 ^ 30 := fun i hi hh => by
    obtain ⟨m, hm, e⟩ := pk_dv i hi hh
    rw [e]
    calc 2 ^ (30 - 5 * i) * m < 2 ^ (30 - 5 * i) * 2 ^ (5 * i) := Nat.mul_lt_mul_of_pos_left hm (Nat.two_pow_pos _)
      _ = 2 ^ 30 := by rw [← Nat.pow_add]; congr 1; omega
  rcases Nat.lt_or_ge 6 L with y | y
  · rw [pk_7 L (by omega)]
    exact key 6 (Nat.le_refl _) (fun j hj => h j (by omega))
  · exact key L y h
theorem isLb_b {c : Nat} (h : isLb c = true) : 97 ≤ c ∧ c ≤ 122 := by
  unfold isLb at h
  rw [Bool.and_eq_true, decide_eq_true_eq, decide_eq_true_eq] at h
  exact h
theorem isDb_b {c : Nat} (h : isDb c = true) : 48 ≤ c ∧ c ≤ 57 := by
  unfold isDb at h
  rw [Bool.and_eq_true, decide_eq_true_eq, decide_eq_true_eq] at h
  exact h
/-! the class -/
def RdX (B : Nat → Nat) (N : Nat) (X : Mem) : Prop := X.1 2 0 3 = nI N ∧ X.2.2 2 0 2 = some (1 + 0) ∧ ∀ k, k < N → X.1 1 0 k = nI (B k)
def KX (X Z : Mem) : Prop := Z.2 = X.2 ∧ ∀ f i k, ¬ (f = 2 ∧ (k = 4 ∨ k = 5 ∨ k = 6 ∨ k = 7)) → Z.1 f i k = X.1 f i k
theorem KX.rf (X : Mem) : KX X X := ⟨rfl, fun _ _ _ _ => rfl⟩
theorem KX.tr {X Z V : Mem} (h : KX X Z) (h2 : KX Z V) : KX X V := ⟨h2.1.trans h.1, fun f i k e => (h2.2 f i k e).trans (h.2 f i k e)⟩
theorem KX.set {X : Mem} {k : Nat} {v : Int32} (h : k = 4 ∨ k = 5 ∨ k = 6 ∨ k = 7) : KX X (sI X 2 0 k v) := ⟨rfl, fun _ _ _ e => sI_n (by omega)⟩
theorem RdX.k {B : Nat → Nat} {N : Nat} {X Z : Mem} (h : KX X Z) (H : RdX B N X) : RdX B N Z := ⟨(h.2 2 0 3 (by omega)).trans H.1, by rw [h.1]; exact H.2.1, fun k hk => (h.2 1 0 k (by omega)).trans (H.2.2 k hk)⟩
theorem t_here {B : Nat → Nat} {N p : Nat} (hN : N ≤ 700) (hp : p < N) {X : Mem} (hR : RdX B N X) (h4 : X.1 2 0 4 = nI p) {Q : Int32 → Mem → Prop} (h : Q (nI (B p)) X) : p_X6_here X Q := by
  unfold p_X6_here
  rw [h4, hR.1]
  refine ⟨fun z => absurd z (nI_pos (by omega)), fun _ => ⟨fun z => absurd z (nI_ge hp (by omega)), fun _ => ⟨hR.2.1, fun z => absurd z (by rw [show (700 : Int32) = nI 700 from rfl]; exact nI_ge (by omega) (by omega)), fun _ => ⟨hR.2.1, vp_in_nI (by omega) (by omega), ?_⟩⟩⟩⟩
  rw [nI_clamp (by omega), hR.2.2 p hp]
  exact h
theorem t_hereE {B : Nat → Nat} {N p : Nat} (hN : N ≤ 700) (hp : N ≤ p) (hp2 : p ≤ 700) {X : Mem} (hR : RdX B N X) (h4 : X.1 2 0 4 = nI p) {Q : Int32 → Mem → Prop} (h : Q (-1) X) : p_X6_here X Q := by
  unfold p_X6_here
  rw [h4, hR.1]
  exact ⟨fun z => absurd z (nI_pos (by omega)), fun _ => ⟨fun _ => h, fun z => absurd (nI_le hp (by omega)) z⟩⟩
theorem t_isLet {c : Nat} (hc : c < 256) {M : Mem} {Q : Int32 → Mem → Prop} (h : Q (bitV (isLb c)) M) : p_X6_isLetter (nI c) M Q := by
  unfold p_X6_isLetter
  rw [show (97 : Int32) = nI 97 from rfl, show (122 : Int32) = nI 122 from rfl, nI_ltI (by omega) (by decide), nI_ltI (by decide) (by omega)]
  unfold isLb at h
  refine ⟨fun z => ?_, fun z => ⟨fun y => ?_, fun y => ?_⟩⟩
  · rw [decide_eq_false (by omega)] at h; exact h
  · rw [decide_eq_false (p := c ≤ 122) (by omega), Bool.and_false] at h; exact h
  · rw [decide_eq_true (by omega), decide_eq_true (by omega)] at h; exact h
theorem t_isDig {c : Nat} (hc : c < 256) {M : Mem} {Q : Int32 → Mem → Prop} (h : Q (bitV (isDb c)) M) : p_X6_isDigit (nI c) M Q := by
  unfold p_X6_isDigit
  rw [show (48 : Int32) = nI 48 from rfl, show (57 : Int32) = nI 57 from rfl, nI_ltI (by omega) (by decide), nI_ltI (by decide) (by omega)]
  unfold isDb at h
  refine ⟨fun z => ?_, fun z => ⟨fun y => ?_, fun y => ?_⟩⟩
  · rw [decide_eq_false (by omega)] at h; exact h
  · rw [decide_eq_false (p := c ≤ 57) (by omega), Bool.and_false] at h; exact h
  · rw [decide_eq_true (by omega), decide_eq_true (by omega)] at h; exact h
theorem t10_num_l {B : Nat → Nat} {N : Nat} (hN : N ≤ 700) (hB : ∀ k, k < N → B k < 256) {X : Mem} (hR : RdX B N X) {Q : Mem → Prop} : ∀ (d p v : Nat) (Z : Mem), p + d = N → v ≤ 1000000 → KX X Z → Z.1 2 0 4 = nI p → Z.1 2 0 7 = nI v → (∀ Z', KX X Z' → Z'.1 2 0 4 = nI (rn isDb B d p) → Z'.1 2 0 7 = nI (nv nX B d p v) → Z'.1 2 0 6 = Z.1 2 0 6 → Z'.1 2 0 5 = 2 → Q Z') → b_X6_advanceNumber_5 Q (d + 1) Z := by
  intro d
  induction d with
  | zero =>
    intro p v Z hp hv hk h4 h7 h
    refine ⟨fun _ => ?_, fun z => absurd (by rw [(hR.k hk).1, h4]; exact nI_le (by omega) (by omega)) z⟩
    rintro M3 rfl
    exact h _ (hk.tr (KX.set (by omega))) (by rw [sI_n (by omega)]; exact h4) (by rw [sI_n (by omega)]; exact h7) (sI_n (by omega)) sI_s
  | succ d ih =>
    intro p v Z hp hv hk h4 h7 h
    have hRZ := hR.k hk
    have hbp := hB p (by omega)
    refine ⟨fun z => absurd z (by rw [hRZ.1, h4]; exact nI_ge (by omega) (by omega)), fun _ => t_here hN (by omega) hRZ h4 (t_isDig hbp ?_)⟩
    rw [rn, nv] at h
    cases e : isDb (B p)
    · refine ⟨fun _ => ?_, fun z => absurd rfl z⟩
      rw [e] at h
      rintro M7 rfl
      exact h _ (hk.tr (KX.set (by omega))) (by rw [sI_n (by omega)]; exact h4) (by rw [sI_n (by omega)]; exact h7) (sI_n (by omega)) sI_s
    · refine ⟨fun z => absurd z (by decide), fun _ => t_here hN (by omega) hRZ h4 ?_⟩
      rw [e] at h
      obtain ⟨d1, d2⟩ := isDb_b e
      have ev : (if ((((10 : Int32) * (Z.1 2 0 7)) + nI (B p)) - 48) < 1000000 then ((((10 : Int32) * (Z.1 2 0 7)) + nI (B p)) - 48) else 1000000) = nI (nX v (B p - 48)) := by
        rw [h7, show (10 : Int32) = nI 10 from rfl, pk_mul, nI_add, show (48 : Int32) = nI 48 from rfl, pk_sub (by omega), show (1000000 : Int32) = nI 1000000 from rfl]
        unfold nX
        by_cases y : 10 * v + B p - 48 < 1000000
        · rw [if_pos (nI_lt y (by decide)), Nat.min_eq_right (by omega)]; congr 1; omega
        · rw [if_neg (nI_nlt (by omega) (by omega)), Nat.min_eq_left (by omega)]
      rw [ev]
      rintro M9 rfl M10 rfl
      rw [sI_n (by omega), h4, nI_1]
      refine ih (p + 1) _ _ (by omega) (by unfold nX; omega) (hk.tr ((KX.set (by omega)).tr (KX.set (by omega)))) sI_s (by rw [sI_n (by omega), sI_s]) (fun Z' a b c e' f => h Z' a b c (e'.trans (by rw [sI_n (by omega), sI_n (by omega)])) f)
theorem t10_word_l {B : Nat → Nat} {N q : Nat} (hN : N ≤ 700) (hB : ∀ k, k < N → B k < 256) {X : Mem} (hR : RdX B N X) {Q : Mem → Prop} : ∀ (d i : Nat) (Z : Mem), q + i + d = N → (∀ j, j < i → isLb (B (q + j)) = true) → KX X Z → Z.1 2 0 4 = nI (q + i) → Z.1 2 0 7 = nI (pkR B q i) → (∀ Z', KX X Z' → Z'.1 2 0 4 = nI (rn isLb B d (q + i)) → Z'.1 2 0 7 = nI (pkR B q (rn isLb B d (q + i) - q)) → Z'.1 2 0 6 = Z.1 2 0 6 → Z'.1 2 0 5 = nI (if rn isLb B d (q + i) - q ≤ 6 then 1 else 4) → Q Z') → b_X6_advanceWord_7 Q (d + 1) (nI i) Z := by
  have fin : ∀ (i : Nat) (Z : Mem), i ≤ 700 → KX X Z → Z.1 2 0 4 = nI (q + i) → Z.1 2 0 7 = nI (pkR B q i) → (∀ Z', KX X Z' → Z'.1 2 0 4 = nI (q + i) → Z'.1 2 0 7 = nI (pkR B q (q + i - q)) → Z'.1 2 0 6 = Z.1 2 0 6 → Z'.1 2 0 5 = nI (if q + i - q ≤ 6 then 1 else 4) → Q Z') → b_X6_advanceWord_75 Q (nI i) Z := by
    intro i Z hi hk h4 h7 h
    rw [show q + i - q = i from by omega] at h
    unfold b_X6_advanceWord_75
    rw [show (6 : Int32) = nI 6 from rfl, nI_ltI (by decide) (by omega)]
    refine ⟨fun y => ?_, fun y => ?_⟩
    · rintro M4 rfl
      exact h _ (hk.tr (KX.set (by omega))) (by rw [sI_n (by omega)]; exact h4) (by rw [sI_n (by omega)]; exact h7) (sI_n (by omega)) (by rw [sI_s, if_neg (by omega)]; rfl)
    · rintro M5 rfl
      exact h _ (hk.tr (KX.set (by omega))) (by rw [sI_n (by omega)]; exact h4) (by rw [sI_n (by omega)]; exact h7) (sI_n (by omega)) (by rw [sI_s, if_pos (by omega)]; rfl)
  intro d
  induction d with
  | zero =>
    intro i Z hp hl hk h4 h7 h
    exact ⟨fun _ => fin i Z (by omega) hk h4 h7 h, fun z => absurd (by rw [(hR.k hk).1, h4]; exact nI_le (by omega) (by omega)) z⟩
  | succ d ih =>
    intro i Z hp hl hk h4 h7 h
    have hRZ := hR.k hk
    have hbp := hB (q + i) (by omega)
    refine ⟨fun z => absurd z (by rw [hRZ.1, h4]; exact nI_ge (by omega) (by omega)), fun _ => t_here hN (by omega) hRZ h4 (t_isLet hbp ?_)⟩
    rw [rn] at h
    cases e : isLb (B (q + i))
    · refine ⟨fun _ => ?_, fun z => absurd rfl z⟩
      rw [e] at h
      exact fin i Z (by omega) hk h4 h7 h
    · refine ⟨fun z => absurd z (by decide), fun _ => ?_⟩
      rw [e, if_pos rfl] at h
      obtain ⟨d1, d2⟩ := isLb_b e
      have hl' : ∀ j, j < i + 1 → isLb (B (q + j)) = true := fun j hj => by
        rcases Nat.lt_or_ge j i with y | y
        · exact hl j y
        · have : j = i := by omega
          rw [this]; exact e
      rw [show (6 : Int32) = nI 6 from rfl, nI_leI (by decide) (by omega)]
      refine ⟨fun y => ?_, fun y => t_here hN (by omega) hRZ h4 ?_⟩
      · rintro x10 rfl M11 rfl
        rw [nI_1, h4, nI_1]
        refine ih (i + 1) _ (by omega) hl' (hk.tr (KX.set (by omega))) sI_s (by rw [sI_n (by omega), h7, pkR, if_neg (by omega), Nat.add_zero]) (fun Z' a b c e' f => h Z' a b c (e'.trans (sI_n (by omega))) f)
      · obtain ⟨m, hm, em⟩ := pk_dv (B := B) (q := q) i (by omega) (fun j hj => (isLb_b (hl j hj)).2)
        have hd32 : B (q + i) - 96 < 32 := by omega
        have hp25 : 2 ^ (25 - 5 * i) ≤ 2 ^ 25 := Nat.pow_le_pow_right (by decide) (by omega)
        have hsl : (B (q + i) - 96) * 2 ^ (25 - 5 * i) < 2 ^ (30 - 5 * i) := by
          rw [show 30 - 5 * i = 5 + (25 - 5 * i) from by omega, Nat.pow_add]
          exact Nat.mul_lt_mul_of_pos_right hd32 (Nat.two_pow_pos _)
        have hle : (B (q + i) - 96) * 2 ^ (25 - 5 * i) ≤ 32 * 2 ^ 25 := Nat.mul_le_mul (by omega) hp25
        have ev : (Z.1 2 0 7 ||| (((nI (B (q + i)) - 97) + 1) <<< (((25 : Int32) - ((5 : Int32) * nI i)) &&& 31))) = nI (pkR B q (i + 1)) := by
          rw [h7, show (97 : Int32) = nI 97 from rfl, pk_sub (by omega), nI_1, show (5 : Int32) = nI 5 from rfl, pk_mul, show (25 : Int32) = nI 25 from rfl, pk_sub (by omega), show B (q + i) - 97 + 1 = B (q + i) - 96 from by omega, pk_shlN _ (25 - 5 * i) (sh_l _ (by omega)) (by omega), em, fa_or_sum _ hsl, pkR, if_pos (by omega), em]
        rw [ev]
        rintro M13 rfl x10 rfl M11 rfl
        rw [nI_1, sI_n (by omega), h4, nI_1]
        refine ih (i + 1) _ (by omega) hl' (hk.tr ((KX.set (by omega)).tr (KX.set (by omega)))) sI_s (by rw [sI_n (by omega), sI_s]) (fun Z' a b c e' f => h Z' a b c (e'.trans (by rw [sI_n (by omega), sI_n (by omega)])) f)
/-- what the class knows of a token -/
def TokX (B : Nat → Nat) (N p : Nat) (Z : Mem) : Prop := Z.1 2 0 6 = nI (tkP B N p) ∧ Z.1 2 0 4 = nI (tkE B N p) ∧ Z.1 2 0 5 = nI (tkK B N p) ∧ (tkK B N p = 1 → Z.1 2 0 7 = nI (tkW B N p)) ∧ (tkK B N p = 2 → Z.1 2 0 7 = nI (nv nX B (N - tkP B N p) (tkP B N p) 0))
theorem t10_tok {B : Nat → Nat} {N p : Nat} (hN : N ≤ 700) (hB : ∀ k, k < N → B k < 256) (hp : p ≤ N) {X : Mem} (hR : RdX B N X) (h4 : X.1 2 0 4 = nI p) {Q : Mem → Prop} (h : ∀ Z, KX X Z → TokX B N p Z → Q Z) : p_X6_advance X Q := by
  have k42 : ∀ Z, KX X Z → Z.1 2 0 4 = nI (tkP B N p) → b_X6_advance_42 Q Z := by
    intro Z hk hz
    have hle := tkP_le (B := B) hp
    rintro M2 rfl
    rw [hz]
    have hk2 : KX X (sI Z 2 0 6 (nI (tkP B N p))) := hk.tr (KX.set (by omega))
    have hR2 := hR.k hk2
    have hz2 : (sI Z 2 0 6 (nI (tkP B N p))).1 2 0 4 = nI (tkP B N p) := by rw [sI_n (by omega)]; exact hz
    rcases Nat.lt_or_ge (tkP B N p) N with y | y
    · have hb := hB _ y
      refine t_here hN y hR2 hz2 ⟨fun _ => t_isLet hb ?_, fun z => absurd z ?_⟩
      · have hnot : ¬ N ≤ tkP B N p := by omega
        cases e : isLb (B (tkP B N p))
        · refine ⟨fun _ => t_isDig hb ?_, fun z => absurd rfl z⟩
          cases e2 : isDb (B (tkP B N p))
          · refine ⟨fun _ => ?_, fun z => absurd rfl z⟩
            have kE : tkE B N p = tkP B N p + 1 := by unfold tkE; rw [if_neg hnot, e, e2, if_neg (by decide), if_neg (by decide)]
            have kK : tkK B N p = if B (tkP B N p) = 59 then 3 else 4 := by unfold tkK; rw [if_neg hnot, e, e2, if_neg (by decide), if_neg (by decide)]
            have key : ∀ s1, s1 = nI (tkK B N p) → b_X6_advance_108 Q s1 (sI Z 2 0 6 (nI (tkP B N p))) := by
              rintro s1 rfl M10 rfl M11 rfl
              rw [sI_n (by omega), hz2, nI_1]
              refine h _ (hk2.tr ((KX.set (by omega)).tr (KX.set (by omega)))) ⟨?_, ?_, ?_, fun q => ?_, fun q => ?_⟩
              · rw [sI_n (by omega), sI_n (by omega), sI_s]
              · rw [sI_s, kE]
              · rw [sI_n (by omega), sI_s]
              · rw [kK] at q; split at q <;> omega
              · rw [kK] at q; split at q <;> omega
            refine ⟨fun n => key _ ?_, fun n => key _ ?_⟩
            · have : B (tkP B N p) ≠ 59 := fun w => n (by rw [w]; rfl)
              rw [kK, if_neg this]; rfl
            · have : B (tkP B N p) = 59 := (nI_eq (a := B (tkP B N p)) (b := 59) (by omega) (by decide)).mp n
              rw [kK, if_pos this]; rfl
          · refine ⟨fun z => absurd z (by decide), fun _ => ?_⟩
            have kE : tkE B N p = rn isDb B (N - tkP B N p) (tkP B N p) := by unfold tkE; rw [if_neg hnot, e, e2, if_neg (by decide), if_pos rfl]
            have kK : tkK B N p = 2 := by unfold tkK; rw [if_neg hnot, e, e2, if_neg (by decide), if_pos rfl]
            rintro M1 rfl
            refine ⟨N - tkP B N p + 1, t10_num_l hN hB hR (N - tkP B N p) (tkP B N p) 0 _ (by omega) (by decide) (hk2.tr (KX.set (by omega))) (by rw [sI_n (by omega)]; exact hz2) sI_s (fun Z' a b c e' f => h Z' a ⟨?_, by rw [kE]; exact b, by rw [kK]; exact f, fun q => by omega, fun _ => c⟩)⟩
            rw [e', sI_n (by omega), sI_s]
        · refine ⟨fun z => absurd z (by decide), fun _ => ?_⟩
          have kE : tkE B N p = rn isLb B (N - tkP B N p) (tkP B N p) := by unfold tkE; rw [if_neg hnot, e, if_pos rfl]
          have kK : tkK B N p = if rn isLb B (N - tkP B N p) (tkP B N p) - tkP B N p ≤ 6 then 1 else 4 := by unfold tkK; rw [if_neg hnot, e, if_pos rfl]
          rintro M1 rfl
          refine ⟨N - tkP B N p + 1, t10_word_l (q := tkP B N p) hN hB hR (N - tkP B N p) 0 _ (by omega) (fun j hj => absurd hj (by omega)) (hk2.tr (KX.set (by omega))) (by rw [sI_n (by omega)]; exact hz2) sI_s (fun Z' a b c e' f => h Z' a ⟨?_, by rw [kE]; exact b, by rw [kK]; exact f, fun _ => c, fun q => ?_⟩)⟩
          · rw [e', sI_n (by omega), sI_s]
          · rw [kK] at q; split at q <;> omega
      · have : ∀ c, c < 256 → ¬ nI c = -1 := by decide +kernel
        exact this _ hb
    · refine t_hereE hN y (by omega) hR2 hz2 ⟨fun z => absurd rfl z, fun _ => ?_⟩
      have kE : tkE B N p = tkP B N p := by unfold tkE; rw [if_pos y]
      have kK : tkK B N p = 0 := by unfold tkK; rw [if_pos y]
      rintro M14 rfl
      refine h _ (hk2.tr (KX.set (by omega))) ⟨by rw [sI_n (by omega), sI_s], by rw [sI_n (by omega), kE]; exact hz2, by rw [sI_s, kK]; rfl, fun q => by omega, fun q => by omega⟩
  have go : ∀ (d p' : Nat) (Z : Mem), p' + d = N → rn isBb B d p' = tkP B N p → KX X Z → Z.1 2 0 4 = nI p' → b_X6_advance_0 Q (d + 1) Z := by
    intro d
    induction d with
    | zero =>
      intro p' Z hd he hk hz
      rw [rn] at he
      exact ⟨fun _ => k42 Z hk (by rw [hz, he]), fun z => absurd (by rw [(hR.k hk).1, hz]; exact nI_le (by omega) (by omega)) z⟩
    | succ d ih =>
      intro p' Z hd he hk hz
      have hRZ := hR.k hk
      have hb := hB p' (by omega)
      rw [rn] at he
      have nx : isBb (B p') = true → b_X6_advance_29 Q (fun M => b_X6_advance_0 Q (d + 1) M) Z := by
        rintro e M17 rfl
        rw [e, if_pos rfl] at he
        rw [hz, nI_1]
        exact ih (p' + 1) _ (by omega) he (hk.tr (KX.set (by omega))) sI_s
      refine ⟨fun z => absurd z (by rw [hRZ.1, hz]; exact nI_ge (by omega) (by omega)), fun _ => t_here hN (by omega) hRZ hz ⟨fun n => nx ?_, fun n => t_here hN (by omega) hRZ hz ⟨fun n2 => ?_, fun n2 => nx ?_⟩⟩⟩
      · have : B p' = 32 := (nI_eq (a := B p') (b := 32) (by omega) (by decide)).mp n
        unfold isBb; rw [this]; rfl
      · have h1 : B p' ≠ 32 := fun w => n (by rw [w]; rfl)
        have h2 : B p' ≠ 10 := fun w => n2 (by rw [w]; rfl)
        have e : isBb (B p') = false := by unfold isBb; simp [h1, h2]
        rw [e, if_neg (by decide)] at he
        exact k42 Z hk (by rw [hz, he])
      · have : B p' = 10 := (nI_eq (a := B p') (b := 10) (by omega) (by decide)).mp n2
        unfold isBb; rw [this]; rfl
  exact ⟨N - p + 1, go (N - p) p X (by omega) rfl (KX.rf X) h4⟩
