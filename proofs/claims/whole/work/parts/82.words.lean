/-! words and tokens of the reference -/
def WL (k : Nat) : Nat := ([98, 105, 114, 100, 32, 104, 101, 97, 114, 100, 32, 100, 114, 105, 102, 116, 32, 102, 97, 100, 101, 32, 115, 101, 110, 100, 32, 112, 108, 97, 99, 101, 32, 104, 111, 109, 101, 32, 102, 105, 114, 115, 116, 32, 115, 101, 99, 111, 110, 100, 32, 110, 111, 105, 115, 101, 32, 115, 101, 101, 100, 32, 114, 97, 116, 105, 111, 32] : List Nat).getD k 0
def wS (k : Nat) : Nat := ([0, 5, 11, 17, 22, 27, 33, 38, 44, 51, 57, 62, 68] : List Nat).getD k 0
def wN (k : Nat) : Nat := ([4, 5, 5, 4, 4, 5, 4, 5, 6, 5, 4, 5] : List Nat).getD k 0
def wV (k : Nat) : Nat := ([77139968, 273729664, 153393792, 202511360, 643239936, 549489824, 284595200, 211373696, 642891204, 485805216, 642945024, 605693408] : List Nat).getD k 0
theorem wV_s : ∀ k, k < 12 → stab 0 k = nI (wV k) := by decide +kernel
theorem wV_b : ∀ k, k < 12 → wV k < 2 ^ 30 := by decide +kernel
theorem wS_s : ∀ k, k < 12 → wS (k + 1) = wS k + wN k + 1 ∧ wS (k + 1) ≤ 68 ∧ WL (wS k + wN k) = 32 ∧ 1 ≤ wN k ∧ wN k ≤ 6 := by decide +kernel
theorem wL_s : ∀ k, k < 12 → ∀ j, j < wN k → 97 ≤ WL (wS k + j) ∧ WL (wS k + j) ≤ 122 := by decide +kernel
def cC (k i : Nat) : Nat := if i < wN k then WL (wS k + i) - 96 else 0
theorem cC_v : ∀ k, k < 12 → wV k = cC k 0 * 33554432 + cC k 1 * 1048576 + cC k 2 * 32768 + cC k 3 * 1024 + cC k 4 * 32 + cC k 5 ∧ ∀ i, i < 6 → cC k i < 32 := by decide +kernel
def dD (B : Nat → Nat) (q L i : Nat) : Nat := if i < L then B (q + i) - 96 else 0
theorem dD_v {B : Nat → Nat} {q L : Nat} (h : L ≤ 6) : pkR B q L = dD B q L 0 * 33554432 + dD B q L 1 * 1048576 + dD B q L 2 * 32768 + dD B q L 3 * 1024 + dD B q L 4 * 32 + dD B q L 5 := by
  have : L = 0 ∨ L = 1 ∨ L = 2 ∨ L = 3 ∨ L = 4 ∨ L = 5 ∨ L = 6 := by omega
  rcases this with rfl | rfl | rfl | rfl | rfl | rfl | rfl <;> simp [pkR, dD]
/-- the letters from q on are the word k -/
def isW (B : Nat → Nat) (q L k : Nat) : Prop := L = wN k ∧ ∀ j, j < wN k → B (q + j) = WL (wS k + j)
theorem wv_iff {B : Nat → Nat} {q L k : Nat} (hL : L ≤ 6) (hl : ∀ j, j < L → isLb (B (q + j)) = true) (hk : k < 12) : wV k = pkR B q L ↔ isW B q L k := by
  obtain ⟨c1, c2⟩ := cC_v k hk
  have d2 : ∀ i, dD B q L i < 32 := fun i => by
    unfold dD; split
    · rename_i y; have := isLb_b (hl i y); omega
    · omega
  have s6 := (wS_s k hk).2.2.2.2
  constructor
  · intro e
    rw [dD_v hL, c1] at e
    have q0 := c2 0 (by decide); have q1 := c2 1 (by decide); have q2 := c2 2 (by decide); have q3 := c2 3 (by decide); have q4 := c2 4 (by decide); have q5 := c2 5 (by decide)
    have r0 := d2 0; have r1 := d2 1; have r2 := d2 2; have r3 := d2 3; have r4 := d2 4; have r5 := d2 5
    have key : ∀ i, i < 6 → cC k i = dD B q L i := by
      intro i hi
      have : i = 0 ∨ i = 1 ∨ i = 2 ∨ i = 3 ∨ i = 4 ∨ i = 5 := by omega
      rcases this with rfl | rfl | rfl | rfl | rfl | rfl <;> omega
    have hE : L = wN k := by
      rcases Nat.lt_trichotomy L (wN k) with y | y | y
      · have a := key L (by omega)
        have b := wL_s k hk L y
        unfold cC dD at a; rw [if_pos y, if_neg (by omega)] at a; omega
      · exact y
      · have a := key (wN k) (by omega)
        have b := isLb_b (hl _ y)
        unfold cC dD at a; rw [if_pos y, if_neg (by omega)] at a; omega
    refine ⟨hE, fun j hj => ?_⟩
    have a := key j (by omega)
    have b := wL_s k hk j hj
    have c := isLb_b (hl j (by omega))
    unfold cC dD at a; rw [if_pos hj, if_pos (by omega)] at a; omega
  · rintro ⟨e, h⟩
    rw [dD_v hL, c1]
    have key : ∀ i, cC k i = dD B q L i := fun i => by
      unfold cC dD
      by_cases y : i < wN k
      · rw [if_pos y, if_pos (by omega), h i y]
      · rw [if_neg y, if_neg (by omega)]
    rw [key, key, key, key, key, key]
/-- the number of a word, 12 if it is none -/
def wI (v : Nat) : Nat := rn (fun k => !(wV k == v)) id 12 0
theorem wI_le (v : Nat) : wI v ≤ 12 := (rn_le (fun k => !(wV k == v)) id 12 0).2
def wR (v : Nat) : Int32 := if wI v < 12 then nI (wI v) else -1
theorem t10_wordNum {v : Nat} (hv : v < 2 ^ 31) {M : Mem} {Q : Int32 → Mem → Prop} (h : Q (wR v) M) : p_X6_wordNumber (nI v) M Q := by
  have lp : ∀ d k, k + d = 12 → wI v = rn (fun k => !(wV k == v)) id d k → b_X6_wordNumber_2 Q (d + 1) (nI v) (nI k) M := by
    intro d
    induction d with
    | zero =>
      intro k hk e
      refine ⟨fun _ => ?_, fun z => absurd (nI_le (a := 12) (b := k) (by omega) (by omega)) z⟩
      rw [rn] at e
      unfold wR at h; rw [if_neg (by omega)] at h; exact h
    | succ d ih =>
      intro k hk e
      refine ⟨fun z => absurd z (nI_ge (a := k) (b := 12) (by omega) (by decide)), fun _ => ⟨vp_in_nI (by omega) (by decide), ?_⟩⟩
      rw [nI_clamp (by omega), wV_s k (by omega)]
      have hw := wV_b k (by omega)
      rw [rn] at e
      by_cases y : wV k = v
      · refine ⟨fun z => absurd (by rw [y]) z, fun _ => ?_⟩
        have : (!(wV (id k) == v)) = false := by rw [id, y]; simp
        rw [this, if_neg (by decide)] at e
        unfold wR at h; rw [if_pos (by omega), e] at h; exact h
      · refine ⟨fun _ => ?_, fun z => absurd ((nI_eq (by omega) hv).mp z) y⟩
        have : (!(wV (id k) == v)) = true := by rw [id]; simp [y]
        rw [this, if_pos rfl] at e
        rintro x4 rfl
        rw [nI_1]
        exact ih (k + 1) (by omega) e
  exact ⟨13, lp 12 0 rfl rfl⟩
/-! the reference -/
def RdY (B : Nat → Nat) (N : Nat) (Y : Mem) : Prop := Y.1 40 0 6 = nI N ∧ ∀ k, k < N → Y.1 41 0 k = nI (B k)
def WdY (Y : Mem) : Prop := ∀ k, k < 68 → Y.1 42 0 k = nI (WL k)
def KY (Y Z : Mem) : Prop := Z.2 = Y.2 ∧ ∀ f i k, ¬ (f = 40 ∧ (k = 7 ∨ k = 8 ∨ k = 9 ∨ k = 10)) → Z.1 f i k = Y.1 f i k
theorem KY.rf (Y : Mem) : KY Y Y := ⟨rfl, fun _ _ _ _ => rfl⟩
theorem KY.tr {Y Z V : Mem} (h : KY Y Z) (h2 : KY Z V) : KY Y V := ⟨h2.1.trans h.1, fun f i k e => (h2.2 f i k e).trans (h.2 f i k e)⟩
theorem KY.set {Y : Mem} {k : Nat} {v : Int32} (h : k = 7 ∨ k = 8 ∨ k = 9 ∨ k = 10) : KY Y (sI Y 40 0 k v) := ⟨rfl, fun _ _ _ e => sI_n (by omega)⟩
theorem RdY.k {B : Nat → Nat} {N : Nat} {Y Z : Mem} (h : KY Y Z) (H : RdY B N Y) : RdY B N Z := ⟨(h.2 40 0 6 (by omega)).trans H.1, fun k hk => (h.2 41 0 k (by omega)).trans (H.2 k hk)⟩
theorem WdY.k {Y Z : Mem} (h : KY Y Z) (H : WdY Y) : WdY Z := fun k hk => (h.2 42 0 k (by omega)).trans (H k hk)
theorem t_small {B : Nat → Nat} {N p : Nat} (hN : N ≤ 700) (hB : ∀ k, k < N → B k < 256) (hp : p < N) {Y : Mem} (hR : RdY B N Y) {Q : Int32 → Mem → Prop} (h : Q (bitV (isLb (B p))) Y) : p_X11_isSmall (nI p) Y Q := by
  have hb := hB p hp
  unfold p_X11_isSmall
  rw [hR.1, nI_clamp (by omega), hR.2 p hp]
  refine ⟨fun z => absurd z (nI_ge hp (by omega)), fun _ => ⟨vp_in_nI (by omega) (by decide), ?_⟩⟩
  rw [show (97 : Int32) = nI 97 from rfl, show (122 : Int32) = nI 122 from rfl, nI_ltI (by omega) (by decide), nI_ltI (by decide) (by omega)]
  unfold isLb at h
  refine ⟨fun z => ?_, fun z => ⟨vp_in_nI (by omega) (by decide), fun y => ?_, fun y => ?_⟩⟩
  · rw [decide_eq_false (by omega)] at h; exact h
  · rw [decide_eq_false (p := B p ≤ 122) (by omega), Bool.and_false] at h; exact h
  · rw [decide_eq_true (by omega), decide_eq_true (by omega)] at h; exact h
theorem t_smallE {B : Nat → Nat} {N p : Nat} (hN : N ≤ 700) (hp : N ≤ p) (hp2 : p ≤ 700) {Y : Mem} (hR : RdY B N Y) {Q : Int32 → Mem → Prop} (h : Q 0 Y) : p_X11_isSmall (nI p) Y Q := by
  unfold p_X11_isSmall
  rw [hR.1]
  exact ⟨fun _ => h, fun z => absurd (nI_le hp (by omega)) z⟩
theorem t_digY {B : Nat → Nat} {N p : Nat} (hN : N ≤ 700) (hB : ∀ k, k < N → B k < 256) (hp : p < N) {Y : Mem} (hR : RdY B N Y) {Q : Int32 → Mem → Prop} (h : Q (bitV (isDb (B p))) Y) : p_X11_isDigit (nI p) Y Q := by
  have hb := hB p hp
  unfold p_X11_isDigit
  rw [hR.1, nI_clamp (by omega), hR.2 p hp]
  refine ⟨fun z => absurd z (nI_ge hp (by omega)), fun _ => ⟨vp_in_nI (by omega) (by decide), ?_⟩⟩
  rw [show (48 : Int32) = nI 48 from rfl, show (57 : Int32) = nI 57 from rfl, nI_ltI (by omega) (by decide), nI_ltI (by decide) (by omega)]
  unfold isDb at h
  refine ⟨fun z => ?_, fun z => ⟨vp_in_nI (by omega) (by decide), fun y => ?_, fun y => ?_⟩⟩
  · rw [decide_eq_false (by omega)] at h; exact h
  · rw [decide_eq_false (p := B p ≤ 57) (by omega), Bool.and_false] at h; exact h
  · rw [decide_eq_true (by omega), decide_eq_true (by omega)] at h; exact h
theorem t_digYE {B : Nat → Nat} {N p : Nat} (hN : N ≤ 700) (hp : N ≤ p) (hp2 : p ≤ 700) {Y : Mem} (hR : RdY B N Y) {Q : Int32 → Mem → Prop} (h : Q 0 Y) : p_X11_isDigit (nI p) Y Q := by
  unfold p_X11_isDigit
  rw [hR.1]
  exact ⟨fun _ => h, fun z => absurd (nI_le hp (by omega)) z⟩
theorem wd_step {B : Nat → Nat} {N q L k : Nat} (hN : N ≤ 700) (hB : ∀ k, k < N → B k < 256) (hq : q + L ≤ N) (hk : k < 12) {Y : Mem} (hR : RdY B N Y) (hW : WdY Y) {Q : Int32 → Mem → Prop} {k5 : Int32 → Int32 → Int32 → Int32 → Mem → Prop} (h1 : isW B q L k → Q (nI k) Y) (h2 : ¬ isW B q L k → k5 (nI q) (nI (q + L)) (nI (k + 1)) (nI (wS (k + 1))) Y) : ∃ n, b_X11_wordAt_18 Q k5 n (nI q) (nI (q + L)) (nI k) (nI (wS k)) 0 Y := by
  obtain ⟨e1, e2, e3, e4, e5⟩ := wS_s k hk
  have eL := wL_s k hk
  have n104 : ∀ v7 : Nat, ∀ f : Int32, (f = 0 ∧ ¬ isW B q L k) ∨ (f = 1 ∧ isW B q L k) → b_X11_wordAt_104 Q k5 (nI q) (nI (q + L)) (nI k) (nI (wS k)) (nI (wN k)) f Y := by
    rintro v7 f (⟨rfl, h⟩ | ⟨rfl, h⟩)
    · refine ⟨fun _ => ?_, fun z => absurd rfl z⟩
      rintro x7 rfl x8 rfl
      rw [nI_1, nI_1, nI_add, show wS k + (wN k + 1) = wS (k + 1) from by omega]
      exact h2 h
    · exact ⟨fun z => absurd z z1n, fun _ => h1 h⟩
  have n57 : ∀ d j, j + d = wN k → ∀ f : Int32, (f = 0 ∧ ¬ isW B q L k) ∨ (f = 1 ∧ L = wN k ∧ ∀ i, i < j → B (q + i) = WL (wS k + i)) → b_X11_wordAt_57 Q k5 (d + 1) (nI q) (nI (q + L)) (nI k) (nI (wS k)) (nI (wN k)) f (nI j) Y := by
    intro d
    induction d with
    | zero =>
      intro j hj f hf
      refine ⟨fun _ => n104 j f ?_, fun z => absurd (nI_le (by omega) (by omega)) z⟩
      rcases hf with a | ⟨a, b, c⟩
      · exact Or.inl a
      · exact Or.inr ⟨a, b, fun i hi => c i (by omega)⟩
    | succ d ih =>
      intro j hj f hf
      refine ⟨fun z => absurd z (nI_ge (by omega) (by omega)), fun _ => ?_⟩
      rcases hf with ⟨rfl, b⟩ | ⟨rfl, b, c⟩
      · exact ⟨fun _ => n104 j 0 (Or.inl ⟨rfl, b⟩), fun z => absurd rfl z⟩
      · refine ⟨fun z => absurd z z1n, fun _ => ?_⟩
        rw [nI_add, nI_add]
        refine ⟨vp_in_nI (by omega) (by decide), vp_in_nI (by omega) (by decide), ?_⟩
        rw [nI_clamp (by omega), nI_clamp (by omega), hR.2 _ (by omega), hW _ (by omega)]
        have hb := hB (q + j) (by omega)
        have hb2 := eL j (by omega)
        refine ⟨fun z => ?_, fun z => ?_⟩
        · rintro x13 rfl
          rw [nI_1]
          refine ih (j + 1) (by omega) 0 (Or.inl ⟨rfl, fun w => z ?_⟩)
          rw [w.2 j (by omega)]
        · rintro x13 rfl
          rw [nI_1]
          refine ih (j + 1) (by omega) 1 (Or.inr ⟨rfl, b, fun i hi => ?_⟩)
          rcases Nat.lt_or_ge i j with y | y
          · exact c i y
          · have : i = j := by omega
            rw [this]; exact ((nI_eq (by omega) (by omega)).mp z).symm
  have n39 : b_X11_wordAt_39 Q k5 (nI q) (nI (q + L)) (nI k) (nI (wS k)) (nI (wN k)) Y := by
    unfold b_X11_wordAt_39
    rw [pk_sub (by omega), show q + L - q = L from by omega]
    refine ⟨fun z => ⟨wN k + 1, n57 (wN k) 0 (by omega) 0 (Or.inl ⟨rfl, fun w => z (by rw [w.1])⟩)⟩, fun z => ⟨wN k + 1, n57 (wN k) 0 (by omega) 1 (Or.inr ⟨rfl, ((nI_eq (by omega) (by omega)).mp z).symm, fun i hi => absurd hi (by omega)⟩)⟩⟩
  have n18 : ∀ d j, j + d = wN k → b_X11_wordAt_18 Q k5 (d + 1) (nI q) (nI (q + L)) (nI k) (nI (wS k)) (nI j) Y := by
    intro d
    induction d with
    | zero =>
      intro j hj
      refine ⟨by rw [nI_add]; exact vp_in_nI (by omega) (by decide), ?_⟩
      rw [nI_add, nI_clamp (by omega), hW _ (by omega), show j = wN k from by omega, e3]
      exact ⟨fun _ => n39, fun z => absurd rfl z⟩
    | succ d ih =>
      intro j hj
      refine ⟨by rw [nI_add]; exact vp_in_nI (by omega) (by decide), ?_⟩
      rw [nI_add, nI_clamp (by omega), hW _ (by omega)]
      have := eL j (by omega)
      refine ⟨fun z => ?_, fun _ => ?_⟩
      · have := (nI_eq (a := WL (wS k + j)) (b := 32) (by omega) (by decide)).mp z
        omega
      · rintro x14 rfl
        rw [nI_1]
        exact ih (j + 1) (by omega)
  exact ⟨wN k + 1, n18 (wN k) 0 (by omega)⟩
theorem t11_wordAt {B : Nat → Nat} {N q L : Nat} (hN : N ≤ 700) (hB : ∀ k, k < N → B k < 256) (hq : q + L ≤ N) (hl : ∀ j, j < L → isLb (B (q + j)) = true) {Y : Mem} (hR : RdY B N Y) (hW : WdY Y) {Q : Int32 → Mem → Prop} (h : Q (if L ≤ 6 then wR (pkR B q L) else -1) Y) : p_X11_wordAt (nI q) (nI (q + L)) Y Q := by
  have lp : ∀ d k, k + d = 12 → (L ≤ 6 → wI (pkR B q L) = rn (fun k => !(wV k == pkR B q L)) id d k) → b_X11_wordAt_5 Q (d + 1) (nI q) (nI (q + L)) (nI k) (nI (wS k)) Y := by
    intro d
    induction d with
    | zero =>
      intro k hk e
      have : k = 12 := by omega
      subst this
      refine ⟨fun _ => ?_, fun z => absurd (nI_le (a := 68) (b := 68) (by omega) (by omega)) z⟩
      split at h
      · rename_i y
        have e := e y
        rw [rn] at e
        unfold wR at h; rw [if_neg (by omega)] at h; exact h
      · exact h
    | succ d ih =>
      intro k hk e
      have s := wS_s k (by omega)
      refine ⟨fun z => absurd z (nI_ge (a := wS k) (b := 68) (by omega) (by decide)), fun _ => wd_step hN hB hq (by omega) hR hW (fun w => ?_) (fun w => ?_)⟩
      · have hL : L ≤ 6 := by have := w.1; omega
        have e := e hL
        rw [rn] at e
        have : (!(wV (id k) == pkR B q L)) = false := by rw [id, (wv_iff hL hl (by omega)).mpr w]; simp
        rw [this, if_neg (by decide)] at e
        rw [if_pos hL] at h
        unfold wR at h; rw [if_pos (by omega), e] at h; exact h
      · refine ih (k + 1) (by omega) (fun hL => ?_)
        have e := e hL
        rw [rn] at e
        have : (!(wV (id k) == pkR B q L)) = true := by
          rw [id]
          have : ¬ wV k = pkR B q L := fun y => w ((wv_iff hL hl (by omega)).mp y)
          simp [this]
        rw [this, if_pos rfl] at e
        exact e
  exact ⟨13, lp 12 0 rfl (fun _ => rfl)⟩
/-- the letters put together as the reference does -/
def acR (B : Nat → Nat) (q L : Nat) : Nat → Nat
  | 0 => 0
  | i + 1 => 32 * acR B q L i + dD B q L i
theorem acR_v {B : Nat → Nat} {q L : Nat} (h : L ≤ 6) : acR B q L 6 = pkR B q L := by
  rw [dD_v h]; simp only [acR]; omega
theorem t11_packed {B : Nat → Nat} {N q L : Nat} (hN : N ≤ 700) (hq : q + L ≤ N) (hL : L ≤ 6) (hl : ∀ j, j < L → isLb (B (q + j)) = true) {Y : Mem} (hR : RdY B N Y) {Q : Int32 → Mem → Prop} (h : Q (nI (pkR B q L)) Y) : p_X11_packed (nI q) (nI (q + L)) Y Q := by
  have d2 : ∀ i, dD B q L i < 32 := fun i => by
    unfold dD; split
    · rename_i y; have := isLb_b (hl i y); omega
    · omega
  have ab : ∀ i, acR B q L i < 32 ^ i := fun i => by
    induction i with
    | zero => rw [acR]; decide
    | succ i ih => rw [acR, Nat.pow_succ]; have := d2 i; omega
  have lp : ∀ d i, i + d = 6 → b_X11_packed_5 Q (d + 1) (nI q) (nI (q + L)) (nI (acR B q L i)) (nI (q + i)) Y := by
    intro d
    induction d with
    | zero =>
      intro i hi
      have : i = 6 := by omega
      subst this
      unfold b_X11_packed_5
      rw [show (6 : Int32) = nI 6 from rfl, nI_add]
      refine ⟨fun _ => ?_, fun z => absurd (nI_le (by omega) (by omega)) z⟩
      rw [acR_v hL]; exact h
    | succ d ih =>
      intro i hi
      have a := ab i
      have b := ab (i + 1)
      have p5 : 32 ^ i ≤ 32 ^ 5 := Nat.pow_le_pow_right (by decide) (by omega)
      have sh : (nI (acR B q L i) <<< ((5 : Int32) &&& 31)) = nI (2 ^ 5 * acR B q L i) := by
        rw [show (5 : Int32) = nI 5 from rfl, pk_shlN _ 5 (sh_l 5 (by decide)) (by omega), Nat.mul_comm]
      have nx : ∀ s1, s1 = nI (dD B q L i) → b_X11_packed_37 Q (fun v1 v2 v3 v4 M => b_X11_packed_5 Q (d + 1) v1 v2 v3 v4 M) (nI q) (nI (q + L)) (nI (q + i)) ((nI (acR B q L i) <<< ((5 : Int32) &&& 31))) s1 Y := by
        rintro s1 rfl x3 rfl x4 rfl
        rw [sh, nI_1, fa_or_sum (k := 5) _ (d2 i), show 2 ^ 5 * acR B q L i + dD B q L i = acR B q L (i + 1) from by rw [acR]]
        exact ih (i + 1) (by omega)
      unfold b_X11_packed_5
      rw [show (6 : Int32) = nI 6 from rfl, nI_add]
      refine ⟨fun z => absurd z (nI_ge (by omega) (by omega)), fun _ => ?_⟩
      rcases Nat.lt_or_ge i L with y | y
      · refine ⟨fun z => absurd z (nI_ge (by omega) (by omega)), fun _ => ⟨vp_in_nI (by omega) (by decide), ?_⟩⟩
        rw [nI_clamp (by omega), hR.2 _ (by omega)]
        refine nx _ ?_
        have := isLb_b (hl i y)
        rw [show (96 : Int32) = nI 96 from rfl, pk_sub (by omega)]
        unfold dD; rw [if_pos y]
      · refine ⟨fun _ => nx _ ?_, fun z => absurd (nI_le (by omega) (by omega)) z⟩
        unfold dD; rw [if_neg (by omega)]; rfl
  exact ⟨7, lp 6 0 rfl⟩
