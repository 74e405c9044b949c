/-! channels followed n periods; op 22 -/
def canB (S : Nat → Nat) : Bool := decide (S 7 = 0) && decide (S 5 < 200)
def stepF (T : Txt) (S : Nat → Nat) : Nat → Nat := if canB S then stepS T S else S
def itS (T : Txt) : Nat → (Nat → Nat) → (Nat → Nat)
  | 0, S => S
  | k + 1, S => stepF T (itS T k S)
def hitN (T : Txt) (S : Nat → Nat) (k : Nat) : Nat := bN (canB (itS T k S))
def sumN (f : Nat → Nat) : Nat → Nat
  | 0 => 0
  | n + 1 => sumN f n + f n
theorem sumN_0 : ∀ n, sumN (fun _ => 0) n = 0
  | 0 => rfl
  | n + 1 => by rw [sumN, sumN_0 n]
theorem sumN_add (f g : Nat → Nat) : ∀ n, sumN (fun k => f k + g k) n = sumN f n + sumN g n
  | 0 => rfl
  | n + 1 => by
    show sumN (fun k => f k + g k) n + (f n + g n) = sumN f n + f n + (sumN g n + g n)
    rw [sumN_add f g n]; omega
theorem sumN_swap (h : Nat → Nat → Nat) (m : Nat) : ∀ n, sumN (fun k => sumN (fun c => h c k) m) n = sumN (fun c => sumN (fun k => h c k) n) m
  | 0 => (sumN_0 m).symm
  | n + 1 => by
    show sumN (fun k => sumN (fun c => h c k) m) n + sumN (fun c => h c n) m = sumN (fun c => sumN (fun k => h c k) n + h c n) m
    rw [sumN_add, sumN_swap h m n]
theorem canB_e {S : Nat → Nat} : canB S = true ↔ S 7 = 0 ∧ S 5 < 200 := by
  unfold canB
  rw [Bool.and_eq_true, decide_eq_true_eq, decide_eq_true_eq]
theorem stepF_b {T : Txt} {nb : Nat} {S : Nat → Nat} (h : SBn nb S) : SBn nb (stepF T S) := by
  unfold stepF
  cases hc : canB S
  · exact h
  · obtain ⟨a, b⟩ := canB_e.mp hc
    exact stepS_b h a b
theorem itS_b {T : Txt} {nb : Nat} {S : Nat → Nat} (h : SBn nb S) : ∀ k, SBn nb (itS T k S)
  | 0 => h
  | k + 1 => stepF_b (itS_b h k)
theorem t10_can {S : Nat → Nat} {c : Nat} (h5 : S 5 < 201) (h7 : S 7 ≤ 200) {X : Mem} (hS : XS S X c) {Q : Int32 → Mem → Prop} (h : Q (bitV (canB S)) X) : p_X1_canFollow c X Q := by
  unfold p_X1_canFollow p_X1_isLost
  have e5 : (200 : Int32) ≤ X.1 30 c 5 ↔ 200 ≤ S 5 := by
    rw [hS.1 5 (by decide), show (200 : Int32) = nI 200 from rfl, nI_leI (by decide) (by omega)]
  rw [hS.2.1]
  unfold canB at h
  have hl : lostX (S 7) = -2 ↔ S 7 = 0 := by
    unfold lostX
    by_cases e : S 7 = 0
    · rw [if_pos e]; exact ⟨fun _ => e, fun _ => rfl⟩
    · rw [if_neg e]
      refine ⟨fun z => absurd z ?_, fun z => absurd z e⟩
      have : ∀ o, o < 200 → ¬ nI o = -2 := by decide +kernel
      exact this _ (by omega)
  rw [hl]
  refine ⟨fun a => ⟨fun b => absurd rfl b, fun _ => ⟨fun x => ?_, fun x => ?_⟩⟩, fun a => ⟨fun _ => ?_, fun b => absurd b z1n⟩⟩
  · have x := e5.mp x
    rw [decide_eq_false (p := S 5 < 200) (by omega), Bool.and_false] at h; exact h
  · have x : ¬ 200 ≤ S 5 := fun z => x (e5.mpr z)
    rw [decide_eq_true a, decide_eq_true (p := S 5 < 200) (by omega)] at h; exact h
  · rw [decide_eq_false a] at h; exact h
def FA (q : Nat) (X Z : Mem) : Prop := (∀ f i k, (f < 5 ∨ 12 < f) → ¬ (f = 30 ∧ 4 * q ≤ i ∧ i < 4 * q + 4) → Z.1 f i k = X.1 f i k) ∧ (∀ f i k, (f < 5 ∨ 12 < f) → ¬ (f = 30 ∧ 4 * q ≤ i ∧ i < 4 * q + 4) → Z.2.1 f i k = X.2.1 f i k) ∧ Z.2.2 = X.2.2
theorem FA.rf (q : Nat) (X : Mem) : FA q X X := ⟨fun _ _ _ _ _ => rfl, fun _ _ _ _ _ => rfl, rfl⟩
theorem FA.tr {q : Nat} {X Z V : Mem} (h : FA q X Z) (h2 : FA q Z V) : FA q X V := ⟨fun f i k e g => (h2.1 f i k e g).trans (h.1 f i k e g), fun f i k e g => (h2.2.1 f i k e g).trans (h.2.1 f i k e g), h2.2.2.trans h.2.2⟩
theorem FO.fa {q j : Nat} (hj : j < 4) {X Z : Mem} (h : FO (4 * q + j) X Z) : FA q X Z := ⟨fun f i k e g => h.1 f i k e (by omega), fun f i k e g => h.2.1 f i k e (by omega), h.2.2⟩
theorem FA.cw {T : Txt} {w q : Nat} {X Z : Mem} (h : FA q X Z) (H : CW T w X) : CW T w Z := by
  have hx : AgXt X Z := by
    refine ⟨fun f i k e => h.1 f i k ?_ ?_, fun k => by rw [h.2.2]⟩
    · unfold kXt at e
      split at e <;> first | omega | exact absurd e (by decide)
    · rintro ⟨rfl, _⟩; exact Bool.false_ne_true e
  exact ⟨H.1.ag hx, H.2.1.ag hx, H.2.2.ag hx⟩
theorem XS.fo {S : Nat → Nat} {c d : Nat} {X Z : Mem} (h : FO d X Z) (hd : c ≠ d) (H : XS S X c) : XS S Z c :=
  ⟨fun k hk => (h.1 30 c k (by omega) (by omega)).trans (H.1 k hk), (h.1 30 c 7 (by omega) (by omega)).trans H.2.1, (h.1 30 c 9 (by omega) (by omega)).trans H.2.2.1, (congrArg uN (h.2.1 30 c 8 (by omega) (by omega))).trans H.2.2.2⟩
theorem t10_all_in {T : Txt} {w q m n k cnt : Nat} {Sv : Nat → Nat → Nat} (h1 : TB T) (hq : q < 13) (hm : m ≤ 4) {X : Mem} (hW : CW T w X) (hc0 : X.1 27 q 1 = nI m) (hB : ∀ j, j < m → SBn (T 0 0) (Sv j)) {v2 : Int32} {Q : Int32 → Mem → Prop} {k5 : Nat → Int32 → Int32 → Int32 → Mem → Prop} (h : ∀ Z, FA q X Z → CacheX T Z → (∀ i, i < m → XS (itS T (k + 1) (Sv i)) Z (4 * q + i)) → k5 q v2 (nI (cnt + sumN (fun j => hitN T (Sv j) k) m)) (nI (k + 1)) Z) : ∀ (d j : Nat) (Z : Mem), j + d = m → FA q X Z → CacheX T Z → (∀ i, i < j → XS (itS T (k + 1) (Sv i)) Z (4 * q + i)) → (∀ i, j ≤ i → i < m → XS (itS T k (Sv i)) Z (4 * q + i)) → b_X10_followAll_14 Q k5 (d + 1) q v2 (nI (cnt + sumN (fun j => hitN T (Sv j) k) j)) (nI k) (nI j) Z := by
  intro d
  induction d with
  | zero =>
    intro j Z hj hf hc a b
    have : j = m := by omega
    subst this
    have e1 : Z.1 27 q 1 = nI j := (hf.1 27 q 1 (by omega) (by omega)).trans hc0
    refine ⟨fun _ => ?_, fun z => absurd (by rw [e1]; exact Int32.le_refl _) z⟩
    rintro x3 rfl
    rw [nI_1]
    exact h Z hf hc a
  | succ d ih =>
    intro j Z hj hf hc a b
    have e1 : Z.1 27 q 1 = nI m := (hf.1 27 q 1 (by omega) (by omega)).trans hc0
    have ij : vp_in (nI j) 4 := vp_in_nI (by omega) (by omega)
    have hS := b j (Nat.le_refl _) (by omega)
    have hBj := itS_b (T := T) (hB j (by omega)) k
    refine ⟨fun z => absurd z (by rw [e1]; exact nI_ge (by omega) (by omega)), fun _ => ⟨ij, ?_⟩⟩
    rw [nI_clamp (by omega)]
    have es : sumN (fun j => hitN T (Sv j) k) (j + 1) = sumN (fun j => hitN T (Sv j) k) j + bN (canB (itS T k (Sv j))) := rfl
    refine t10_can hBj.2.2.2.2.2.1 hBj.2.2.2.2.2.2.2.2.1 hS ?_
    cases hcan : canB (itS T k (Sv j))
    · refine ⟨fun _ => ?_, fun z => absurd rfl z⟩
      rintro x7 rfl
      rw [nI_1]
      have ei : itS T (k + 1) (Sv j) = itS T k (Sv j) := by
        show stepF T (itS T k (Sv j)) = _
        unfold stepF; rw [hcan]; rfl
      have go := ih (j + 1) Z (by omega) hf hc (fun i hi => ?_) (fun i hi hi2 => b i (by omega) hi2)
      · rw [es, hcan] at go
        exact go
      · rcases Nat.lt_or_ge i j with y | y
        · exact a i y
        · have : i = j := by omega
          subst this
          rw [ei]; exact hS
    · refine ⟨fun z => absurd z (by decide), fun _ => ⟨ij, ?_⟩⟩
      have ei : itS T (k + 1) (Sv j) = stepS T (itS T k (Sv j)) := by
        show stepF T (itS T k (Sv j)) = _
        unfold stepF; rw [hcan]; rfl
      refine t10_fol1 h1 (hf.cw hW) hc hS hBj (canB_e.mp hcan).2 (fun V hV hcV hSV => ?_)
      rintro x10 rfl x7 rfl
      rw [nI_1, nI_1]
      have go := ih (j + 1) V (by omega) (hf.tr (hV.fa (by omega))) hcV (fun i hi => ?_) (fun i hi hi2 => (b i (by omega) hi2).fo hV (by omega))
      · rw [es, hcan] at go
        exact go
      · rcases Nat.lt_or_ge i j with y | y
        · exact (a i y).fo hV (by omega)
        · have : i = j := by omega
          subst this
          rw [ei]; exact hSV
theorem t10_all {T : Txt} {w q m n : Nat} {Sv : Nat → Nat → Nat} (h1 : TB T) (hq : q < 13) (hm : m ≤ 4) (hn : n < 100) {X : Mem} (hW : CW T w X) (h13 : CacheX T X) (hc0 : X.1 27 q 1 = nI m) (hB : ∀ j, j < m → SBn (T 0 0) (Sv j)) (hS : ∀ j, j < m → XS (Sv j) X (4 * q + j)) {Q : Int32 → Mem → Prop} (h : ∀ Z, FA q X Z → CacheX T Z → (∀ i, i < m → XS (itS T n (Sv i)) Z (4 * q + i)) → Q (nI (sumN (fun k => sumN (fun j => hitN T (Sv j) k) m) n)) Z) : p_X10_followAll q (nI n) X Q := by
  have go : ∀ (d k : Nat) (Z : Mem), k + d = n → FA q X Z → CacheX T Z → (∀ i, i < m → XS (itS T k (Sv i)) Z (4 * q + i)) → b_X10_followAll_5 Q (d + 1) q (nI n) (nI (sumN (fun k => sumN (fun j => hitN T (Sv j) k) m) k)) (nI k) Z := by
    intro d
    induction d with
    | zero =>
      intro k Z hk hf hc a
      have : k = n := by omega
      subst this
      exact ⟨fun _ => h Z hf hc a, fun z => absurd (Int32.le_refl _) z⟩
    | succ d ih =>
      intro k Z hk hf hc a
      refine ⟨fun z => absurd z (nI_ge (by omega) (by omega)), fun _ => ⟨m + 1, ?_⟩⟩
      exact t10_all_in (n := n) (cnt := sumN (fun k => sumN (fun j => hitN T (Sv j) k) m) k) h1 hq hm hW hc0 hB (fun V hV hcV aV => ih (k + 1) V (by omega) hV hcV aV) m 0 Z (by omega) hf hc (fun i hi => absurd hi (by omega)) (fun i _ hi => a i hi)
  exact ⟨n + 1, go n 0 X (by omega) (FA.rf q X) h13 hS⟩
/-! the reference -/
def FR (kk : Nat) (Y Z : Mem) : Prop := ∀ f i k, (f < 49 ∨ 53 < f) → ¬ (f = 40 ∧ (k = 29 ∨ k = 30 ∨ k = 32)) → ¬ (f = 54 ∧ 298 * kk ≤ k ∧ k < 298 * kk + 292) → Z.1 f i k = Y.1 f i k
theorem FR.rf (kk : Nat) (Y : Mem) : FR kk Y Y := fun _ _ _ _ _ _ => rfl
theorem FR.tr {kk : Nat} {Y Z V : Mem} (h : FR kk Y Z) (h2 : FR kk Z V) : FR kk Y V := fun f i k a b c => (h2 f i k a b c).trans (h f i k a b c)
theorem FQ.fr {kk c : Nat} (hc : c < 4) {Y Z : Mem} (h : FQ (298 * kk + 73 * c) Y Z) : FR kk Y Z := fun f i k a b e => h f i k a b (by omega)
theorem FR.cy {T : Txt} {kk : Nat} {Y Z : Mem} (h1 : TB T) (h : FR kk Y Z) (H : CY T Y) : CY T Z := by
  refine ⟨?_, fun k hk => (h 48 0 k (by omega) (by omega) (by omega)).trans (H.2 k hk)⟩
  refine H.1.ag h1 (fun f k e => h f 0 k ?_ ?_ ?_)
  · unfold kYt at e
    split at e <;> first | omega | exact absurd e (by decide)
  · rintro ⟨rfl, rfl | rfl | rfl⟩ <;> exact absurd e (by decide)
  · rintro ⟨rfl, _⟩; exact Bool.false_ne_true e
theorem FR.ns {noise seed : Nat} {only : Option Nat} {kk : Nat} {Y Z : Mem} (h : FR kk Y Z) (H : NsY noise seed only Y) : NsY noise seed only Z := ⟨(h 40 0 22 (by omega) (by omega) (by omega)).trans H.1, (h 40 0 23 (by omega) (by omega) (by omega)).trans H.2.1, (h 40 0 24 (by omega) (by omega) (by omega)).trans H.2.2⟩
theorem YS.fq {S : Nat → Nat} {u v : Nat} (hu : u + 73 ≤ v ∨ v + 73 ≤ u) (h64 : S 8 ≤ 64) {Y Z : Mem} (h : FQ v Y Z) (H : YS S Y u) : YS S Z u :=
  ⟨fun k hk => (h 54 0 _ (by omega) (by omega) (by omega)).trans (H.1 k hk), fun i hi => (h 54 0 _ (by omega) (by omega) (by omega)).trans (H.2 i hi)⟩
theorem t11_all_in {T : Txt} {kk m n c cnt : Nat} {Sv : Nat → Nat → Nat} (h1 : TB T) (hk2 : kk < 2) (hm : m ≤ 4) (hn : n < 100) (hc : c < m) {Y : Mem} (hC : CY T Y) (hN : NsY (T 0 4) (T 0 5) none Y) (hb : Y.1 40 0 35 = nI kk) (hB : ∀ j, j < m → SBn (T 0 0) (Sv j)) {Q : Int32 → Mem → Prop} {k4 : Int32 → Int32 → Int32 → Mem → Prop} (h : ∀ Z, FR kk Y Z → (∀ i, i < m → YS (itS T (if i ≤ c then n else 0) (Sv i)) Z (298 * kk + 73 * i)) → k4 (nI n) (nI (cnt + sumN (fun k => hitN T (Sv c) k) n)) (nI (c + 1)) Z) : ∀ (d k : Nat) (Z : Mem), k + d = n → FR kk Y Z → (∀ i, i < m → YS (itS T (if i < c then n else if i = c then k else 0) (Sv i)) Z (298 * kk + 73 * i)) → b_X11_followed_18 Q k4 (d + 1) (nI n) (nI (cnt + sumN (fun k => hitN T (Sv c) k) k)) (nI c) (nI k) Z := by
  intro d
  induction d with
  | zero =>
    intro k Z hk hf a
    have : k = n := by omega
    subst this
    refine ⟨fun _ => ?_, fun z => absurd (Int32.le_refl _) z⟩
    rintro x4 rfl
    rw [nI_1]
    refine h Z hf (fun i hi => ?_)
    have := a i hi
    rw [show (if i < c then k else if i = c then k else 0) = (if i ≤ c then k else 0) from by split <;> split <;> (try split) <;> omega] at this
    exact this
  | succ d ih =>
    intro k Z hk hf a
    have hS := a c hc
    rw [if_neg (Nat.lt_irrefl c), if_pos rfl] at hS
    have hBj := itS_b (T := T) (hB c hc) k
    have es : sumN (fun k => hitN T (Sv c) k) (k + 1) = sumN (fun k => hitN T (Sv c) k) k + bN (canB (itS T k (Sv c))) := rfl
    refine ⟨fun z => absurd z (nI_ge (by omega) (by omega)), fun _ => t11_fol1 h1 hk2 (by omega) (hf.cy h1 hC) (hf.ns hN) ((hf 40 0 35 (by omega) (by omega) (by omega)).trans hb) hS hBj (fun hz => ?_) (fun e7 e5 V hV hSV => ?_)⟩
    · have hcan : canB (itS T k (Sv c)) = false := by
        cases y : canB (itS T k (Sv c))
        · rfl
        · obtain ⟨y1, y2⟩ := canB_e.mp y
          exact absurd hz (by omega)
      refine ⟨fun _ => ?_, fun z => absurd rfl z⟩
      rintro x7 rfl x8 rfl
      rw [nI_1, Int32.add_zero]
      have ei : itS T (k + 1) (Sv c) = itS T k (Sv c) := by
        show stepF T (itS T k (Sv c)) = _
        unfold stepF; rw [hcan]; rfl
      have go := ih (k + 1) Z (by omega) hf (fun i hi => ?_)
      · rw [es, hcan] at go
        exact go
      · by_cases y : i = c
        · subst y
          rw [if_neg (Nat.lt_irrefl i), if_pos rfl, ei]; exact hS
        · have := a i hi
          rw [if_neg (c := i = c) y] at this ⊢
          exact this
    · have hcan : canB (itS T k (Sv c)) = true := canB_e.mpr ⟨e7, e5⟩
      refine ⟨fun z => absurd z (by decide), fun _ => ?_⟩
      rintro x7 rfl x8 rfl
      rw [nI_1, nI_1]
      have ei : itS T (k + 1) (Sv c) = stepS T (itS T k (Sv c)) := by
        show stepF T (itS T k (Sv c)) = _
        unfold stepF; rw [hcan]; rfl
      have go := ih (k + 1) V (by omega) (hf.tr (hV.fr (by omega))) (fun i hi => ?_)
      · rw [es, hcan] at go
        exact go
      · by_cases y : i = c
        · subst y
          rw [if_neg (Nat.lt_irrefl i), if_pos rfl, ei]; exact hSV
        · have := a i hi
          rw [if_neg (c := i = c) y] at this ⊢
          exact this.fq (by omega) (itS_b (T := T) (hB i hi) _).2.2.2.2.2.2.2.2.2.1 hV
theorem t11_all {T : Txt} {kk m n : Nat} {Sv : Nat → Nat → Nat} (h1 : TB T) (hk2 : kk < 2) (hm : m ≤ 4) (hn : n < 100) {Y : Mem} (hC : CY T Y) (hN : NsY (T 0 4) (T 0 5) none Y) (hb : Y.1 40 0 35 = nI kk) (hc0 : Y.1 54 0 (298 * kk + 292) = nI m) (hB : ∀ j, j < m → SBn (T 0 0) (Sv j)) (hS : ∀ j, j < m → YS (Sv j) Y (298 * kk + 73 * j)) {Q : Int32 → Mem → Prop} (h : ∀ Z, FR kk Y Z → (∀ i, i < m → YS (itS T n (Sv i)) Z (298 * kk + 73 * i)) → Q (nI (sumN (fun c => sumN (fun k => hitN T (Sv c) k) n) m)) Z) : p_X11_followed (nI n) Y Q := by
  have go : ∀ (d c : Nat) (Z : Mem), c + d = m → FR kk Y Z → (∀ i, i < m → YS (itS T (if i < c then n else 0) (Sv i)) Z (298 * kk + 73 * i)) → b_X11_followed_4 Q (d + 1) (nI n) (nI (sumN (fun c => sumN (fun k => hitN T (Sv c) k) n) c)) (nI c) Z := by
    intro d
    induction d with
    | zero =>
      intro c Z hc hf a
      have : c = m := by omega
      subst this
      refine mk_of (u := 292) hk2 (by decide) ((hf 40 0 35 (by omega) (by omega) (by omega)).trans hb) ?_
      rw [hf 54 0 _ (by omega) (by omega) (by omega), hc0]
      refine ⟨fun _ => h Z hf (fun i hi => ?_), fun z => absurd (Int32.le_refl _) z⟩
      have := a i hi
      rw [if_pos hi] at this
      exact this
    | succ d ih =>
      intro c Z hc hf a
      refine mk_of (u := 292) hk2 (by decide) ((hf 40 0 35 (by omega) (by omega) (by omega)).trans hb) ?_
      rw [hf 54 0 _ (by omega) (by omega) (by omega), hc0]
      refine ⟨fun z => absurd z (nI_ge (by omega) (by omega)), fun _ => ⟨n + 1, ?_⟩⟩
      refine t11_all_in (cnt := sumN (fun c => sumN (fun k => hitN T (Sv c) k) n) c) h1 hk2 hm hn (by omega) hC hN hb hB (fun V hV aV => ih (c + 1) V (by omega) hV (fun i hi => ?_)) n 0 Z (by omega) hf (fun i hi => ?_)
      · have := aV i hi
        rw [show (if i ≤ c then n else 0) = (if i < c + 1 then n else 0) from by split <;> split <;> omega] at this
        exact this
      · have := a i hi
        rw [show (if i < c then n else 0) = (if i < c then n else if i = c then 0 else 0) from by split <;> (try split) <;> omega] at this
        exact this
  exact ⟨m + 1, go m 0 Y (by omega) (FR.rf kk Y) (fun i hi => by rw [if_neg (Nat.not_lt_zero i)]; exact hS i hi)⟩
theorem skol {n : Nat} {P : Nat → (Nat → Nat) → Prop} (h : ∀ j, j < n → ∃ S, P j S) : ∃ Sv : Nat → Nat → Nat, ∀ j, j < n → P j (Sv j) := by
  have : ∀ j, ∃ S, j < n → P j S := fun j => by
    by_cases e : j < n
    · obtain ⟨S, hS⟩ := h j e
      exact ⟨S, fun _ => hS⟩
    · exact ⟨fun _ => 0, fun z => absurd z e⟩
  exact Classical.skolem.mp this
theorem op_22 (X Y : Mem) (a1 : Int32) (hR : Rel X Y) : p_X10_follow a1 X (fun r X1 => p_X11_follow a1 Y (fun r1 Y1 => r = r1 ∧ Rel X1 Y1)) := by
  obtain ⟨T, w, h1, h2, h3, h4, h5, h6, h7, h8, h9, h10, h11, h12, h13⟩ := id hR
  have ym : ∀ {Q : Int32 → Mem → Prop}, (¬ inL a1 1 65 → Q (-1) (sI Y 40 0 2 0)) → (inL a1 1 65 → (p_X11_canUndo (sI Y 40 0 2 0) (fun M4 => (p_X11_followed a1 M4 (fun r5 M5 => (Q r5 M5)))))) → p_X11_follow a1 Y Q := by
    intro Q q0 q1
    rintro M1 rfl
    exact e_isIn (lo := 1) (m := 64) (n := 65) (by decide) rfl (by decide) (fun z => ⟨fun y => absurd rfl y, fun _ => q0 z⟩) (fun g => ⟨fun _ => q1 g, fun y => absurd y z1n⟩)
  have no : ¬ inL a1 1 65 → p_X11_follow a1 Y (fun r1 Y1 => -1 = r1 ∧ Rel X Y1) := fun n => ym (fun _ => ⟨rfl, hR.th 0⟩) (fun g => absurd g n)
  refine ⟨fun z => no (inL_lo (lo := 1) (by decide) z), fun z1 => ⟨fun z2 => ?_, fun z => no (inL_gt (m := 64) (by decide) rfl (Int32.not_le.mp z))⟩⟩
  have gg : inL a1 1 65 := inL_mk' (m := 64) (by decide) rfl z1 (Int32.not_lt.mpr z2) (by decide)
  have gg' := gg
  obtain ⟨t, t1, t2, rfl⟩ := gg
  obtain ⟨n, v, g1, g2, g3, g4, g5, g6⟩ := id h11
  obtain ⟨n0, hn0, hc0, hd0, hch, hrg⟩ := id h9
  obtain ⟨k5, k6, k7, k8, k9, k10⟩ := th_parts (v := 0) h1 h5 h6 h7 h8 h9 h10
  refine t_push g1 g2 hn0 g5 g3 hc0 (fun Z hP => ?_)
  have p27 : Z.1 27 0 1 = nI n0 := (hP.2.2.1 27 0 1 (by omega) (by omega) (by omega) (by omega)).trans hc0
  have hWZ : CW T w Z := ⟨h2.ag hP.xt, h3.ag hP.xt, h4.ag hP.xt⟩
  obtain ⟨Sv, hSv⟩ := skol (P := fun j S => SBn (T 0 0) S ∧ XS S X (4 * 0 + j) ∧ YS S (sI Y 40 0 2 0) (298 * 0 + 73 * j)) (n := n0) (fun j hj => by
    obtain ⟨_, _, _, _, ch, _⟩ := id k9
    have : ChR (T 0 0) X (4 * 0 + j) (sI Y 40 0 2 0) (298 * 0 + 73 * j) := by
      obtain ⟨n', _, e', _, ch, _⟩ := id k9
      have : n' = n0 := (nI_eq (by omega) (by omega)).mp (e'.symm.trans hc0)
      exact ch j (by omega)
    exact this.spec)
  have xz : ∀ j, j < n0 → XS (Sv j) Z (4 * 0 + j) := fun j hj => by
    obtain ⟨_, a, _⟩ := hSv j hj
    have o := fun k => hP.2.2.1 30 (4 * 0 + j) k (by omega) (by omega) (by omega) (by omega)
    exact ⟨fun k hk => (o k).trans (a.1 k hk), (o 7).trans a.2.1, (o 9).trans a.2.2.1, (congrArg uN (hP.2.2.2.1 30 (4 * 0 + j) 8 (by omega))).trans a.2.2.2⟩
  refine t10_all h1 (by decide) hn0 (by omega) hWZ (h13.ag hP.c) p27 (fun j hj => (hSv j hj).1) xz (fun Z2 hZ2 hcZ2 hS2 => ?_)
  refine ym (fun n => absurd gg' n) (fun _ => t_canUndo (n := n) g1 (by rw [sI_n (by omega)]; exact g4) (fun V hU => ?_))
  have v35 : V.1 40 0 35 = nI 0 := (hU.2.1 40 0 35 (by omega) (by omega)).trans (by rw [sI_n (by omega)]; exact h6.1)
  have v292 : V.1 54 0 (298 * 0 + 292) = nI n0 := (hU.2.1 54 0 292 (by omega) (by omega)).trans (by rw [sI_n (by omega)]; exact hd0)
  have hCV : CY T V := ⟨k5.ag h1 hU.yt, fun k hk => (hU.yt 48 k rfl).trans (k6.2.2.2.2.1 k hk)⟩
  have hNV : NsY (T 0 4) (T 0 5) none V := (k6.ag hU.yt).ns
  have yv : ∀ j, j < n0 → YS (Sv j) V (298 * 0 + 73 * j) := fun j hj => by
    obtain ⟨a0, _, a⟩ := hSv j hj
    have h64 := a0.2.2.2.2.2.2.2.2.2.1
    exact ⟨fun k hk => (hU.2.1 54 0 _ (by omega) (by omega)).trans (a.1 k hk), fun i hi => (hU.2.1 54 0 _ (by omega) (by omega)).trans (a.2 i hi)⟩
  refine t11_all h1 (by decide) hn0 (by omega) hCV hNV v35 v292 (fun j hj => (hSv j hj).1) yv (fun V2 hV2 hSV2 => ⟨by rw [sumN_swap], ?_⟩)
  refine rel_after h1 h2 h3 h4 k5 k6 k7 k8 h12 k9 k10 g1 g2 (fun i hi => StR.ag (AgX.rf X) (AgY.set rfl) (by omega) (by omega) (g6 i hi)) hc0 hn0 hP hU (fun f i k e => ?_) (fun i hi => hZ2.2.1 30 i 8 (by omega) (by omega)) hZ2.2.2 (fun f k e1 e2 => ?_) ⟨n0, hn0, ?_, ?_, fun j hj => ChR.ofS (itS_b (hSv j hj).1 t) (hS2 j hj) (hSV2 j hj), fun b hb => ?_⟩ hcZ2
  · refine hZ2.1 f i k ?_ ?_
    · have : ¬ (5 ≤ f ∧ f ≤ 12) := by
        rintro ⟨a, b⟩
        have : f = 5 ∨ f = 6 ∨ f = 7 ∨ f = 8 ∨ f = 9 ∨ f = 10 ∨ f = 11 ∨ f = 12 := by omega
        rcases this with rfl | rfl | rfl | rfl | rfl | rfl | rfl | rfl <;> simp [KS0, kXt] at e
      omega
    · rintro ⟨rfl, a, b⟩
      simp [KS0, kXt] at e
      omega
  · refine hV2 f 0 k ?_ ?_ (by omega)
    · unfold kY at e2
      split at e2 <;> first | omega | exact absurd e2 (by decide)
    · rintro ⟨rfl, rfl | rfl | rfl⟩ <;> exact absurd e2 (by decide)
  · exact (hZ2.1 27 0 1 (by omega) (by omega)).trans p27
  · exact (hV2 54 0 _ (by omega) (by omega) (by omega)).trans v292
  · have hs1 : StR (T 0 0) Z 0 V 0 := StR.push k9 hP hU
    obtain ⟨_, _, _, _, _, q5⟩ := hs1
    rw [hZ2.1 29 0 b (by omega) (by omega), hV2 54 0 _ (by omega) (by omega) (by omega)]
    exact q5 b hb
