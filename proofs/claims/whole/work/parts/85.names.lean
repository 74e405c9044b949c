/-! numbers and names on both sides -/
theorem tkK_le {B : Nat → Nat} {N p : Nat} : tkK B N p ≤ 4 := by
  unfold tkK; repeat' split
  all_goals decide
theorem kd_3 {K W : Nat} : kdY K W = 3 ↔ K = 2 := by
  unfold kdY; repeat' split
  all_goals omega
theorem kd_4 {K W : Nat} : kdY K W = 4 ↔ K = 3 := by
  unfold kdY; repeat' split
  all_goals omega
theorem kd_2 {K W : Nat} : kdY K W = 2 ↔ K = 1 ∧ ¬ wI W < 12 := by
  unfold kdY; repeat' split
  all_goals omega
theorem kd_1 {K W : Nat} : kdY K W = 1 ↔ K = 1 ∧ wI W < 12 := by
  unfold kdY; repeat' split
  all_goals omega
theorem kd_0 {K W : Nat} : kdY K W = 0 ↔ K = 0 := by
  unfold kdY; repeat' split
  all_goals omega
theorem kd_le {B : Nat → Nat} {N p W : Nat} : kdY (tkK B N p) W ≤ 5 := by
  have := tkK_le (B := B) (N := N) (p := p)
  unfold kdY; repeat' split
  all_goals omega
theorem nv_tk {B : Nat → Nat} {N p : Nat} : ((nv nX B (N - tkP B N p) (tkP B N p) 0 = tkV B N p ∧ tkV B N p ≤ 99999) ∨ (99999 < nv nX B (N - tkP B N p) (tkP B N p) 0 ∧ 99999 < tkV B N p)) ∧ nv nX B (N - tkP B N p) (tkP B N p) 0 ≤ 1000000 ∧ tkV B N p < 1000000 := by
  have a := nv_rel (B := B) (N - tkP B N p) (tkP B N p) 0 0 (Or.inl ⟨rfl, by decide⟩)
  have b := nv_b (B := B) (N - tkP B N p) (tkP B N p) 0 0 (by decide) (by decide)
  unfold tkV
  refine ⟨?_, b⟩
  rcases a with ⟨x, y⟩ | ⟨x, y⟩
  · exact Or.inl ⟨x, by omega⟩
  · exact Or.inr ⟨x, y⟩
theorem t10_nums_l {U : Txt} {O : Nat → Bool} {w : Nat} {B : Nat → Nat} {N k : Nat} (hB : TxB B N) (hk : k < 12) {X : Mem} {Q : Int32 → Mem → Prop} : ∀ (l : List (Nat × Nat)) (j p : Nat) (Z : Mem), (∀ i, i < l.length → l.getD i (0, 0) = (rg k).getD (j + i) (0, 0)) → j + l.length = (rg k).length → p ≤ N → FwX w X Z → Z.2 = X.2 → LnX U O w B N p Z → (∀ e, rd B N l p = .inl e → ∀ Z', ErX w X e Z' → Q 0 Z') → (∀ vs r, rd B N l p = .inr (vs, r) → ∀ Z', FwX w X Z' → Z'.2 = X.2 → LnX U O w B N r Z' → (∀ i, i < j → Z'.1 3 0 i = Z.1 3 0 i) → (∀ (i v : Nat), vs[i]? = some v → Z'.1 3 0 (j + i) = nI v) → Z'.1 2 0 9 = Z.1 2 0 9 → Q 1 Z') → b_X6_readNumbers_2 Q (l.length + 1) (nI k) (nI j) Z := by
  obtain ⟨s1, s2, s3⟩ := rg_s k hk
  intro l
  induction l with
  | nil =>
    intro j p Z hl hj hp hF hr hS hE hO
    have hj' : j = (rg k).length := by rw [← hj]; rfl
    refine ⟨vp_in_nI hk (by decide), ?_⟩
    rw [nI_clamp (by omega), s1]
    exact ⟨fun _ => hO [] p rfl Z hF hr hS (fun _ _ => rfl) (fun i v z => absurd z (fun z => nomatch z)) rfl, fun z => absurd (nI_le (by omega) (by omega)) z⟩
  | cons a t ih =>
    intro j p Z hl hj hp hF hr hS hE hO
    have hj' : j + (t.length + 1) = (rg k).length := hj
    have ha : (rg k).getD j (0, 0) = a := (hl 0 (Nat.succ_pos _)).symm
    obtain ⟨q2, q3, q4, q5⟩ := s3 j (by omega)
    rw [ha] at q2 q3 q4 q5
    obtain ⟨hC, hT⟩ := hS
    obtain ⟨nv1, nv2, nv3⟩ := nv_tk (B := B) (N := N) (p := p)
    have hKl := tkK_le (B := B) (N := N) (p := p)
    refine ⟨vp_in_nI hk (by decide), ?_⟩
    rw [nI_clamp (by omega), s1]
    refine ⟨fun z => absurd z (nI_ge (by omega) (by omega)), fun _ => ⟨fun z => ?_, fun z => ?_⟩⟩
    · rw [hT.2.2.1, show (2 : Int32) = nI 2 from rfl] at z
      have kK : tkK B N p = 2 := (nI_eq (by omega) (by decide)).mp z
      have c4 : (4 : Int32) * nI k + nI j = nI (4 * k + j) := by rw [show (4 : Int32) = nI 4 from rfl, pk_mul, nI_add]
      rw [c4, nI_clamp (by omega), q2, q3, hT.2.2.2.2 kK]
      have nS : ¬ (a.1 ≤ tkV B N p ∧ tkV B N p ≤ a.2) → rd B N (a :: t) p = .inl (2, tkP B N p) := fun y => by
        rw [rd]; unfold numS; rw [if_pos kK, if_neg y]
      have bad : ¬ (a.1 ≤ tkV B N p ∧ tkV B N p ≤ a.2) → b_X6_readNumbers_57 Q Z := fun y =>
        t_refuse hT.1 2 (fun Z' e => hE _ (nS y) Z' ⟨hF.tr e.1, e.2⟩)
      refine ⟨vp_in_nI (by omega) (by decide), fun y => bad (fun w => ?_), fun y => ⟨vp_in_nI (by omega) (by decide), fun y2 => ⟨vp_in_nI (by omega) (by decide), ?_⟩, fun y2 => bad (fun w => y2 ?_)⟩⟩
      · have : nv nX B (N - tkP B N p) (tkP B N p) 0 < a.1 := Nat.lt_of_not_le (fun v => nI_nlt v (by omega) y)
        omega
      · have z1 : a.1 ≤ nv nX B (N - tkP B N p) (tkP B N p) 0 := Nat.le_of_not_lt (fun v => y (nI_lt v (by omega)))
        have z2 : nv nX B (N - tkP B N p) (tkP B N p) 0 ≤ a.2 := Nat.le_of_not_lt (fun v => nI_ge v (by omega) y2)
        have eV : nv nX B (N - tkP B N p) (tkP B N p) 0 = tkV B N p := by omega
        have nO : numS B N p a.1 a.2 = .inr (tkV B N p) := by unfold numS; rw [if_pos kK, if_pos (by omega)]
        rintro M9 rfl
        rw [nI_clamp (by omega), eV]
        refine (LcX.num hC).adv hB hp ((sI_n (by omega)).trans hT.2.1) (fun Z2 g1 g2 => ?_)
        rintro x11 rfl
        rw [nI_1]
        have e3 : ∀ i, Z2.1 3 0 i = (sI Z 3 0 j (nI (tkV B N p))).1 3 0 i := fun i => g1.2 3 0 i (by omega)
        have e9 : Z2.1 2 0 9 = Z.1 2 0 9 := (g1.2 2 0 9 (by omega)).trans (sI_n (by omega))
        refine ih (j + 1) (tkE B N p) Z2 (fun i hi => ?_) (by omega) (tkE_le hp).2 (hF.tr ((FwX.set (Or.inr (Or.inl rfl))).tr g1.fx)) (g1.1.trans hr) g2 (fun e he => hE e ?_) (fun vs r he Z' f1 f2 f3 f4 f5 f6 => hO (tkV B N p :: vs) r ?_ Z' f1 f2 f3 (fun i hi => ?_) (fun i v z => ?_) (f6.trans e9))
        · have := hl (i + 1) (Nat.succ_lt_succ hi)
          rw [show j + 1 + i = j + (i + 1) from by omega, ← this]; rfl
        · rw [rd, nO]; simp only [he]
        · rw [rd, nO]; simp only [he]
        · rw [f4 i (by omega), e3, sI_n (by omega)]
        · match i, z with
          | 0, z =>
            have : tkV B N p = v := Option.some.inj z
            rw [Nat.add_zero, f4 j (by omega), e3, sI_s, this]
          | i + 1, z => rw [show j + (i + 1) = j + 1 + i from by omega]; exact f5 i v z
      · exact nI_le (by omega) (by omega)
    · have kK : ¬ tkK B N p = 2 := fun y => z (by rw [hT.2.2.1, y]; rfl)
      refine t_refuse hT.1 1 (fun Z' e => hE (1, tkP B N p) ?_ Z' ⟨hF.tr e.1, e.2⟩)
      rw [rd]; unfold numS; rw [if_neg kK]
theorem t10_nums {U : Txt} {O : Nat → Bool} {w : Nat} {B : Nat → Nat} {N k p : Nat} (hB : TxB B N) (hk : k < 12) (hp : p ≤ N) {X : Mem} {Q : Int32 → Mem → Prop} (hS : LnX U O w B N p X) (hE : ∀ e, rd B N (rg k) p = .inl e → ∀ Z', ErX w X e Z' → Q 0 Z') (hO : ∀ vs r, rd B N (rg k) p = .inr (vs, r) → ∀ Z', FwX w X Z' → Z'.2 = X.2 → LnX U O w B N r Z' → (∀ (i v : Nat), vs[i]? = some v → Z'.1 3 0 i = nI v) → Z'.1 2 0 9 = X.1 2 0 9 → Q 1 Z') : p_X6_readNumbers (nI k) X Q :=
  ⟨(rg k).length + 1, t10_nums_l hB hk (rg k) 0 p X (fun i _ => by rw [Nat.zero_add]) (Nat.zero_add _) hp (FwX.rf w X) rfl hS hE (fun vs r e Z' a b c _ f g => hO vs r e Z' a b c (fun i v z => by have := f i v z; rwa [Nat.zero_add] at this) g)⟩
theorem LcY.num {U : Txt} {O : Nat → Bool} {B : Nat → Nat} {N : Nat} {Y : Mem} {v : Int32} (H : LcY U O B N Y) : LcY U O B N (sI Y 40 0 19 v) := by
  obtain ⟨a, b, ⟨c, d⟩, ⟨e1, e2, e3, e4, e5⟩, f⟩ := H
  exact ⟨⟨(sI_n (by omega)).trans a.1, fun k hk => (sI_n (by omega)).trans (a.2 k hk)⟩, fun k hk => (sI_n (by omega)).trans (b k hk), ⟨(sI_n (by omega)).trans c, (sI_n (by omega)).trans d⟩, ⟨(sI_n (by omega)).trans e1, (sI_n (by omega)).trans e2, fun b k x y => (sI_n (by omega)).trans (e3 b k x y), fun i j x y => (sI_n (by omega)).trans (e4 i j x y), fun k x => (sI_n (by omega)).trans (e5 k x)⟩, fun k x y => (sI_n (by omega)).trans (f k x y)⟩
/-- nothing but the reader's own fields -/
def NoY (Y Z : Mem) : Prop := ∀ f i k, f ≠ 40 → Z.1 f i k = Y.1 f i k
theorem KY.no {Y Z : Mem} (h : KY Y Z) : NoY Y Z := fun f i k e => h.2 f i k (fun z => e z.1)
theorem NoY.tr {Y Z V : Mem} (h : NoY Y Z) (h2 : NoY Z V) : NoY Y V := fun f i k e => (h2 f i k e).trans (h f i k e)
theorem NoY.set {Y : Mem} {k : Nat} {v : Int32} : NoY Y (sI Y 40 0 k v) := fun f i k' e => sI_n (fun z => e z.1)
theorem t11_number {U : Txt} {O : Nat → Bool} {B : Nat → Nat} {N p lo hi : Nat} (hB : TxB B N) (hp : p ≤ N) (hlo : lo ≤ 10) (hhi : hi ≤ 99999) {Y : Mem} {Q : Int32 → Mem → Prop} (hS : LnY U O B N p Y) (hE : ∀ e, numS B N p lo hi = .inl e → ∀ Z, ErY Y e Z → Q 0 Z) (hO : ∀ v, numS B N p lo hi = .inr v → ∀ Z, FwY Y Z → NoY Y Z → LnY U O B N (tkE B N p) Z → Z.1 40 0 19 = nI v → Q 1 Z) : p_X11_number (nI lo) (nI hi) Y Q := by
  obtain ⟨hC, hT⟩ := hS
  obtain ⟨nv1, nv2, nv3⟩ := nv_tk (B := B) (N := N) (p := p)
  have hKl := kd_le (B := B) (N := N) (p := p) (W := tkW B N p)
  unfold p_X11_number
  rw [hT.2.2.1]
  refine ⟨fun z => ?_, fun z => ?_⟩
  · have kK : tkK B N p = 2 := kd_3.mp ((nI_eq (b := 3) (by omega) (by decide)).mp z)
    have h9 : Y.1 40 0 9 = nI (tkV B N p) := hT.2.2.2.2 kK
    rw [h9]
    refine t_isIn (fun y => ⟨fun z => absurd rfl z, fun _ => ?_⟩) (fun y1 y2 => ⟨fun _ => ?_, fun z => absurd z (by decide)⟩)
    · refine t_wrong hT.1 2 (fun Z e => hE _ ?_ Z e)
      unfold numS; rw [if_pos kK, if_neg]
      rintro ⟨x1, x2⟩
      rcases y with y | y
      · exact nI_nlt x1 (by omega) y
      · exact nI_nlt x2 (by omega) y
    · have x1 : lo ≤ tkV B N p := Nat.le_of_not_lt (fun v => y1 (nI_lt v (by omega)))
      have x2 : tkV B N p ≤ hi := Nat.le_of_not_lt (fun v => y2 (nI_lt v (by omega)))
      rintro M4 rfl
      rw [h9]
      refine (LcY.num hC).adv hB hp ((sI_n (by omega)).trans hT.2.1) (fun Z g1 g2 => hO (tkV B N p) ?_ Z ((FwY.set (by omega)).tr g1.fy) (NoY.set.tr g1.no) g2 ((g1.2 40 0 19 (by omega)).trans sI_s))
      unfold numS; rw [if_pos kK, if_pos ⟨x1, x2⟩]
  · have kK : ¬ tkK B N p = 2 := fun y => z (by rw [kd_3.mpr y]; rfl)
    refine t_wrong hT.1 1 (fun Z e => hE _ ?_ Z e)
    unfold numS; rw [if_neg kK]
/-! names -/
def fiB (U : Txt) (v : Nat) : Nat := rn (fun b => !(U (1 + b) 0 == v)) id (U 0 0) 0
theorem fiB_le (U : Txt) (v : Nat) : fiB U v ≤ U 0 0 := by
  have := (rn_le (fun b => !(U (1 + b) 0 == v)) id (U 0 0) 0).2
  unfold fiB; omega
def fiR (U : Txt) (v : Nat) : Int32 := if fiB U v < U 0 0 then nI (fiB U v) else -1
theorem t10_numOf {U : Txt} {w v : Nat} (hU : TB U) (hw : w < 2) (hv : v < 2 ^ 31) {X : Mem} (hX : WXw U w X) {Q : Int32 → Mem → Prop} (h : Q (fiR U v) X) : p_X9_numberOf w (nI v) X Q := by
  have h5 := hU.1
  have lp : ∀ d k, k + d = U 0 0 → fiB U v = rn (fun b => !(U (1 + b) 0 == v)) id d k → b_X9_numberOf_2 Q (d + 1) w (nI v) (nI k) X := by
    intro d
    induction d with
    | zero =>
      intro k hk e
      unfold b_X9_numberOf_2
      rw [hX.1]
      refine ⟨fun _ => ?_, fun z => absurd (nI_le (by omega) (by omega)) z⟩
      rw [rn] at e
      unfold fiR at h; rw [if_neg (by omega)] at h; exact h
    | succ d ih =>
      intro k hk e
      unfold b_X9_numberOf_2
      rw [hX.1, nI_clamp (by omega)]
      refine ⟨fun z => absurd z (nI_ge (by omega) (by omega)), fun _ => ⟨vp_in_nI (by omega) (by decide), ?_⟩⟩
      have hb := hX.2.2.2.2.2.2.2.2.2 k (by omega)
      have hn := (hU.2.2.2.2.2.2.2.2.2.2.2.2.1 k (by omega)).1
      rw [hb.1]
      rw [rn] at e
      by_cases y : U (1 + k) 0 = v
      · refine ⟨fun z => absurd (by rw [y]) z, fun _ => ?_⟩
        have : (!(U (1 + id k) 0 == v)) = false := by rw [id, y]; simp
        rw [this, if_neg (by decide)] at e
        unfold fiR at h; rw [if_pos (by omega), e] at h; exact h
      · refine ⟨fun _ => ?_, fun z => absurd ((nI_eq (by omega) hv).mp z) y⟩
        have : (!(U (1 + id k) 0 == v)) = true := by rw [id]; simp [y]
        rw [this, if_pos rfl] at e
        rintro x4 rfl
        rw [nI_1]
        exact ih (k + 1) (by omega) e
  exact ⟨U 0 0 + 1, lp (U 0 0) 0 (by omega) rfl⟩
theorem t11_readOf {U : Txt} {b k : Nat} (hU : TB U) {Y : Mem} (hY : ReadR U Y) (hb : b < U 0 0) (hk : k < 14) {Q : Int32 → Mem → Prop} (h : Q (nI (U (1 + b) k)) Y) : p_X11_readOf (nI b) (nI k) Y Q := by
  have h5 := hU.1
  unfold p_X11_readOf
  rw [show (70 : Int32) = nI 70 from rfl, show (14 : Int32) = nI 14 from rfl, pk_mul, nI_add, nI_add]
  refine ⟨vp_in_nI (by omega) (by decide), ?_⟩
  rw [nI_clamp (by omega), hY.2.2.1 b k hb hk]
  exact h
theorem t11_nameIn {U : Txt} {v : Nat} (hU : TB U) (hv : v < 2 ^ 31) {Y : Mem} (hY : ReadR U Y) {Q : Int32 → Mem → Prop} (h : Q (fiR U v) Y) : p_X11_nameAt (nI v) 1 Y Q := by
  have h5 := hU.1
  have lp : ∀ d k, k + d = U 0 0 → fiB U v = rn (fun b => !(U (1 + b) 0 == v)) id d k → b_X11_nameAt_19 Q (d + 1) (nI v) 1 (nI (U 0 0)) (nI k) Y := by
    intro d
    induction d with
    | zero =>
      intro k hk e
      refine ⟨fun _ => ?_, fun z => absurd (nI_le (by omega) (by omega)) z⟩
      rw [rn] at e
      unfold fiR at h; rw [if_neg (by omega)] at h; exact h
    | succ d ih =>
      intro k hk e
      refine ⟨fun z => absurd z (nI_ge (by omega) (by omega)), fun _ => ⟨fun z => absurd z z1n, fun _ => t11_readOf (k := 0) hU hY (by omega) (by decide) ?_⟩⟩
      have hn := (hU.2.2.2.2.2.2.2.2.2.2.2.2.1 k (by omega)).1
      rw [rn] at e
      by_cases y : U (1 + k) 0 = v
      · refine ⟨fun z => absurd (by rw [y]) z, fun _ => ?_⟩
        have : (!(U (1 + id k) 0 == v)) = false := by rw [id, y]; simp
        rw [this, if_neg (by decide)] at e
        unfold fiR at h; rw [if_pos (by omega), e] at h; exact h
      · refine ⟨fun _ => ?_, fun z => absurd ((nI_eq (by omega) hv).mp z) y⟩
        have : (!(U (1 + id k) 0 == v)) = true := by rw [id]; simp [y]
        rw [this, if_pos rfl] at e
        rintro x4 rfl
        rw [nI_1]
        exact ih (k + 1) (by omega) e
  refine ⟨fun z => absurd z z1n, fun _ => ?_⟩
  rw [hY.1]
  exact ⟨U 0 0 + 1, lp (U 0 0) 0 (by omega) rfl⟩
