/-! what goes out, the class -/
def rgS (a m : Nat) : Nat := a / 2 + 16 * (((List.range 5).foldl (fun s k => s + (if (a &&& m).testBit k then 1 else 0)) 0) % 2)
theorem rg_b : ∀ a, a < 32 → ∀ m, m < 32 → rgS a m < 32 := by
  intro a ha m _
  unfold rgS; omega
theorem regN_st (m i : Nat) : regN m (i + 1) = rgS (regN m i) m := rfl
theorem regN_b {m : Nat} (hm : m < 32) : ∀ i, regN m i < 32
  | 0 => (by decide : (31 : Nat) < 32)
  | i + 1 => by rw [regN_st]; exact rg_b _ (regN_b hm i) m hm
theorem rg_10 : ∀ a, a < 32 → ∀ m, m < 32 → ((((nI a : Int32).toUInt32 >>> ((1 : Int32).toUInt32 &&& Int32.toUInt32 31)).toInt32 ||| ((bcE (nI a &&& nI m) &&& 1) <<< ((4 : Int32) &&& 31)))) = nI (rgS a m) := by decide +kernel
theorem t10_step {a m : Nat} (ha : a < 32) (hm : m < 32) {M : Mem} {Q : Int32 → Mem → Prop} (h : Q (nI (rgS a m)) M) : p_X10_stepped (nI a) (nI m) M Q := by
  unfold p_X10_stepped
  refine t_bitCount ?_
  rintro x2 rfl
  rw [rg_10 a ha m hm]
  exact h
def goN (m : Nat) : Nat → Nat
  | 0 => 0
  | i + 1 => 2 ^ i * (regN m i % 2) + goN m i
theorem goN_b (m : Nat) : ∀ i, goN m i < 2 ^ i
  | 0 => (by decide : (0 : Nat) < 1)
  | i + 1 => by
    have := goN_b m i
    rw [goN, Nat.pow_succ]
    rcases Nat.mod_two_eq_zero_or_one (regN m i) with e | e <;> rw [e] <;> omega
theorem goN_t (m : Nat) : ∀ i j, j < i → (goN m i).testBit j = fbit m j
  | 0, j, h => absurd h (Nat.not_lt_zero _)
  | i + 1, j, h => by
    rw [goN, Nat.testBit_two_pow_mul_add _ (goN_b m i)]
    by_cases y : j < i
    · rw [if_pos y]; exact goN_t m i j y
    · rw [if_neg y]
      have : j = i := by omega
      subst this
      rw [Nat.sub_self]
      unfold fbit
      rw [Nat.testBit_zero, Nat.testBit_zero]
      congr 1
      rw [Nat.mod_mod]
theorem t10_goes {m : Nat} (hm : m < 32) {M : Mem} {Q : Int32 → Mem → Prop} (h : ∀ v, v < 2 ^ 31 → (∀ i, i < 31 → v.testBit i = fbit m i) → Q (nI v) M) : p_X10_goesOut (nI m) M Q := by
  have lp : ∀ d i, i + d = 31 → b_X10_goesOut_7 Q (d + 1) (nI m) (nI (regN m i)) (nI (goN m i)) (nI i) M := by
    intro d
    induction d with
    | zero =>
      intro i hi
      have : i = 31 := by omega
      subst this
      exact ⟨fun _ => h _ (goN_b m 31) (fun j hj => goN_t m 31 j hj), fun z => absurd (by decide) z⟩
    | succ d ih =>
      intro i hi
      have hr := regN_b hm i
      have hg := goN_b m i
      have hp : 2 ^ i ≤ 2 ^ 30 := Nat.pow_le_pow_right (by decide) (by omega)
      refine ⟨fun z => absurd z (nI_ge (a := i) (b := 31) (by omega) (by decide)), fun _ => ?_⟩
      have e1 : (nI (regN m i) &&& 1) = nI (regN m i % 2) := pk_andN (n := regN m i) (by omega) (m := 1) 1 (by decide)
      have e2 : regN m i % 2 * 2 ^ i < 2 ^ 31 := by
        rcases Nat.mod_two_eq_zero_or_one (regN m i) with e | e <;> rw [e] <;> omega
      rintro x2 rfl
      refine t10_step hr hm ?_
      rintro x4 rfl
      rw [e1, pk_shlN _ i (sh_l i (by omega)) (by omega), fa_or, Nat.or_comm, ← fa_or, Nat.mul_comm, fa_or_sum _ hg, nI_1]
      exact ih (i + 1) (by omega)
  exact ⟨32, lp 31 0 rfl⟩
def StlX (w : Nat) (M Z : Mem) : Prop := Z.2 = M.2 ∧ ∀ f i k, ¬ ((f = 23 ∧ i = w ∧ (k = 5 ∨ k = 6)) ∨ (f = 25 ∧ 5 * w ≤ i ∧ i < 5 * w + 5 ∧ k = 2)) → Z.1 f i k = M.1 f i k
theorem StlX.set {w : Nat} {M Z : Mem} {f i k : Nat} {v : Int32} (H : StlX w M Z) (h : (f = 23 ∧ i = w ∧ (k = 5 ∨ k = 6)) ∨ (f = 25 ∧ 5 * w ≤ i ∧ i < 5 * w + 5 ∧ k = 2)) : StlX w M (sI Z f i k v) :=
  ⟨H.1, fun f' i' k' e => (sI_n (fun z => e (by obtain ⟨rfl, rfl, rfl⟩ := z; exact h))).trans (H.2 f' i' k' e)⟩
theorem WXw.stl {U : Txt} {w : Nat} {M Z : Mem} (hU : U 0 0 ≤ 5) (h : StlX w M Z) (H : WXw U w M) : WXw U w Z := by
  unfold WXw at H ⊢
  obtain ⟨a1, a2, a3, a4, a5, a6, a7, a8, a9, a10⟩ := H
  have g : ∀ k, k ≠ 5 → k ≠ 6 → Z.1 23 w k = M.1 23 w k := fun k _ _ => h.2 23 w k (by omega)
  refine ⟨(g _ (by decide) (by decide)).trans a1, (g _ (by decide) (by decide)).trans a2, (g _ (by decide) (by decide)).trans a3, (g _ (by decide) (by decide)).trans a4, (g _ (by decide) (by decide)).trans a5, (g _ (by decide) (by decide)).trans a6, (g _ (by decide) (by decide)).trans a7, (g _ (by decide) (by decide)).trans a8, fun e => ⟨(g _ (by decide) (by decide)).trans (a9 e).1, (g _ (by decide) (by decide)).trans (a9 e).2.1, (g _ (by decide) (by decide)).trans (a9 e).2.2.1, (g _ (by decide) (by decide)).trans (a9 e).2.2.2⟩, fun b hb => ?_⟩
  have q : ∀ k, k ≠ 2 → Z.1 25 (5 * w + b) k = M.1 25 (5 * w + b) k := fun k _ => h.2 25 _ k (by omega)
  obtain ⟨b1, b2, b3, b4, b5, b6, b7, b8, b9, b10⟩ := a10 b hb
  exact ⟨(q _ (by decide)).trans b1, (q _ (by decide)).trans b2, (q _ (by decide)).trans b3, fun e => ⟨(q _ (by decide)).trans (b4 e).1, (q _ (by decide)).trans (b4 e).2.1, (q _ (by decide)).trans (b4 e).2.2⟩, (q _ (by decide)).trans b5, (q _ (by decide)).trans b6, (q _ (by decide)).trans b7, (q _ (by decide)).trans b8, fun e => ⟨(q _ (by decide)).trans (b9 e).1, (q _ (by decide)).trans (b9 e).2.1, (q _ (by decide)).trans (b9 e).2.2⟩, fun k i e => (h.2 26 _ k (by omega)).trans (b10 k i e)⟩
theorem t10_settle {U : Txt} {w : Nat} (hU : TB U) (hw : w < 2) {M : Mem} (H : WXw U w M) {Q : Mem → Prop} (h : ∀ Z, StlX w M Z → WXw U w Z → OutX U w Z → Q Z) : p_X9_settle w M Q := by
  obtain ⟨t1, _, t3, t4, _⟩ := id hU
  have a3 := H.2.2.1
  have a4 := H.2.2.2.1
  unfold p_X9_settle
  rw [a3]
  refine t10_goes (m := U 0 2) (by omega) (fun v hv1 hv2 => ?_)
  rintro M2 rfl
  rw [sI_n (by omega), a4]
  refine t10_goes (m := U 0 3) (by omega) (fun u hu1 hu2 => ?_)
  rintro M4 rfl
  have lp : ∀ d b (Z : Mem), b + d = U 0 0 → StlX w M Z → Z.1 23 w 5 = nI v → Z.1 23 w 6 = nI u → (∀ b', b' < b → CodeX U b' (5 * w + b') Z) → b_X9_settle_24 Q (d + 1) w (nI b) Z := by
    intro d
    induction d with
    | zero =>
      intro b Z hb hZ h5 h6 hc
      have hW := H.stl t1 hZ
      unfold b_X9_settle_24
      rw [hW.1]
      exact ⟨fun _ => h Z hZ hW ⟨⟨v, hv1, h5, hv2⟩, ⟨u, hu1, h6, hu2⟩, fun b' hb' => hc b' (by omega)⟩, fun z => absurd (nI_le (by omega) (by omega)) z⟩
    | succ d ih =>
      intro b Z hb hZ h5 h6 hc
      have hW := H.stl t1 hZ
      have hd := (hU.2.2.2.2.2.2.2.2.2.2.2.2.1 b (by omega)).2.1
      have hdl := (hW.2.2.2.2.2.2.2.2.2 b (by omega)).2.1
      unfold b_X9_settle_24
      rw [hW.1, nI_clamp (by omega), hdl]
      refine ⟨fun z => absurd z (nI_ge (by omega) (by omega)), fun _ => ⟨vp_in_nI (by omega) (by decide), vp_in_nI (by omega) (by decide), ?_⟩⟩
      have hO : OutX (put U 0 0 0) w Z := ⟨⟨v, hv1, h5, fun i hi => by rw [pO (by omega)]; exact hv2 i hi⟩, ⟨u, hu1, h6, fun i hi => by rw [pO (by omega)]; exact hu2 i hi⟩, fun b' hb' => by rw [pS] at hb'; exact absurd hb' (Nat.not_lt_zero _)⟩
      refine t10_codeOf hO hd (fun cv hcv => ?_)
      rintro M9 rfl x10 rfl
      rw [nI_1]
      refine ih (b + 1) _ (by omega) (hZ.set (by omega)) ((sI_n (by omega)).trans h5) ((sI_n (by omega)).trans h6) (fun b' hb' => ?_)
      by_cases y : b' = b
      · rw [y]
        refine ⟨cv, hcv.1, sI_s, fun i hi => ?_⟩
        have := hcv.2 i hi
        unfold chipB at this ⊢
        rw [pO (by omega), pO (by omega)] at this
        exact this
      · obtain ⟨c, c1, c2, c3⟩ := hc b' (by omega)
        exact ⟨c, c1, (sI_n (by omega)).trans c2, c3⟩
  refine ⟨U 0 0 + 1, lp (U 0 0) 0 _ (by omega) (StlX.set (StlX.set (M := M) ⟨rfl, fun _ _ _ _ => rfl⟩ (by omega)) (by omega)) ((sI_n (by omega)).trans sI_s) sI_s (fun b' hb' => absurd hb' (Nat.not_lt_zero _))⟩
/-! what goes out, the reference -/
def odE (a : Int32) : Nat → Int32 → Int32 → Int32
  | 0, v, _ => v
  | d + 1, v, k => odE a d (v ^^^ ((a >>> (k &&& 31)) &&& 1)) (k + 1)
theorem t11_isOdd2 {a : Int32} {M : Mem} {Q : Int32 → Mem → Prop} (h : Q (odE a 8 0 0) M) : p_X11_isOdd a M Q := by
  have lp : ∀ d k v, k + d = 8 → Q (odE a d v (nI k)) M → b_X11_isOdd_4 Q (d + 1) a v (nI k) M := by
    intro d
    induction d with
    | zero =>
      intro k v hk h
      have : k = 8 := by omega
      subst this
      exact ⟨fun _ => h, fun z => absurd (by decide) z⟩
    | succ d ih =>
      intro k v hk h
      refine ⟨fun z => absurd z (nI_ge (a := k) (b := 8) (by omega) (by decide)), fun _ => ?_⟩
      rintro x2 rfl x3 rfl
      rw [nI_1]
      refine ih (k + 1) _ (by omega) ?_
      rw [odE, nI_1] at h
      exact h
  exact ⟨9, lp 8 0 0 rfl h⟩
theorem rg_11 : ∀ a, a < 32 → ∀ m, m < 32 → ((nI a >>> ((1 : Int32) &&& 31)) ||| ((odE (nI a &&& nI m) 8 0 0) <<< ((4 : Int32) &&& 31))) = nI (rgS a m) := by decide +kernel
theorem t11_step {a m : Nat} (ha : a < 32) (hm : m < 32) {M : Mem} {Q : Int32 → Mem → Prop} (h : Q (nI (rgS a m)) M) : p_X11_stepped (nI a) (nI m) M Q := by
  unfold p_X11_stepped
  refine t11_isOdd2 ?_
  rw [rg_11 a ha m hm]
  exact h
theorem t11_codes {m0 m1 : Nat} (h0 : m0 < 32) (h1 : m1 < 32) {Y : Mem} (e0 : Y.1 45 0 7 = nI m0) (e1 : Y.1 45 0 8 = nI m1) {Q : Mem → Prop} (h : ∀ Z, Z.2 = Y.2 → (∀ f i k, f ≠ 47 → Z.1 f i k = Y.1 f i k) → (∀ i, i < 31 → Z.1 47 0 i = (if fbit m0 i then 1 else 0)) → (∀ i, i < 31 → Z.1 47 0 (31 + i) = (if fbit m1 i then 1 else 0)) → Q Z) : p_X11_layCodes Y Q := by
  have one : ∀ a, a < 32 → (nI a &&& 1 : Int32) = (if a.testBit 0 then 1 else 0) := by decide +kernel
  have lp : ∀ (v m : Nat), v < 2 → m < 32 → ∀ (K : Int32 → Mem → Prop) (d i : Nat) (Z : Mem), i + d = 31 → Z.1 45 0 (7 + v) = nI m → (∀ Z', Z'.2 = Z.2 → (∀ f i' k, ¬ (f = 47 ∧ 31 * v + i ≤ k ∧ k < 31 * v + 31) → Z'.1 f i' k = Z.1 f i' k) → (∀ j, i ≤ j → j < 31 → Z'.1 47 0 (31 * v + j) = (if fbit m j then 1 else 0)) → b_X11_layCodes_52 Q K (nI v) Z') → b_X11_layCodes_12 Q K (d + 1) (nI v) (nI (regN m i)) (nI i) Z := by
    intro v m hv hm K d
    induction d with
    | zero =>
      intro i Z hi hm' h
      have : i = 31 := by omega
      subst this
      exact ⟨fun _ => h Z rfl (fun _ _ _ _ => rfl) (fun j a b => by omega), fun z => absurd (by decide) z⟩
    | succ d ih =>
      intro i Z hi hm' h
      have hr := regN_b hm i
      refine ⟨fun z => absurd z (nI_ge (a := i) (b := 31) (by omega) (by decide)), fun _ => ?_⟩
      rw [show (31 : Int32) = nI 31 from rfl, pk_mul, nI_add, nI_clamp (by omega), show (7 : Int32) = nI 7 from rfl, nI_add, nI_clamp (by omega)]
      refine ⟨vp_in_nI (by omega) (by decide), ?_⟩
      rintro M4 rfl
      refine ⟨vp_in_nI (by omega) (by decide), ?_⟩
      rw [sI_n (by omega), hm']
      refine t11_step hr hm ?_
      rintro x7 rfl
      rw [nI_1]
      refine ih (i + 1) _ (by omega) ((sI_n (by omega)).trans hm') (fun Z' a b c => h Z' a (fun f i' k e => (b f i' k (by omega)).trans (sI_n (by omega))) (fun j j1 j2 => ?_))
      by_cases y : j = i
      · rw [y, b 47 0 _ (by omega), sI_s, one _ hr]; rfl
      · exact c j (by omega) j2
  refine ⟨3, fun z => absurd z (by decide), fun _ => ⟨32, lp 0 m0 (by decide) h0 _ 31 0 Y rfl e0 (fun Z a b c => ?_)⟩⟩
  rintro x3 rfl
  refine ⟨fun z => absurd z (by decide), fun _ => ⟨32, lp 1 m1 (by decide) h1 _ 31 0 Z rfl ((b 45 0 8 (by omega)).trans e1) (fun Z2 a2 b2 c2 => ?_)⟩⟩
  rintro x3 rfl
  refine ⟨fun _ => h Z2 (a2.trans a) (fun f i k e => (b2 f i k (by omega)).trans (b f i k (by omega))) (fun i hi => ?_) (fun i hi => ?_), fun z => absurd (by decide) z⟩
  · rw [b2 47 0 i (by omega)]
    have := c i (by omega) hi
    rwa [show 31 * 0 + i = i from by omega] at this
  · exact c2 i (by omega) hi
