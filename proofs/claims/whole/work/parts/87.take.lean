/-! what a line gives: the text's numbers anew, and the class's World -/
theorem pO {U : Txt} {t j v a c : Nat} (h : ¬ (a = t ∧ c = j)) : put U t j v a c = U a c := if_neg h
theorem pS {U : Txt} {t j v : Nat} : put U t j v t j = v := if_pos ⟨rfl, rfl⟩
def uBird (U : Txt) (b v : Nat) : Txt := put (fun t j => if t = 1 + U 0 0 then (if j = 0 then b else if j = 1 then v else 0) else U t j) 0 0 (U 0 0 + 1)
def uHear (U : Txt) (b a c d e : Nat) : Txt := put (put (put (put (put U (1 + b) 2 1) (1 + b) 3 a) (1 + b) 4 c) (1 + b) 5 d) (1 + b) 6 e
def uSend (U : Txt) (b a c : Nat) : Txt := put (put (put (put (put U 6 (3 * U 0 1) b) 6 (3 * U 0 1 + 1) a) 6 (3 * U 0 1 + 2) c) 0 1 (U 0 1 + 1)) (1 + b) 9 (U (1 + b) 9 + 1)
def uPlace (U : Txt) (b a c d : Nat) : Txt := put (put (put (put U (1 + b) 10 1) (1 + b) 11 a) (1 + b) 12 c) (1 + b) 13 d
def uHome (U : Txt) (a c d e : Nat) : Txt := put (put (put (put (put U 0 8 a) 0 9 c) 0 10 d) 0 11 e) 0 7 1
def updU (U : Txt) (k b : Nat) (vs : List Nat) : Txt :=
  if k = 0 then uBird U b (vs.getD 0 0) else if k = 1 then uHear U b (vs.getD 0 0) (vs.getD 1 0) (vs.getD 2 0) (vs.getD 3 0) else if k = 2 then put U (1 + b) 7 (vs.getD 0 0) else if k = 3 then put U (1 + b) 8 (vs.getD 0 0) else if k = 4 then uSend U b (vs.getD 0 0) (vs.getD 1 0) else if k = 5 then uPlace U b (vs.getD 0 0) (vs.getD 1 0) (vs.getD 2 0) else if k = 6 then uHome U (vs.getD 0 0) (vs.getD 1 0) (vs.getD 2 0) (vs.getD 3 0) else put U 0 (k - 5) (vs.getD 0 0)
theorem sndL_mem {T : Txt} {b k i : Nat} (h : (sndL T b)[k]? = some i) : i < T 0 1 := by
  have := List.mem_of_getElem? h
  unfold sndL at this
  exact List.mem_range.mp (List.mem_filter.mp this).1
theorem sndL_eq {T T' : Txt} {b : Nat} (h1 : T' 0 1 = T 0 1) (h2 : T' 6 = T 6) : sndL T' b = sndL T b := by unfold sndL; rw [h1, h2]
theorem sndL_len (T : Txt) (b : Nat) : (sndL T b).length ≤ T 0 1 := by
  unfold sndL
  have := List.length_filter_le (fun i => T 6 (3 * i) == b) (List.range (T 0 1))
  rwa [List.length_range] at this
theorem BX.mv {T T' : Txt} {b q : Nat} {X Z : Mem} (hI : ∀ k, Z.1 25 q k = X.1 25 q k) (hJ : ∀ k, Z.1 26 q k = X.1 26 q k) (hr : T' (1 + b) = T (1 + b)) (hs : ∀ k i : Nat, (sndL T' b)[k]? = some i → (sndL T b)[k]? = some i ∧ T' 6 (3 * i + 1) = T 6 (3 * i + 1) ∧ T' 6 (3 * i + 2) = T 6 (3 * i + 2)) (H : BX T b q X) : BX T' b q Z := by
  unfold BX at H ⊢
  obtain ⟨a1, a2, a3, a4, a5, a6, a7, a8, a9, a10⟩ := H
  rw [hr]
  refine ⟨(hI _).trans a1, (hI _).trans a2, (hI _).trans a3, fun e => ⟨(hI _).trans (a4 e).1, (hI _).trans (a4 e).2.1, (hI _).trans (a4 e).2.2⟩, (hI _).trans a5, (hI _).trans a6, (hI _).trans a7, (hI _).trans a8, fun e => ⟨(hI _).trans (a9 e).1, (hI _).trans (a9 e).2.1, (hI _).trans (a9 e).2.2⟩, fun k i e => ?_⟩
  obtain ⟨c1, c2, c3⟩ := hs k i e
  rw [c2, c3]
  exact (hJ _).trans (a10 k i c1)
/-- a change of one bird's own -/
theorem WXw.bird {U U' : Txt} {w b : Nat} {X Z : Mem} (hb : b < 5) (hU : U 0 0 ≤ 5) (hZ : ∀ f i k, ¬ (f = 25 ∧ i = 5 * w + b) → Z.1 f i k = X.1 f i k) (h0 : U' 0 = U 0) (h6 : U' 6 = U 6) (hr : ∀ b', b' ≠ b → b' < 5 → U' (1 + b') = U (1 + b')) (H : WXw U w X) (hB : BX U' b (5 * w + b) Z) : WXw U' w Z := by
  unfold WXw at H ⊢
  obtain ⟨a1, a2, a3, a4, a5, a6, a7, a8, a9, a10⟩ := H
  rw [h0]
  have g : ∀ k, Z.1 23 w k = X.1 23 w k := fun k => hZ 23 w k (by omega)
  refine ⟨(g _).trans a1, (g _).trans a2, (g _).trans a3, (g _).trans a4, (g _).trans a5, (g _).trans a6, (g _).trans a7, (g _).trans a8, fun e => ⟨(g _).trans (a9 e).1, (g _).trans (a9 e).2.1, (g _).trans (a9 e).2.2.1, (g _).trans (a9 e).2.2.2⟩, fun b' hb' => ?_⟩
  by_cases y : b' = b
  · rw [y]; exact hB
  · have e : sndL U' b' = sndL U b' := sndL_eq (by rw [h0]) h6
    refine (a10 b' hb').mv (fun k => hZ _ _ _ (by omega)) (fun k => hZ _ _ _ (by omega)) (hr b' y (by omega)) (fun k i z => ?_)
    rw [e] at z
    exact ⟨z, by rw [h6], by rw [h6]⟩
def TkX (w : Nat) (X Z : Mem) : Prop := Z.2 = X.2 ∧ (∀ f i k, ¬ ((f = 23 ∧ i = w) ∨ ((f = 25 ∨ f = 26) ∧ 5 * w ≤ i ∧ i < 5 * w + 5)) → Z.1 f i k = X.1 f i k) ∧ Z.1 23 w 15 = X.1 23 w 15
theorem TkX.rf (w : Nat) (X : Mem) : TkX w X X := ⟨rfl, fun _ _ _ _ => rfl, rfl⟩
theorem TkX.set {w : Nat} {X Z : Mem} {f i k : Nat} {v : Int32} (H : TkX w X Z) (h : (f = 23 ∧ i = w ∧ k ≠ 15) ∨ ((f = 25 ∨ f = 26) ∧ 5 * w ≤ i ∧ i < 5 * w + 5)) : TkX w X (sI Z f i k v) :=
  ⟨H.1, fun f' i' k' e => (sI_n (fun z => e (by obtain ⟨rfl, rfl, _⟩ := z; omega))).trans (H.2.1 f' i' k' e), (sI_n (by omega)).trans H.2.2⟩
/-- what is known where a line is taken -/
def TkH (U : Txt) (w k b : Nat) (vs : List Nat) (X : Mem) : Prop :=
  TB U ∧ w < 2 ∧ X.2.2 2 0 8 = some (23 + w) ∧ WXw U w X ∧ (∀ (i v : Nat), vs[i]? = some v → X.1 3 0 i = nI v) ∧ (k = 0 → X.1 2 0 9 = nI b ∧ U 0 0 < 5) ∧ (0 < k → k < 6 → X.2.2 2 0 10 = some (27 + (5 * w + b)) ∧ b < U 0 0) ∧ (k = 4 → U 0 1 < 10)
theorem t10_take0 {U : Txt} {w b a : Nat} {X : Mem} (H : TkH U w 0 b [a] X) {Q : Mem → Prop} (h : ∀ Z, TkX w X Z → WXw (uBird U b a) w Z → Q Z) : b_X6_take_22 Q 0 X := by
  obtain ⟨hU, hw, h8, hX, hv, h0, _, _⟩ := H
  obtain ⟨h9, hn⟩ := h0 rfl
  have e0 : X.1 3 0 0 = nI a := hv 0 a rfl
  obtain ⟨a1, a2, a3, a4, a5, a6, a7, a8, a9, a10⟩ := hX
  refine ⟨fun _ => ⟨w, h8, hw, vp_in_nI (n := 0) (by decide) (by decide), ?_⟩, fun z => absurd z (by decide), fun z => absurd z (by decide), fun z => absurd z (by decide), fun z => absurd z (by decide), fun z => absurd z (by decide), fun z => absurd z (by decide), fun z => absurd rfl z⟩
  unfold p_X9_addBird
  rw [show (0 : Int32).toNatClampNeg = 0 from rfl, e0, h9, a1, nI_clamp (by omega)]
  refine ⟨fun z => absurd z (nI_ge (b := 5) hn (by decide)), fun _ => ⟨vp_in_nI (by omega) (by decide), ?_⟩⟩
  rintro M1 rfl M2 rfl M3 rfl M4 rfl M5 rfl M6 rfl M7 rfl M8 rfl
  refine h _ ((((((((TkX.rf w X).set (by omega)).set (by omega)).set (by omega)).set (by omega)).set (by omega)).set (by omega)).set (by omega) |>.set (by omega)) ?_
  have g : ∀ k, k ≠ 1 → (sI (sI (sI (sI (sI (sI (sI (sI X 25 (5 * w + U 0 0) 0 (nI b)) 25 (5 * w + U 0 0) 1 (nI a)) 25 (5 * w + U 0 0) 6 0) 25 (5 * w + U 0 0) 7 0) 25 (5 * w + U 0 0) 8 0) 25 (5 * w + U 0 0) 9 0) 25 (5 * w + U 0 0) 14 0) 23 w 1 (X.1 23 w 1 + 1)).1 23 w k = X.1 23 w k := fun k hk => by simp [sI, hk]
  have e00 : uBird U b a 0 0 = U 0 0 + 1 := pS
  have e0k : ∀ k, k ≠ 0 → uBird U b a 0 k = U 0 k := fun k hk => by unfold uBird; rw [pO (by omega)]; exact if_neg (by omega)
  have e6 : uBird U b a 6 = U 6 := by funext c; unfold uBird; rw [pO (by omega)]; exact if_neg (by omega)
  have er : ∀ b', b' ≠ U 0 0 → uBird U b a (1 + b') = U (1 + b') := fun b' hb' => by funext c; unfold uBird; rw [pO (by omega)]; exact if_neg (by omega)
  have en : ∀ c, uBird U b a (1 + U 0 0) c = (if c = 0 then b else if c = 1 then a else 0) := fun c => by unfold uBird; rw [pO (by omega)]; exact if_pos rfl
  have es : ∀ b', sndL (uBird U b a) b' = sndL U b' := fun b' => sndL_eq (e0k 1 (by decide)) e6
  have hX1 : (sI (sI (sI (sI (sI (sI (sI X 25 (5 * w + U 0 0) 0 (nI b)) 25 (5 * w + U 0 0) 1 (nI a)) 25 (5 * w + U 0 0) 6 0) 25 (5 * w + U 0 0) 7 0) 25 (5 * w + U 0 0) 8 0) 25 (5 * w + U 0 0) 9 0) 25 (5 * w + U 0 0) 14 0).1 23 w 1 = X.1 23 w 1 := by simp [sI]
  rw [hX1]
  unfold WXw
  refine ⟨?_, ?_, ?_, ?_, ?_, ?_, ?_, ?_, fun e => ?_, fun b' hb' => ?_⟩
  · rw [sI_s, e00, a1, nI_1]
  · rw [g _ (by decide), e0k _ (by decide)]; exact a2
  · rw [g _ (by decide), e0k _ (by decide)]; exact a3
  · rw [g _ (by decide), e0k _ (by decide)]; exact a4
  · rw [g _ (by decide), e0k _ (by decide)]; exact a5
  · rw [g _ (by decide), e0k _ (by decide)]; exact a6
  · rw [g _ (by decide), e0k _ (by decide)]; exact a7
  · rw [g _ (by decide), e0k _ (by decide)]; exact a8
  · rw [e0k _ (by decide)] at e
    rw [g _ (by decide), g _ (by decide), g _ (by decide), g _ (by decide), e0k _ (by decide), e0k _ (by decide), e0k _ (by decide), e0k _ (by decide)]; exact a9 e
  · rw [e00] at hb'
    by_cases y : b' = U 0 0
    · subst y
      unfold BX
      rw [en, en, en, en, en, en, en, en, en, en, en, en, en, en, es]
      refine ⟨?_, ?_, ?_, fun e => absurd e (by simp), ?_, ?_, ?_, ?_, fun e => absurd e (by simp), fun k i e => ?_⟩
      · simp [sI]
      · simp [sI]
      · simp [sI]; rfl
      · simp [sI]; rfl
      · simp [sI]; rfl
      · simp [sI]; rfl
      · simp [sI]; rfl
      · have hm := List.mem_of_getElem? e
        unfold sndL at hm
        have h1 := List.mem_filter.mp hm
        have h2 := (hU.2.2.2.2.2.2.2.2.2.2.2.2.2 i (List.mem_range.mp h1.1)).1
        have h3 : U 6 (3 * i) = U 0 0 := by simpa using h1.2
        omega
    · refine (a10 b' (by omega)).mv (fun k => ?_) (fun k => ?_) (er b' y) (fun k i z => ?_)
      · rw [sI_n (by omega), sI_n (by omega), sI_n (by omega), sI_n (by omega), sI_n (by omega), sI_n (by omega), sI_n (by omega), sI_n (by omega)]
      · rw [sI_n (by omega), sI_n (by omega), sI_n (by omega), sI_n (by omega), sI_n (by omega), sI_n (by omega), sI_n (by omega), sI_n (by omega)]
      · rw [es] at z
        exact ⟨z, by rw [e6], by rw [e6]⟩
theorem put_r {U : Txt} {t j v a : Nat} (h : a ≠ t) : put U t j v a = U a := by
  funext c; exact pO (fun z => h z.1)
theorem t10_take1 {U : Txt} {w b a c d e : Nat} {X : Mem} (H : TkH U w 1 b [a, c, d, e] X) {Q : Mem → Prop} (h : ∀ Z, TkX w X Z → WXw (uHear U b a c d e) w Z → Q Z) : b_X6_take_22 Q 1 X := by
  obtain ⟨hU, hw, h8, hX, hv, _, h1, _⟩ := H
  obtain ⟨hr, hb⟩ := h1 (by decide) (by decide)
  have h5 := hU.1
  have e0 : X.1 3 0 0 = nI a := hv 0 a rfl
  have e1 : X.1 3 0 1 = nI c := hv 1 c rfl
  have e2 : X.1 3 0 2 = nI d := hv 2 d rfl
  have e3 : X.1 3 0 3 = nI e := hv 3 e rfl
  refine ⟨fun z => absurd z (by decide), fun z => absurd z (by decide), fun z => absurd z (by decide), fun z => absurd z (by decide), fun z => absurd z (by decide), fun z => absurd z (by decide), fun z => absurd z (by decide), fun _ _ _ _ _ _ _ => ⟨fun z => absurd (z.symm.trans hr) (fun z => nomatch z), fun q1 _ => ⟨fun _ => ⟨5 * w + b, hr, by omega, vp_in_nI (n := 0) (by decide) (by decide), ?_⟩, fun z => absurd z (by decide), fun z => absurd z (by decide), fun z => absurd z (by decide), fun z => absurd rfl z⟩⟩⟩
  rintro M16 rfl
  refine ⟨5 * w + b, hr, by omega, vp_in_nI (n := 1) (by decide) (by decide), ?_⟩
  rintro M19 rfl
  refine ⟨5 * w + b, hr, by omega, vp_in_nI (n := 2) (by decide) (by decide), ?_⟩
  rintro M22 rfl
  refine ⟨5 * w + b, hr, by omega, vp_in_nI (n := 3) (by decide) (by decide), ?_⟩
  rintro M25 rfl
  rw [show (0 : Int32).toNatClampNeg = 0 from rfl, show (1 : Int32).toNatClampNeg = 1 from rfl, show (2 : Int32).toNatClampNeg = 2 from rfl, show (3 : Int32).toNatClampNeg = 3 from rfl, sI_n (by omega), sI_n (by omega), sI_n (by omega), sI_n (by omega), sI_n (by omega), sI_n (by omega), e0, e1, e2, e3]
  refine h _ (((((TkX.rf w X).set (by omega)).set (by omega)).set (by omega)).set (by omega)) ?_
  refine hX.bird (b := b) (by omega) h5 (fun f i k y => ?_) ?_ ?_ (fun b' y y2 => ?_) ?_
  · rw [sI_n (by omega), sI_n (by omega), sI_n (by omega), sI_n (by omega)]
  · unfold uHear; rw [put_r (by omega), put_r (by omega), put_r (by omega), put_r (by omega), put_r (by omega)]
  · unfold uHear; rw [put_r (by omega), put_r (by omega), put_r (by omega), put_r (by omega), put_r (by omega)]
  · unfold uHear; rw [put_r (by omega), put_r (by omega), put_r (by omega), put_r (by omega), put_r (by omega)]
  · obtain ⟨b1, b2, b3, b4, b5, b6, b7, b8, b9, b10⟩ := hX.2.2.2.2.2.2.2.2.2 b hb
    have e6 : uHear U b a c d e 6 = U 6 := by unfold uHear; rw [put_r (by omega), put_r (by omega), put_r (by omega), put_r (by omega), put_r (by omega)]
    have ek : ∀ k, k ≠ 2 → k ≠ 3 → k ≠ 4 → k ≠ 5 → k ≠ 6 → uHear U b a c d e (1 + b) k = U (1 + b) k := fun k _ _ _ _ _ => by
      unfold uHear; rw [pO (by omega), pO (by omega), pO (by omega), pO (by omega), pO (by omega)]
    have es : sndL (uHear U b a c d e) b = sndL U b := sndL_eq (by unfold uHear; rw [put_r (by omega), put_r (by omega), put_r (by omega), put_r (by omega), put_r (by omega)]) e6
    unfold BX
    rw [es, e6, ek 0 (by decide) (by decide) (by decide) (by decide) (by decide), ek 1 (by decide) (by decide) (by decide) (by decide) (by decide), ek 7 (by decide) (by decide) (by decide) (by decide) (by decide), ek 8 (by decide) (by decide) (by decide) (by decide) (by decide), ek 9 (by decide) (by decide) (by decide) (by decide) (by decide), ek 10 (by decide) (by decide) (by decide) (by decide) (by decide), ek 11 (by decide) (by decide) (by decide) (by decide) (by decide), ek 12 (by decide) (by decide) (by decide) (by decide) (by decide), ek 13 (by decide) (by decide) (by decide) (by decide) (by decide)]
    refine ⟨?_, ?_, ?_, fun _ => ⟨?_, ?_, ?_⟩, ?_, ?_, ?_, ?_, fun y => ?_, fun k i y => ?_⟩
    · simpa [sI] using b1
    · simpa [sI] using b2
    · simp [sI, uHear, put]
    · simp [sI, uHear, put]
    · simp [sI, uHear, put]
    · simp [sI, uHear, put]
    · simpa [sI] using b5
    · simpa [sI] using b6
    · simpa [sI] using b7
    · simpa [sI] using b8
    · simpa [sI] using b9 y
    · simpa [sI] using b10 k i y
