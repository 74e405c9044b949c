/-! bounds of samples; powers of cells; peak and rival -/
theorem byZ_b {T : Txt} {b p n : Nat} (h1 : TB T) (hb : b < T 0 0) : -9 ≤ byZ T b p n ∧ byZ T b p n ≤ 9 := by
  obtain ⟨-, -, -, -, -, -, t6, -⟩ := h1.2.2.2.2.2.2.2.2.2.2.2.2.1 b hb
  have hs := @sg_e (T (1 + b) 6) (chipB T (T (1 + b) 1) ((((n : Int) - startN T b p) % 62).toNat / 2)) (bitN T b (((n : Int) - startN T b p) / 62))
  show -9 ≤ (T (1 + b) 6 : Int) * (if chipB T (T (1 + b) 1) ((((n : Int) - startN T b p) % 62).toNat / 2) then 1 else -1) * (if bitN T b (((n : Int) - startN T b p) / 62) then -1 else 1) ∧ (T (1 + b) 6 : Int) * (if chipB T (T (1 + b) 1) ((((n : Int) - startN T b p) % 62).toNat / 2) then 1 else -1) * (if bitN T b (((n : Int) - startN T b p) / 62) then -1 else 1) ≤ 9
  cases chipB T (T (1 + b) 1) ((((n : Int) - startN T b p) % 62).toNat / 2) <;> cases bitN T b (((n : Int) - startN T b p) / 62) <;> simp <;> omega
theorem gR_b {T : Txt} {b p k : Nat} (h1 : TB T) (hb : b < T 0 0) : (-90 ≤ gRe T b p k ∧ gRe T b p k ≤ 90) ∧ -90 ≤ gIm T b p k ∧ gIm T b p k ≤ 90 := by
  have t1 := tab_b _ (ang_lt (T (1 + b) 4) (T (1 + b) 5) (62 * p + k))
  have t2 := tab_b ((angN (T (1 + b) 4) (T (1 + b) 5) (62 * p + k) + 12) % 16) (by omega)
  have by_ := byZ_b (p := p) (n := 62 * p + k) h1 hb
  have c1 := mul_b (X := 9) (Y := 10) by_ t1
  have c2 := mul_b (X := 9) (Y := 10) by_ t2
  exact ⟨c1, c2⟩
theorem fR_b {T : Txt} {p k : Nat} {only : Option Nat} (h1 : TB T) : ∀ n, n ≤ T 0 0 → (-(90 * (n : Int)) ≤ fRe T p only n k ∧ fRe T p only n k ≤ 90 * (n : Int)) ∧ -(90 * (n : Int)) ≤ fIm T p only n k ∧ fIm T p only n k ≤ 90 * (n : Int)
  | 0, _ => ⟨⟨Int.le_refl _, Int.le_refl _⟩, Int.le_refl _, Int.le_refl _⟩
  | n + 1, hn => by
    have ih := fR_b (p := p) (k := k) (only := only) h1 n (by omega)
    have g := gR_b (p := p) (k := k) h1 (show n < T 0 0 by omega)
    cases hl : loudB T only n p
    · rw [(fRe_0 hl).1, (fRe_0 hl).2]; omega
    · rw [(fRe_1 hl).1, (fRe_1 hl).2]; omega
theorem errZ_b (x k : Nat) : -(k : Int) ≤ errZ x k ∧ errZ x k ≤ k := by
  unfold errZ
  have : x / 65536 % (2 * k + 1) < 2 * k + 1 := Nat.mod_lt _ (by omega)
  omega
theorem bdS {T : Txt} {p noise seed : Nat} {only : Option Nat} (h1 : TB T) (hn : noise < 100) : BdS (sreZ T p noise seed only) (simZ T p noise seed only) := by
  intro k _
  have hnb := h1.1
  have f := fR_b (p := p) (k := k) (only := only) h1 (T 0 0) (Nat.le_refl _)
  have e1 := errZ_b (nxtN (seed + 62 * p + k)) noise
  have e2 := errZ_b (nxtN (nxtN (seed + 62 * p + k))) noise
  show (-549 ≤ fRe T p only (T 0 0) k + errZ (nxtN (seed + 62 * p + k)) noise ∧ fRe T p only (T 0 0) k + errZ (nxtN (seed + 62 * p + k)) noise ≤ 549) ∧ -549 ≤ fIm T p only (T 0 0) k + errZ (nxtN (nxtN (seed + 62 * p + k))) noise ∧ fIm T p only (T 0 0) k + errZ (nxtN (nxtN (seed + 62 * p + k))) noise ≤ 549
  omega
/-! long compares -/
theorem lg_le {a b : Nat} (ha : a < 2 ^ 63) (hb : b < 2 ^ 63) : lg_cmp (lN a) (lN b) ≤ 0 ↔ a ≤ b := by
  unfold lg_cmp
  simp only [gt_iff_lt, pk_lLT hb ha, pk_lEQ ha hb]
  split
  · exact ⟨fun z => absurd z (by decide), fun z => by omega⟩
  · split
    · exact ⟨fun _ => by omega, fun _ => by decide⟩
    · exact ⟨fun _ => by omega, fun _ => by decide⟩
theorem lg_lt {a b : Nat} (ha : a < 2 ^ 63) (hb : b < 2 ^ 63) : lg_cmp (lN a) (lN b) < 0 ↔ a < b := by
  unfold lg_cmp
  simp only [gt_iff_lt, pk_lLT hb ha, pk_lEQ ha hb]
  split
  · exact ⟨fun z => absurd z (by decide), fun z => by omega⟩
  · split
    · exact ⟨fun z => absurd z (by decide), fun z => by omega⟩
    · exact ⟨fun _ => by omega, fun _ => by decide⟩
theorem lg_eq {a b : Nat} (ha : a < 2 ^ 63) (hb : b < 2 ^ 63) : lg_cmp (lN a) (lN b) = 0 ↔ a = b := by
  unfold lg_cmp
  simp only [gt_iff_lt, pk_lLT hb ha, pk_lEQ ha hb]
  split
  · exact ⟨fun z => absurd z (by decide), fun z => by omega⟩
  · split
    · exact ⟨fun _ => by omega, fun _ => rfl⟩
    · exact ⟨fun z => absurd z (by decide), fun z => by omega⟩
/-! the class's cells -/
def CellX (f : Nat → Nat) (X : Mem) : Prop := ∀ c, c < 930 → X.1 12 0 c = nI (f c)
def AI (f g : Nat → Nat) (X Z : Mem) (n : Nat) : Prop := EX X Z ∧ AgC X Z ∧ ∀ c, c < 930 → Z.1 12 0 c = nI (if c < n then f c + g c else f c)
theorem FM.ex {X Z : Mem} (h : FM X Z) : EX X Z := ⟨fun f i k e => h.2 f i k (by omega) (by omega), fun _ _ _ _ => by rw [h.1], by rw [h.1]⟩
theorem FM.c {X Z : Mem} (h : FM X Z) : AgC X Z := ⟨h.2 5 0 4 (by decide) (by decide), fun k => h.2 6 0 k (by decide) (by omega), fun k => h.2 7 0 k (by decide) (by omega)⟩
theorem FT.ex {X Z : Mem} (h : FT X Z) : EX X Z := ⟨fun _ _ _ _ => by rw [h.1], fun f i k e => h.2.1 f i k (by omega) (by omega) (by omega), h.2.2⟩
theorem FT.c {X Z : Mem} (h : FT X Z) : AgC X Z := ⟨by rw [h.1], fun k => by rw [h.1], fun k => by rw [h.1]⟩
theorem MX.ft {l : List Nat} {X Z : Mem} (h : FT X Z) (H : MX l X) : MX l Z := ⟨by rw [h.1]; exact H.1, fun j i e => by rw [h.1]; exact H.2 j i e⟩
theorem SmX.c {re im : Nat → Int} {X Z : Mem} (h : AgC X Z) (H : SmX re im X) : SmX re im Z := fun k hk => by rw [h.2.1, h.2.2]; exact H k hk
theorem t10_pow {T : Txt} {d st p sh tu : Nat} {re im : Nat → Int} (hb : BdS re im) {X : Mem} (e1 : X.1 5 0 2 = iI (siZ T d st re im p sh tu)) (e2 : X.1 5 0 3 = iI (sqZ T d st re im p sh tu)) {Q : Int32 → Mem → Prop} (h : Q (nI (pwN T d st re im p sh tu)) X) : p_X2_power X Q := by
  unfold p_X2_power
  rw [e1, e2, (pw_e hb).1]
  exact h
theorem t10_add_in {T : Txt} {d0 p sh : Nat} {re im : Nat → Int} (hsh : sh < 15) (hb : BdS re im) {f g : Nat → Nat} (hg : ∀ st, st < 62 → g (62 * sh + st) = pwN T d0 st re im p sh 0) {X : Mem} {Q : Mem → Prop} {k8 : Int32 → Int32 → Mem → Prop} (h : ∀ Z, AI f g X Z (62 * (sh + 1)) → MX (zsL T d0) Z → k8 (nI p) (nI (sh + 1)) Z) : ∀ (d st : Nat) (Z : Mem), st + d = 62 → AI f g X Z (62 * sh + st) → MX (zsL T d0) Z → TX (WZ re im p sh 0) Z → b_X4_add_26 Q k8 (d + 1) (nI p) (nI sh) (nI st) Z := by
  intro d
  induction d with
  | zero =>
    intro st Z hs hA hM hT
    have : st = 62 := by omega
    subst this
    refine ⟨fun _ => ?_, fun z => absurd (by decide) z⟩
    rintro x5 rfl
    rw [nI_1]
    exact h Z hA hM
  | succ d ih =>
    intro st Z hs hA hM hT
    refine ⟨fun z => absurd z (by rw [show (62 : Int32) = nI 62 from rfl]; exact nI_ge (by omega) (by omega)), fun _ => ?_⟩
    refine t10_sumAt (by omega) hb hM hT ?_
    have e62 : (62 : Int32) * nI sh + nI st = nI (62 * sh + st) := by rw [show (62 : Int32) = nI 62 from rfl, pk_mul, nI_add]
    have ii : vp_in (nI (62 * sh + st)) 930 := vp_in_nI (by omega) (by omega)
    rw [e62]
    refine ⟨ii, t10_pow (T := T) (d := d0) (st := st) (p := p) (sh := sh) (tu := 0) hb (by rw [sI_n (by omega), sI_s]) sI_s ⟨ii, ?_⟩⟩
    rw [nI_clamp (by omega), sI_n (by omega), sI_n (by omega), hA.2.2 _ (by omega), if_neg (Nat.lt_irrefl _), nI_add, ← hg st (by omega)]
    rintro M9 rfl x10 rfl
    rw [nI_1]
    refine ih (st + 1) _ (by omega) ⟨((hA.1.tr (EX.set (by decide) (by decide))).tr (EX.set (by decide) (by decide))).tr (EX.set (by decide) (by decide)), ⟨?_, fun k => ?_, fun k => ?_⟩, fun c hc => ?_⟩ ⟨?_, fun j i hj => ?_⟩ hT
    · rw [sI_n (by omega), sI_n (by omega), sI_n (by omega)]; exact hA.2.1.1
    · rw [sI_n (by omega), sI_n (by omega), sI_n (by omega)]; exact hA.2.1.2.1 k
    · rw [sI_n (by omega), sI_n (by omega), sI_n (by omega)]; exact hA.2.1.2.2 k
    · by_cases hcc : c = 62 * sh + st
      · rw [hcc, sI_s, if_pos (by omega)]
      · rw [sI_n (by omega), sI_n (by omega), sI_n (by omega), hA.2.2 c hc]
        by_cases hlt : c < 62 * sh + st
        · rw [if_pos hlt, if_pos (by omega)]
        · rw [if_neg hlt, if_neg (by omega)]
    · rw [sI_n (by omega), sI_n (by omega), sI_n (by omega)]; exact hM.1
    · rw [sI_n (by omega), sI_n (by omega), sI_n (by omega)]; exact hM.2 j i hj
theorem t10_add_l {T : Txt} {d0 p : Nat} {re im : Nat → Int} (hp : p < 200) (hb : BdS re im) {f g : Nat → Nat} (hg : ∀ sh st, sh < 15 → st < 62 → g (62 * sh + st) = pwN T d0 st re im p sh 0) {X : Mem} (hs : SmX re im X) {Q : Mem → Prop} (h : ∀ Z, AI f g X Z 930 → Q Z) : ∀ (d sh : Nat) (Z : Mem), sh + d = 15 → AI f g X Z (62 * sh) → MX (zsL T d0) Z → b_X4_add_8 Q (d + 1) (nI p) (nI sh) Z := by
  intro d
  induction d with
  | zero =>
    intro sh Z hsd hA hM
    have : sh = 15 := by omega
    subst this
    exact ⟨fun _ => h Z hA, fun z => absurd (by decide) z⟩
  | succ d ih =>
    intro sh Z hsd hA hM
    refine ⟨fun z => absurd z (by rw [show (15 : Int32) = nI 15 from rfl]; exact nI_ge (by omega) (by omega)), fun _ => ?_⟩
    refine t10_turn (tu := 0) hp (by omega) hb (hs.c hA.2.1) (fun V hV hT => ⟨63, t10_add_in (by omega) hb (fun st h2 => hg sh st (by omega) h2) (fun V2 hA2 hM2 => ih (sh + 1) V2 (by omega) hA2 hM2) 62 0 V rfl ⟨hA.1.tr hV.ex, hA.2.1.tr hV.c, fun c hc => ?_⟩ (hM.ft hV) hT⟩)
    rw [hV.1]
    exact hA.2.2 c hc
/-- the powers of a period come to those that are there -/
theorem t10_add {T : Txt} {d0 cv p : Nat} {re im : Nat → Int} (hcv : cv < 2 ^ 31) (hbit : ∀ i, i < 31 → cv.testBit i = chipB T d0 i) (hp : p < 200) (hb : BdS re im) {f : Nat → Nat} {X : Mem} (hs : SmX re im X) (hc : CellX f X) {Q : Mem → Prop} (h : ∀ Z, EX X Z → AgC X Z → CellX (fun c => f c + pwN T d0 (c % 62) re im p (c / 62) 0) Z → Q Z) : p_X4_add (nI cv) (nI p) X Q := by
  refine t10_take hcv hbit (fun Z hZ hM => ⟨16, t10_add_l (f := f) (g := fun c => pwN T d0 (c % 62) re im p (c / 62) 0) hp hb (fun sh st h1 h2 => ?_) (hs.c hZ.c) (fun V hV => h V (hZ.ex.tr hV.1) (hZ.c.tr hV.2.1) (fun c hc2 => ?_)) 15 0 Z rfl ⟨EX.rf Z, AgC.rf Z, fun c hc2 => ?_⟩ hM⟩)
  · show pwN T d0 ((62 * sh + st) % 62) re im p ((62 * sh + st) / 62) 0 = _
    rw [show (62 * sh + st) % 62 = st from by omega, show (62 * sh + st) / 62 = sh from by omega]
  · rw [hV.2.2 c hc2, if_pos hc2]
  · rw [if_neg (by omega), hZ.2 12 0 c (by decide) (by omega)]
    exact hc c hc2
theorem t10_begin_l {X : Mem} {Q : Mem → Prop} (h : ∀ Z, Z.2 = X.2 → (∀ a i j, a ≠ 12 → Z.1 a i j = X.1 a i j) → CellX (fun _ => 0) Z → Q Z) : ∀ (d c : Nat) (Z : Mem), c + d = 930 → Z.2 = X.2 → (∀ a i j, a ≠ 12 → Z.1 a i j = X.1 a i j) → (∀ j, j < c → Z.1 12 0 j = nI 0) → b_X4_begin_2 Q (d + 1) (nI c) Z := by
  intro d
  induction d with
  | zero =>
    intro c Z hc h1 h2 h3
    have : c = 930 := by omega
    subst this
    exact ⟨fun _ => h Z h1 h2 h3, fun z => absurd (by decide) z⟩
  | succ d ih =>
    intro c Z hc h1 h2 h3
    refine ⟨fun z => absurd z (by rw [show (930 : Int32) = nI 930 from rfl]; exact nI_ge (by omega) (by omega)), fun _ => ⟨vp_in_nI (by omega) (by omega), ?_⟩⟩
    rintro M2 rfl x3 rfl
    rw [nI_1, nI_clamp (by omega)]
    refine ih (c + 1) _ (by omega) h1 (fun a i j e => by rw [sI_n (by omega)]; exact h2 a i j e) (fun j hj => ?_)
    by_cases hjc : j = c
    · rw [hjc, sI_s]; rfl
    · rw [sI_n (by omega)]; exact h3 j (by omega)
theorem t10_begin {X : Mem} {Q : Mem → Prop} (h : ∀ Z, Z.2 = X.2 → (∀ a i j, a ≠ 12 → Z.1 a i j = X.1 a i j) → CellX (fun _ => 0) Z → Q Z) : p_X4_begin X Q :=
  ⟨931, t10_begin_l h 930 0 X rfl rfl (fun _ _ _ _ => rfl) (fun j hj => absurd hj (by omega))⟩
/-! peak and rival -/
def pkN (f : Nat → Nat) : Nat → Nat
  | 0 => 0
  | n + 1 => if f (pkN f n) < f n then n else pkN f n
theorem pkN_lt (f : Nat → Nat) {m : Nat} (hm : 0 < m) : ∀ n, n ≤ m → pkN f n < m
  | 0, _ => hm
  | n + 1, h => by
    rw [pkN]
    split
    · omega
    · exact pkN_lt f hm n (by omega)
theorem pkN_1 (f : Nat → Nat) : pkN f 1 = 0 := by
  rw [pkN]
  show (if f 0 < f 0 then 0 else 0) = 0
  split <;> rfl
def farB (f : Nat → Nat) (c : Nat) : Bool := decide (3 ≤ apN (c % 62) (pkN f 930 % 62))
def rvR (f : Nat → Nat) : Nat → Nat
  | 0 => 0
  | n + 1 => if farB f n then max (rvR f n) (f n) else rvR f n
def rvN (f : Nat → Nat) : Nat := rvR f 930
def IsRv (f : Nat → Nat) (S : Nat → Prop) (r : Nat) : Prop := (r = 0 ∨ ∃ c, c < 930 ∧ S c ∧ r = f c) ∧ ∀ c, c < 930 → S c → f c ≤ r
theorem IsRv.one {f : Nat → Nat} {S : Nat → Prop} {r q : Nat} (h : IsRv f S r) (g : IsRv f S q) : r = q := by
  have a : r ≤ q := by
    rcases h.1 with e | ⟨c, hc, hs, e⟩
    · omega
    · rw [e]; exact g.2 c hc hs
  have b : q ≤ r := by
    rcases g.1 with e | ⟨c, hc, hs, e⟩
    · omega
    · rw [e]; exact h.2 c hc hs
  omega
theorem IsRv.add {f : Nat → Nat} {S S' : Nat → Prop} {r c : Nat} (hc : c < 930) (h : IsRv f S r) (e : ∀ x, x < 930 → (S' x ↔ S x ∨ x = c)) : IsRv f S' (max r (f c)) := by
  refine ⟨?_, fun x hx hs => ?_⟩
  · rcases Nat.le_total (f c) r with y | y
    · rw [Nat.max_eq_left y]
      rcases h.1 with z | ⟨x, hx, hs, z⟩
      · exact Or.inl z
      · exact Or.inr ⟨x, hx, (e x hx).mpr (Or.inl hs), z⟩
    · rw [Nat.max_eq_right y]
      exact Or.inr ⟨c, hc, (e c hc).mpr (Or.inr rfl), rfl⟩
  · rcases (e x hx).mp hs with y | rfl
    · have := h.2 x hx y; omega
    · omega
theorem IsRv.eqv {f : Nat → Nat} {S S' : Nat → Prop} {r : Nat} (h : IsRv f S r) (e : ∀ x, x < 930 → (S' x ↔ S x)) : IsRv f S' r := by
  refine ⟨?_, fun x hx hs => h.2 x hx ((e x hx).mp hs)⟩
  rcases h.1 with z | ⟨x, hx, hs, z⟩
  · exact Or.inl z
  · exact Or.inr ⟨x, hx, (e x hx).mpr hs, z⟩
theorem rvR_is (f : Nat → Nat) : ∀ n, n ≤ 930 → IsRv f (fun c => c < n ∧ farB f c = true) (rvR f n)
  | 0, _ => ⟨Or.inl rfl, fun c _ hs => absurd hs.1 (by omega)⟩
  | n + 1, hn => by
    have ih := rvR_is f n (by omega)
    rw [rvR]
    cases hf : farB f n
    · refine ih.eqv (fun x _ => ⟨fun z => ⟨?_, z.2⟩, fun z => ⟨by omega, z.2⟩⟩)
      rcases Nat.lt_or_ge x n with y | y
      · exact y
      · have : x = n := by omega
        rw [this, hf] at z
        exact absurd z.2 (by decide)
    · refine ih.add (by omega) (fun x _ => ⟨fun z => ?_, fun z => ?_⟩)
      · rcases Nat.lt_or_ge x n with y | y
        · exact Or.inl ⟨y, z.2⟩
        · exact Or.inr (by omega)
      · rcases z with y | rfl
        · exact ⟨by omega, y.2⟩
        · exact ⟨by omega, hf⟩
theorem rvN_le {f : Nat → Nat} {m : Nat} (hf : ∀ c, c < 930 → f c < m) (hm : 0 < m) : rvN f < m := by
  rcases (rvR_is f 930 (Nat.le_refl _)).1 with e | ⟨c, hc, _, e⟩
  · show rvR f 930 < m; rw [e]; exact hm
  · show rvR f 930 < m; rw [e]; exact hf c hc
/-! the class's judge -/
def OH (X Z : Mem) : Prop := Z.2 = X.2 ∧ ∀ a i j, a ≠ 11 → Z.1 a i j = X.1 a i j
theorem t10_rival_l {f : Nat → Nat} (hf : ∀ c, c < 930 → f c < 2 ^ 30) {st : Nat} (hst : st < 62) {X : Mem} (hC : CellX f X) {S : Nat → Prop} {Q : Mem → Prop} {pk : Int32} {pp : Int32} (h : ∀ Z r, OH X Z → Z.1 11 0 1 = pk → Z.1 11 0 2 = pp → Z.1 11 0 3 = nI r → r < 2 ^ 30 → IsRv f (fun c => S c ∨ c % 62 = st) r → Q Z) : ∀ (d sh : Nat) (Z : Mem) (r : Nat), sh + d = 15 → OH X Z → Z.1 11 0 1 = pk → Z.1 11 0 2 = pp → Z.1 11 0 3 = nI r → r < 2 ^ 30 → IsRv f (fun c => S c ∨ (c % 62 = st ∧ c / 62 < sh)) r → b_X4_judgeRival_2 Q (d + 1) (nI st) (nI sh) Z := by
  intro d
  induction d with
  | zero =>
    intro sh Z r hs hO h1 h2 h3 hr hI
    have : sh = 15 := by omega
    subst this
    refine ⟨fun _ => h Z r hO h1 h2 h3 hr (hI.eqv (fun x hx => ?_)), fun z => absurd (by decide) z⟩
    exact ⟨fun z => z.imp id (fun y => ⟨y, by omega⟩), fun z => z.imp id (fun y => y.1)⟩
  | succ d ih =>
    intro sh Z r hs hO h1 h2 h3 hr hI
    have e62 : (62 : Int32) * nI sh + nI st = nI (62 * sh + st) := by rw [show (62 : Int32) = nI 62 from rfl, pk_mul, nI_add]
    have hf' := hf (62 * sh + st) (by omega)
    refine ⟨fun z => absurd z (by rw [show (15 : Int32) = nI 15 from rfl]; exact nI_ge (by omega) (by omega)), fun _ => ?_⟩
    rw [e62, nI_clamp (by omega), h3, hO.2 12 0 _ (by decide), hC _ (by omega)]
    refine ⟨vp_in_nI (by omega) (by omega), ?_⟩
    have em : (if nI r < nI (f (62 * sh + st)) then nI (f (62 * sh + st)) else nI r) = nI (max r (f (62 * sh + st))) := by
      by_cases y : r < f (62 * sh + st)
      · rw [if_pos (nI_lt y (by omega)), Nat.max_eq_right (by omega)]
      · rw [if_neg (nI_nlt (by omega) (by omega)), Nat.max_eq_left (by omega)]
    rw [em]
    rintro M3 rfl x4 rfl
    rw [nI_1]
    refine ih (sh + 1) _ _ (by omega) ⟨hO.1, fun a i j e => by rw [sI_n (by omega)]; exact hO.2 a i j e⟩ (by rw [sI_n (by omega)]; exact h1) (by rw [sI_n (by omega)]; exact h2) sI_s (by omega) (hI.add (c := 62 * sh + st) (by omega) (fun x hx => ?_))
    constructor
    · rintro (z | ⟨z1, z2⟩)
      · exact Or.inl (Or.inl z)
      · rcases Nat.lt_or_ge (x / 62) sh with y | y
        · exact Or.inl (Or.inr ⟨z1, y⟩)
        · exact Or.inr (by omega)
    · rintro ((z | ⟨z1, z2⟩) | rfl)
      · exact Or.inl z
      · exact Or.inr ⟨z1, by omega⟩
      · exact Or.inr ⟨by omega, by omega⟩
/-- what a hunt leaves in the class -/
def HX (f : Nat → Nat) (Z : Mem) : Prop := Z.1 11 0 1 = nI (pkN f 930) ∧ Z.1 11 0 2 = nI (f (pkN f 930)) ∧ Z.1 11 0 3 = nI (rvN f)
theorem t10_judge_l {f : Nat → Nat} (hf : ∀ c, c < 930 → f c < 2 ^ 30) {X : Mem} (hC : CellX f X) {Q : Mem → Prop} (h : ∀ Z, OH X Z → HX f Z → Q Z) : ∀ (d st : Nat) (Z : Mem) (r : Nat), st + d = 62 → OH X Z → Z.1 11 0 1 = nI (pkN f 930) → Z.1 11 0 2 = nI (f (pkN f 930)) → Z.1 11 0 3 = nI r → r < 2 ^ 30 → IsRv f (fun c => c % 62 < st ∧ farB f c = true) r → b_X4_judge_65 Q (d + 1) (nI st) Z := by
  have hpk := pkN_lt f (m := 930) (by decide) 930 (Nat.le_refl _)
  intro d
  induction d with
  | zero =>
    intro st Z r hs hO h1 h2 h3 hr hI
    have : st = 62 := by omega
    subst this
    have e : r = rvN f := hI.one ((rvR_is f 930 (Nat.le_refl _)).eqv (fun x hx => ⟨fun z => ⟨hx, z.2⟩, fun z => ⟨Nat.mod_lt _ (by decide), z.2⟩⟩))
    exact ⟨fun _ => h Z hO ⟨h1, h2, by rw [h3, e]⟩, fun z => absurd (by decide) z⟩
  | succ d ih =>
    intro st Z r hs hO h1 h2 h3 hr hI
    refine ⟨fun z => absurd z (by rw [show (62 : Int32) = nI 62 from rfl]; exact nI_ge (by omega) (by omega)), fun _ => ?_⟩
    have e62 : (nI (pkN f 930) - nI (pkN f 930) / 62 * 62 : Int32) = nI (pkN f 930 % 62) := pk_rem (d := 62) (by omega) (by decide) (by decide)
    rw [h1, e62]
    refine t10_apart (by omega) (Nat.mod_lt _ (by decide)) ?_
    have hap : apN st (pkN f 930 % 62) < 100 := by unfold apN; split <;> omega
    rw [show (3 : Int32) = nI 3 from rfl, nI_ltI (by omega) (by decide)]
    have nx : ∀ Z' r', OH X Z' → Z'.1 11 0 1 = nI (pkN f 930) → Z'.1 11 0 2 = nI (f (pkN f 930)) → Z'.1 11 0 3 = nI r' → r' < 2 ^ 30 → IsRv f (fun c => c % 62 < st + 1 ∧ farB f c = true) r' → b_X4_judge_91 Q (fun v1 M => b_X4_judge_65 Q (d + 1) v1 M) (nI st) Z' := by
      rintro Z' r' a b c e g i x9 rfl
      rw [nI_1]
      exact ih (st + 1) Z' r' (by omega) a b c e g i
    refine ⟨fun y => nx Z r hO h1 h2 h3 hr (hI.eqv (fun x hx => ⟨fun z => ⟨?_, z.2⟩, fun z => ⟨by omega, z.2⟩⟩)), fun y => ⟨16, t10_rival_l hf (by omega) hC (S := fun c => c % 62 < st ∧ farB f c = true) (fun Z' r' a b c e g i => nx Z' r' a b c e g (i.eqv (fun x hx => ?_))) 15 0 Z r rfl hO h1 h2 h3 hr (hI.eqv (fun x hx => ⟨fun z => z.elim id (fun w => absurd w.2 (by omega)), fun z => Or.inl z⟩))⟩⟩
    · rcases Nat.lt_or_ge (x % 62) st with w | w
      · exact w
      · have e : x % 62 = st := by omega
        have := z.2
        unfold farB at this
        rw [decide_eq_true_eq, e] at this
        omega
    · constructor
      · rintro ⟨z1, z2⟩
        rcases Nat.lt_or_ge (x % 62) st with w | w
        · exact Or.inl ⟨w, z2⟩
        · exact Or.inr (by omega)
      · rintro (⟨z1, z2⟩ | z)
        · exact ⟨by omega, z2⟩
        · refine ⟨by omega, ?_⟩
          unfold farB
          rw [decide_eq_true_eq, z]
          omega
theorem t10_peak_l {f : Nat → Nat} (hf : ∀ c, c < 930 → f c < 2 ^ 30) {X : Mem} (hC : CellX f X) {Q : Mem → Prop} (h : ∀ Z, OH X Z → HX f Z → Q Z) : ∀ (d c : Nat) (Z : Mem), c + d = 930 → 0 < c → OH X Z → Z.1 11 0 1 = nI (pkN f c) → b_X4_judge_7 Q (d + 1) (nI c) Z := by
  intro d
  induction d with
  | zero =>
    intro c Z hc h0 hO h1
    have : c = 930 := by omega
    subst this
    have hpk := pkN_lt f (m := 930) (by decide) 930 (Nat.le_refl _)
    refine ⟨fun _ => ?_, fun z => absurd (by decide) z⟩
    unfold b_X4_judge_45
    rw [h1, nI_clamp (by omega), hO.2 12 0 _ (by decide), hC _ hpk]
    refine ⟨vp_in_nI hpk (by omega), ?_⟩
    rintro M4 rfl M5 rfl
    refine ⟨63, t10_judge_l hf hC h 62 0 _ 0 rfl ⟨hO.1, fun a i j e => by rw [sI_n (by omega), sI_n (by omega)]; exact hO.2 a i j e⟩ (by rw [sI_n (by omega), sI_n (by omega)]; exact h1) (by rw [sI_n (by omega), sI_s]) (by rw [sI_s]; rfl) (by decide) ⟨Or.inl rfl, fun x _ hs => absurd hs.1 (by omega)⟩⟩
  | succ d ih =>
    intro c Z hc h0 hO h1
    have hpk := pkN_lt f (m := 930) (by decide) c (by omega)
    have b1 := hf c (by omega)
    have b2 := hf _ hpk
    refine ⟨fun z => absurd z (by rw [show (930 : Int32) = nI 930 from rfl]; exact nI_ge (by omega) (by omega)), fun _ => ?_⟩
    rw [h1, nI_clamp (by omega), nI_clamp (by omega), hO.2 12 0 _ (by decide), hO.2 12 0 _ (by decide), hC _ hpk, hC c (by omega), nI_leI (by omega) (by omega)]
    have e : pkN f (c + 1) = if f (pkN f c) < f c then c else pkN f c := rfl
    refine ⟨vp_in_nI (by omega) (by omega), vp_in_nI hpk (by omega), fun y => ?_, fun y => ?_⟩
    · rintro x14 rfl
      rw [nI_1]
      rw [if_neg (by omega)] at e
      exact ih (c + 1) Z (by omega) (by omega) hO (by rw [e]; exact h1)
    · rintro M15 rfl x14 rfl
      rw [nI_1]
      rw [if_pos (by omega)] at e
      exact ih (c + 1) _ (by omega) (by omega) ⟨hO.1, fun a i j e => by rw [sI_n (by omega)]; exact hO.2 a i j e⟩ (by rw [sI_s, e])
theorem t10_judge {f : Nat → Nat} (hf : ∀ c, c < 930 → f c < 2 ^ 30) {X : Mem} (hC : CellX f X) {Q : Mem → Prop} (h : ∀ Z, OH X Z → HX f Z → Q Z) : p_X4_judge X Q := by
  rintro M1 rfl
  exact ⟨930, t10_peak_l hf hC h 929 1 _ rfl (by decide) ⟨rfl, fun a i j e => sI_n (by omega)⟩ (by rw [sI_s, pkN_1]; rfl)⟩
def acqB (f : Nat → Nat) (ratio : Nat) : Bool := decide (0 < f (pkN f 930)) && decide (ratio * rvN f ≤ 10 * f (pkN f 930))
theorem t10_acq {f : Nat → Nat} {ratio : Nat} (hf : ∀ c, c < 930 → f c < 2 ^ 30) (hr : ratio < 100) {X : Mem} (hX : HX f X) {Q : Int32 → Mem → Prop} (h : Q (bitV (acqB f ratio)) X) : p_X4_isAcquired (nI ratio) X Q := by
  have hpk := hf _ (pkN_lt f (m := 930) (by decide) 930 (Nat.le_refl _))
  have hrv := rvN_le hf (by decide)
  have hprod : ratio * rvN f ≤ 100 * 2 ^ 30 := Nat.mul_le_mul (by omega) (by omega)
  unfold p_X4_isAcquired
  rw [hX.2.1, hX.2.2, nI_l (by omega), nI_l (by omega), nI_l (by omega), lN_mul, show (10 : Int64) = lN 10 from rfl, lN_mul, lg_lt (by omega) (by omega)]
  unfold acqB at h
  refine ⟨fun z => ?_, fun z => ⟨fun y => ?_, fun y => ?_⟩⟩
  · have e := (nI_le0 (by omega)).mp z
    rw [decide_eq_false (by omega), Bool.false_and] at h
    exact h
  · rw [decide_eq_false (p := ratio * rvN f ≤ _) (by omega), Bool.and_false] at h
    exact h
  · have e : f (pkN f 930) ≠ 0 := fun y => z ((nI_le0 (by omega)).mpr y)
    rw [decide_eq_true (by omega), decide_eq_true (by omega)] at h
    exact h
