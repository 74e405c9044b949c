/-! hunts on both sides -/
def hcN (T : Txt) (b noise seed : Nat) (only : Option Nat) (p c : Nat) : Nat := pwN T (T (1 + b) 1) (c % 62) (sreZ T p noise seed only) (simZ T p noise seed only) p (c / 62) 0
def hN (T : Txt) (b noise seed : Nat) (only : Option Nat) (p : Nat) : Nat → Nat → Nat
  | 0, _ => 0
  | m + 1, c => hN T b noise seed only p m c + hcN T b noise seed only (p + m) c
theorem hcN_lt {T : Txt} {b noise seed p c : Nat} {only : Option Nat} (h1 : TB T) (hn : noise < 100) : hcN T b noise seed only p c < 2 ^ 28 := (pw_e (bdS h1 hn)).2
theorem hN_le {T : Txt} {b noise seed p : Nat} {only : Option Nat} (h1 : TB T) (hn : noise < 100) : ∀ m c, hN T b noise seed only p m c ≤ m * 268435455
  | 0, _ => Nat.zero_le _
  | m + 1, c => by
    have a := hN_le (b := b) (seed := seed) (p := p) (only := only) h1 hn m c
    have e := hcN_lt (b := b) (seed := seed) (p := p + m) (c := c) (only := only) h1 hn
    rw [hN]
    omega
theorem hN_lt {T : Txt} {b noise seed p m : Nat} {only : Option Nat} (h1 : TB T) (hn : noise < 100) (hm : m ≤ 4) : ∀ c, c < 930 → hN T b noise seed only p m c < 2 ^ 30 := fun c _ => by
  have := hN_le (b := b) (seed := seed) (p := p) (only := only) h1 hn m c
  omega
/-! the class -/
def CW (T : Txt) (w : Nat) (X : Mem) : Prop := RefR w X ∧ WXw T w X ∧ OutX T w X
theorem CW.ex {T : Txt} {w : Nat} {X Z : Mem} (h : EX X Z) (H : CW T w X) : CW T w Z := ⟨H.1.ag h.ag.t, H.2.1.ag h.ag.t, H.2.2.ag h.ag.t⟩
theorem t10_ha {T : Txt} {w b p : Nat} (h1 : TB T) (hb : b < T 0 0) (hp : p < 200) {X : Mem} (hW : CW T w X) (h13 : CacheX T X) {f : Nat → Nat} (hc : CellX f X) {Q : Mem → Prop} (h : ∀ Z, EX X Z → CacheX T Z → CellX (fun c => f c + hcN T b (T 0 4) (T 0 5) none p c) Z → Q Z) : ∃ w4 : Nat, X.2.2 0 0 3 = some (23 + w4) ∧ w4 < 2 ∧ (p_X2_hear w4 (nI p) X (fun M5 => (∃ w6 : Nat, M5.2.2 0 0 3 = some (23 + w6) ∧ w6 < 2 ∧ (vp_in (nI b) 5 ∧ (p_X4_add ((M5.1 25 (5 * w6 + (nI b : Int32).toNatClampNeg) 2)) (nI p) M5 Q))))) := by
  have hnb := h1.1
  refine ⟨w, hW.1.2.1, hW.1.1, t10_hear h1 hW.1.1 hp hW.2.1 hW.2.2 h13 (fun Z hx hk hh hc2 => ?_)⟩
  have hW' := hW.ex hx
  obtain ⟨cv, hcv, xcv, hbit⟩ := hW'.2.2.2.2 b hb
  refine ⟨w, hW'.1.2.1, hW'.1.1, vp_in_nI (by omega) (by omega), ?_⟩
  rw [nI_clamp (by omega), xcv]
  exact t10_add (re := sreZ T p (T 0 4) (T 0 5) none) (im := simZ T p (T 0 4) (T 0 5) none) hcv hbit hp (bdS h1 h1.2.2.2.2.1) hh (fun c hc3 => by rw [hk 12 0 c (by decide)]; exact hc c hc3) (fun V hV hVc hVf => h V (hx.tr hV) (hc2.ag hVc) hVf)
theorem OH.ex {X Z : Mem} (h : OH X Z) : EX X Z := ⟨fun a i j e => h.2 a i j (by omega), fun _ _ _ _ => by rw [h.1], by rw [h.1]⟩
theorem OH.c {X Z : Mem} (h : OH X Z) : AgC X Z := ⟨h.2 5 0 4 (by decide), fun k => h.2 6 0 k (by decide), fun k => h.2 7 0 k (by decide)⟩
theorem t10_hunt_l {T : Txt} {w b p m : Nat} (h1 : TB T) (hb : b < T 0 0) (hm : m ≤ 4) (hp : p + m ≤ 200) {X : Mem} (hW : CW T w X) {Q : Mem → Prop} (h : ∀ Z, EX X Z → CacheX T Z → HX (hN T b (T 0 4) (T 0 5) none p m) Z → Q Z) : ∀ (d k : Nat) (Z : Mem), k + d = m → EX X Z → CacheX T Z → CellX (hN T b (T 0 4) (T 0 5) none p k) Z → b_X10_huntOver_10 Q (d + 1) (nI b) (nI p) (nI m) (nI k) Z := by
  intro d
  induction d with
  | zero =>
    intro k Z hk hx hc hf
    have : k = m := by omega
    subst this
    exact ⟨fun _ => t10_judge (hN_lt h1 h1.2.2.2.2.1 hm) hf (fun V hV hH => h V (hx.tr hV.ex) (hc.ag hV.c) hH), fun z => absurd (Int32.le_refl _) z⟩
  | succ d ih =>
    intro k Z hk hx hc hf
    refine ⟨fun z => absurd z (nI_ge (by omega) (by omega)), fun _ => ?_⟩
    rw [nI_add]
    refine t10_ha h1 hb (by omega) (hW.ex hx) hc hf (fun V hV hc2 hf2 => ?_)
    rintro x9 rfl
    rw [nI_1]
    exact ih (k + 1) V (by omega) (hx.tr hV) hc2 hf2
theorem t10_huntOver {T : Txt} {w b p m : Nat} (h1 : TB T) (hb : b < T 0 0) (hm : m ≤ 4) (hp : p + m ≤ 200) {X : Mem} (hW : CW T w X) (h13 : CacheX T X) {Q : Mem → Prop} (h : ∀ Z, EX X Z → CacheX T Z → HX (hN T b (T 0 4) (T 0 5) none p m) Z → Q Z) : p_X10_huntOver (nI b) (nI p) (nI m) X Q :=
  t10_begin (fun Z e1 e2 e3 => ⟨m + 1, t10_hunt_l h1 hb hm hp hW h m 0 Z (by omega) ⟨fun f i k e => e2 f i k (by omega), fun _ _ _ _ => by rw [e1], by rw [e1]⟩ (h13.ag ⟨e2 5 0 4 (by decide), fun k => e2 6 0 k (by decide), fun k => e2 7 0 k (by decide)⟩) e3⟩)
theorem t10_acqAs {T : Txt} {w b p noise seed : Nat} {only : Option Nat} (h1 : TB T) (hb : b < T 0 0) (hp : p < 200) (hn : noise < 100) (ho : ∀ o, only = some o → o < 5) {X : Mem} (hW : CW T w X) {Q : Int32 → Mem → Prop} (h : ∀ Z, EX X Z → CacheX T Z → HX (hN T b noise seed only p 1) Z → Q (bitV (acqB (hN T b noise seed only p 1) (T 0 6))) Z) : p_X10_isAcquiredAs (nI b) (nI p) (nI noise) (nI seed) (oI only) X Q := by
  have hnb := h1.1
  refine ⟨w, hW.1.2.1, hW.1.1, t10_hearAs h1 hW.1.1 hp (by omega) ho hW.2.1 hW.2.2 (fun Z hZ => t10_begin (fun V e1 e2 e3 => ?_))⟩
  have hx : EX X V := hZ.ex.tr ⟨fun f i k e => e2 f i k (by omega), fun _ _ _ _ => by rw [e1], by rw [e1]⟩
  have hW' := hW.ex hx
  obtain ⟨cv, hcv, xcv, hbit⟩ := hW'.2.2.2.2 b hb
  refine ⟨w, hW'.1.2.1, hW'.1.1, vp_in_nI (by omega) (by omega), ?_⟩
  rw [nI_clamp (by omega), xcv]
  refine t10_add (f := fun _ => 0) (re := sreZ T p noise seed only) (im := simZ T p noise seed only) hcv hbit hp (bdS h1 hn) (fun k hk => by rw [e2 6 0 k (by decide), e2 7 0 k (by decide)]; exact hZ.2.2.2 k hk) e3 (fun U hU hUc hUf => ?_)
  refine t10_judge (f := hN T b noise seed only p 1) (hN_lt h1 hn (by decide)) hUf (fun R hR hH => ?_)
  have hW'' := (hW'.ex hU).ex hR.ex
  refine ⟨w, hW''.1.2.1, hW''.1.1, ?_⟩
  rw [hW''.2.1.2.2.2.2.2.2.1]
  refine t10_acq (hN_lt h1 hn (by decide)) (by have := h1.2.2.2.2.2.2.1; omega) hH (h R ((hx.tr hU).tr hR.ex) (Or.inl ?_) hH)
  rw [hR.2 5 0 4 (by decide), hUc.1, e2 5 0 4 (by decide)]
  exact hZ.2.2.1
def prB (T : Txt) (b p : Nat) (f : Nat → Nat) : Bool := T (1 + b) 2 == 1 && decide (pkN f 930 = 62 * T (1 + b) 4 + startN T b p % 62)
theorem t10_right {T : Txt} {w b p : Nat} {f : Nat → Nat} (h1 : TB T) (hb : b < T 0 0) (hp : p < 200) {X : Mem} (hW : CW T w X) (hH : HX f X) {Q : Int32 → Mem → Prop} (h : Q (bitV (prB T b p f)) X) : p_X10_isPeakRight (nI b) (nI p) X Q := by
  have hnb := h1.1
  have hpk := pkN_lt f (m := 930) (by decide) 930 (Nat.le_refl _)
  have hB := hW.2.1.2.2.2.2.2.2.2.2.2 b hb
  have hst := startN_lt h1 hb (p := p) (by omega)
  obtain ⟨-, -, -, -, tsh, -⟩ := h1.2.2.2.2.2.2.2.2.2.2.2.2.1 b hb
  refine ⟨w, hW.1.2.1, hW.1.1, vp_in_nI (by omega) (by omega), ?_⟩
  rw [nI_clamp (by omega)]
  refine t10_isHeard h1 hb hB (fun hh => ⟨fun _ => ?_, fun z => absurd rfl z⟩) (fun hh => ⟨fun z => absurd z (by decide), fun _ => ?_⟩)
  · unfold prB at h
    rw [hh] at h
    exact h
  · refine t10_startIn h1 hb (by omega) hB hh ?_
    have e62 : (nI (startN T b p) - nI (startN T b p) / 62 * 62 : Int32) = nI (startN T b p % 62) := pk_rem (d := 62) (by omega) (by decide) (by decide)
    rw [e62, (hB.2.2.2.1 hh).2.1, hH.1, show (62 : Int32) = nI 62 from rfl, pk_mul, nI_add, nI_eq (by omega) (by omega)]
    unfold prB at h
    rw [show (T (1 + b) 2 == 1) = true from by rw [hh]; rfl, Bool.true_and] at h
    refine ⟨fun z => ?_, fun z => ?_⟩
    · rw [decide_eq_false z] at h; exact h
    · rw [decide_eq_true z] at h; exact h
/-! the reference -/
theorem sL_1 {M : Mem} {f i k : Nat} {v : Int64} : (sL M f i k v).1 = M.1 := rfl
def CellY (f : Nat → Nat) (Y : Mem) : Prop := ∀ c, c < 930 → Y.2.1 53 0 c = lN (f c)
def CY (T : Txt) (Y : Mem) : Prop := TYr T Y ∧ TbY Y
theorem CY.ey {T : Txt} {Y Z : Mem} (h1 : TB T) (h : EY Y Z) (H : CY T Y) : CY T Z := ⟨H.1.ag h1 h.ag.t, fun k hk => (h 48 0 k (by omega) (by omega)).trans (H.2 k hk)⟩
theorem NsY.ey {noise seed : Nat} {only : Option Nat} {Y Z : Mem} (h : EY Y Z) (H : NsY noise seed only Y) : NsY noise seed only Z := ⟨(h 40 0 22 (by omega) (by omega)).trans H.1, (h 40 0 23 (by omega) (by omega)).trans H.2.1, (h 40 0 24 (by omega) (by omega)).trans H.2.2⟩
def BI (f g : Nat → Nat) (Y Z : Mem) (n : Nat) : Prop := (∀ a i j, a ≠ 51 → a ≠ 52 → ¬ (a = 40 ∧ (j = 29 ∨ j = 30)) → Z.1 a i j = Y.1 a i j) ∧ ∀ c, c < 930 → Z.2.1 53 0 c = lN (if c < n then f c + g c else f c)
theorem BI.ey {f g : Nat → Nat} {Y Z : Mem} {n : Nat} (h : BI f g Y Z n) : EY Y Z := fun a i j e1 e2 => h.1 a i j (by omega) (by omega) (by omega)
theorem t11_apow_in {T : Txt} {b p sh : Nat} {re im : Nat → Int} (h1 : TB T) (hb : b < T 0 0) (hsh : sh < 15) (hbd : BdS re im) {f g : Nat → Nat} (hg : ∀ st, st < 62 → g (62 * sh + st) = pwN T (T (1 + b) 1) st re im p sh 0) {Y : Mem} (hC : CY T Y) {Q : Mem → Prop} {k7 : Int32 → Int32 → Int32 → Mem → Prop} (h : ∀ Z, BI f g Y Z (62 * (sh + 1)) → k7 (nI b) (nI p) (nI (sh + 1)) Z) : ∀ (d st : Nat) (Z : Mem), st + d = 62 → BI f g Y Z (62 * sh + st) → UY re im p sh 0 Z → b_X11_addsPowers_23 Q k7 (d + 1) (nI b) (nI p) (nI sh) (nI st) Z := by
  intro d
  induction d with
  | zero =>
    intro st Z hs hA hU
    have : st = 62 := by omega
    subst this
    refine ⟨fun _ => ?_, fun z => absurd (by decide) z⟩
    rintro x5 rfl
    rw [nI_1]
    exact h Z hA
  | succ d ih =>
    intro st Z hs hA hU
    have e62 : (62 : Int32) * nI sh + nI st = nI (62 * sh + st) := by rw [show (62 : Int32) = nI 62 from rfl, pk_mul, nI_add]
    have ii : vp_in (nI (62 * sh + st)) 930 := vp_in_nI (by omega) (by omega)
    refine ⟨fun z => absurd z (by rw [show (62 : Int32) = nI 62 from rfl]; exact nI_ge (by omega) (by omega)), fun _ => ?_⟩
    rw [e62, nI_clamp (by omega)]
    have hpw := (pw_e (T := T) (d := T (1 + b) 1) (st := st) (p := p) (sh := sh) (tu := 0) hbd).2
    refine ⟨ii, t11_pow h1 hb (by omega) hbd (hC.ey h1 hA.ey).1 hU ⟨ii, ?_⟩⟩
    rw [nI_l (by omega), hA.2 _ (by omega), if_neg (Nat.lt_irrefl _), lN_add, ← hg st (by omega)]
    rintro M8 rfl x9 rfl
    rw [nI_1]
    refine ih (st + 1) _ (by omega) ⟨fun a i j e1 e2 e3 => ?_, fun c hc => ?_⟩ (fun k hk => ?_)
    · show (sI (sI Z _ _ _ _) _ _ _ _).1 a i j = _
      rw [sI_n (by omega), sI_n (by omega)]; exact hA.1 a i j e1 e2 e3
    · by_cases hcc : c = 62 * sh + st
      · rw [hcc, sL_s, if_pos (by omega)]
      · rw [sL_n (by omega)]
        show Z.2.1 53 0 c = _
        rw [hA.2 c hc]
        by_cases hlt : c < 62 * sh + st
        · rw [if_pos hlt, if_pos (by omega)]
        · rw [if_neg hlt, if_neg (by omega)]
    · rw [sL_1, sI_n (by omega), sI_n (by omega), sI_n (by omega), sI_n (by omega)]
      exact hU k hk
theorem t11_apow_l {T : Txt} {b p : Nat} {re im : Nat → Int} (h1 : TB T) (hb : b < T 0 0) (hp : p < 200) (hbd : BdS re im) {f g : Nat → Nat} (hg : ∀ sh st, sh < 15 → st < 62 → g (62 * sh + st) = pwN T (T (1 + b) 1) st re im p sh 0) {Y : Mem} (hC : CY T Y) (hs : SY re im Y) {Q : Mem → Prop} (h : ∀ Z, BI f g Y Z 930 → Q Z) : ∀ (d sh : Nat) (Z : Mem), sh + d = 15 → BI f g Y Z (62 * sh) → b_X11_addsPowers_7 Q (d + 1) (nI b) (nI p) (nI sh) Z := by
  intro d
  induction d with
  | zero =>
    intro sh Z hsd hA
    have : sh = 15 := by omega
    subst this
    exact ⟨fun _ => h Z hA, fun z => absurd (by decide) z⟩
  | succ d ih =>
    intro sh Z hsd hA
    refine ⟨fun z => absurd z (by rw [show (15 : Int32) = nI 15 from rfl]; exact nI_ge (by omega) (by omega)), fun _ => ?_⟩
    refine t11_turns (re := re) (im := im) (tu := 0) hp (by omega) (by decide) (hC.ey h1 hA.ey).2 (fun k hk => ⟨(hA.1 49 0 k (by decide) (by decide) (by omega)).trans (hs k hk).1, (hA.1 50 0 k (by decide) (by decide) (by omega)).trans (hs k hk).2⟩) (fun V hV hU => ⟨63, t11_apow_in h1 hb (by omega) hbd (fun st h2 => hg sh st (by omega) h2) hC (fun V2 hA2 => ih (sh + 1) V2 (by omega) hA2) 62 0 V rfl ⟨fun a i j e1 e2 e3 => (hV.1 a i j e1 e2).trans (hA.1 a i j e1 e2 e3), fun c hc => ?_⟩ hU⟩)
    rw [hV.2]
    exact hA.2 c hc
theorem t11_apow {T : Txt} {b p noise seed : Nat} {only : Option Nat} (h1 : TB T) (hb : b < T 0 0) (hp : p < 200) (hn : noise < 100) (hsd : seed < 2 ^ 30) (ho : ∀ o, only = some o → o < 5) {Y : Mem} (hC : CY T Y) (hN : NsY noise seed only Y) {f : Nat → Nat} (hf : CellY f Y) {Q : Mem → Prop} (h : ∀ Z, EY Y Z → CellY (fun c => f c + hcN T b noise seed only p c) Z → Q Z) : p_X11_addsPowers (nI b) (nI p) Y Q := by
  refine t11_smp h1 hp (by omega) hsd ho hC.1 hC.2 hN (fun Z hZ => ⟨16, t11_apow_l (f := f) (g := hcN T b noise seed only p) h1 hb hp (bdS h1 hn) (fun sh st e1 e2 => ?_) (hC.ey h1 hZ.ey) hZ.2 (fun V hV => h V (hZ.ey.tr hV.ey) (fun c hc => ?_)) 15 0 Z rfl ⟨fun _ _ _ _ _ _ => rfl, fun c hc => ?_⟩⟩)
  · unfold hcN
    rw [show (62 * sh + st) % 62 = st from by omega, show (62 * sh + st) / 62 = sh from by omega]
  · rw [hV.2 c hc, if_pos hc]
  · rw [if_neg (by omega), hZ.1.1]
    exact hf c hc
/-- what a hunt leaves in the reference -/
def HY (f : Nat → Nat) (Z : Mem) : Prop := Z.1 40 0 32 = nI (pkN f 930) ∧ Z.2.1 40 0 33 = lN (rvN f) ∧ CellY f Z
def OY (Y Z : Mem) : Prop := (∀ a i j, ¬ (a = 40 ∧ i = 0 ∧ j = 32) → Z.1 a i j = Y.1 a i j) ∧ ∀ a i j, ¬ (a = 40 ∧ i = 0 ∧ j = 33) → Z.2.1 a i j = Y.2.1 a i j
theorem t11_rival_l {f : Nat → Nat} (hf : ∀ c, c < 930 → f c < 2 ^ 30) {Y : Mem} (hC : CellY f Y) {Q : Mem → Prop} (h : ∀ Z, OY Y Z → HY f Z → Q Z) : ∀ (d c : Nat) (Z : Mem), c + d = 930 → OY Y Z → Z.1 40 0 32 = nI (pkN f 930) → Z.2.1 40 0 33 = lN (rvR f c) → b_X11_laysPeak_58 Q (d + 1) (nI c) Z := by
  have hpk := pkN_lt f (m := 930) (by decide) 930 (Nat.le_refl _)
  intro d
  induction d with
  | zero =>
    intro c Z hc hO e1 e2
    have : c = 930 := by omega
    subst this
    exact ⟨fun _ => h Z hO ⟨e1, e2, fun x hx => by rw [hO.2 53 0 x (by omega)]; exact hC x hx⟩, fun z => absurd (by decide) z⟩
  | succ d ih =>
    intro c Z hc hO e1 e2
    have e62 : (nI (pkN f 930) - nI (pkN f 930) / 62 * 62 : Int32) = nI (pkN f 930 % 62) := pk_rem (d := 62) (by omega) (by decide) (by decide)
    have c62 : (nI c - nI c / 62 * 62 : Int32) = nI (c % 62) := pk_rem (d := 62) (by omega) (by decide) (by decide)
    have hb1 := hf c (by omega)
    have hrv : rvR f c < 2 ^ 30 := by
      rcases (rvR_is f c (by omega)).1 with z | ⟨x, hx, _, z⟩
      · omega
      · rw [z]; exact hf x hx
    refine ⟨fun z => absurd z (by rw [show (930 : Int32) = nI 930 from rfl]; exact nI_ge (by omega) (by omega)), fun _ => ?_⟩
    rw [e1, e62, c62]
    refine t11_apart (Nat.mod_lt _ (by decide)) (Nat.mod_lt _ (by decide)) ?_
    have hap : apN (c % 62) (pkN f 930 % 62) < 100 := by unfold apN; split <;> omega
    have ic : vp_in (nI c) 930 := vp_in_nI (by omega) (by omega)
    have er : rvR f (c + 1) = if farB f c then max (rvR f c) (f c) else rvR f c := rfl
    have nx : ∀ Z', OY Y Z' → Z'.1 40 0 32 = nI (pkN f 930) → Z'.2.1 40 0 33 = lN (rvR f (c + 1)) → b_X11_laysPeak_109 Q (fun v1 M => b_X11_laysPeak_58 Q (d + 1) v1 M) (nI c) Z' := by
      rintro Z' a b g x7 rfl
      rw [nI_1]
      exact ih (c + 1) Z' (by omega) a b g
    rw [show (3 : Int32) = nI 3 from rfl, nI_ltI (by omega) (by decide), nI_clamp (by omega), hO.2 53 0 c (by omega), hC c (by omega), e2, lg_le (by omega) (by omega)]
    refine ⟨fun y => nx Z hO e1 ?_, fun y => ⟨ic, fun z => nx Z hO e1 ?_, fun z => ⟨ic, ?_⟩⟩⟩
    · have hfr : farB f c = false := decide_eq_false (by omega)
      rw [er, hfr]; exact e2
    · have hfr : farB f c = true := decide_eq_true (by omega)
      rw [er, hfr, if_pos rfl, Nat.max_eq_left (by omega)]; exact e2
    · rintro M11 rfl
      have hfr : farB f c = true := decide_eq_true (by omega)
      refine nx _ ⟨hO.1, fun a i j e => by rw [sL_n (by omega)]; exact hO.2 a i j e⟩ e1 ?_
      rw [sL_s, er, hfr, if_pos rfl, Nat.max_eq_right (by omega)]
theorem t11_peak_l {f : Nat → Nat} (hf : ∀ c, c < 930 → f c < 2 ^ 30) {Y : Mem} (hC : CellY f Y) {Q : Mem → Prop} (h : ∀ Z, OY Y Z → HY f Z → Q Z) : ∀ (d c : Nat) (Z : Mem), c + d = 930 → 0 < c → OY Y Z → Z.1 40 0 32 = nI (pkN f c) → Z.2.1 40 0 33 = lN 0 → b_X11_laysPeak_12 Q (d + 1) (nI c) Z := by
  intro d
  induction d with
  | zero =>
    intro c Z hc h0 hO e1 e2
    have : c = 930 := by omega
    subst this
    exact ⟨fun _ => ⟨931, t11_rival_l hf hC h 930 0 Z rfl hO e1 e2⟩, fun z => absurd (by decide) z⟩
  | succ d ih =>
    intro c Z hc h0 hO e1 e2
    have hpk := pkN_lt f (m := 930) (by decide) c (by omega)
    have b1 := hf c (by omega)
    have b2 := hf _ hpk
    have e : pkN f (c + 1) = if f (pkN f c) < f c then c else pkN f c := rfl
    have nx : ∀ s1, s1 = nI (pkN f (c + 1)) → b_X11_laysPeak_47 Q (fun v1 M => b_X11_laysPeak_12 Q (d + 1) v1 M) (nI c) s1 Z := by
      rintro s1 rfl M15 rfl x16 rfl
      rw [nI_1]
      exact ih (c + 1) _ (by omega) (by omega) ⟨fun a i j e => by rw [sI_n (by omega)]; exact hO.1 a i j e, hO.2⟩ sI_s e2
    refine ⟨fun z => absurd z (by rw [show (930 : Int32) = nI 930 from rfl]; exact nI_ge (by omega) (by omega)), fun _ => ?_⟩
    rw [e1, nI_clamp (by omega), nI_clamp (by omega), hO.2 53 0 _ (by omega), hO.2 53 0 _ (by omega), hC _ hpk, hC c (by omega), lg_le (by omega) (by omega)]
    refine ⟨vp_in_nI (by omega) (by omega), vp_in_nI hpk (by omega), fun y => nx _ ?_, fun y => nx _ ?_⟩
    · rw [e, if_neg (by omega)]
    · rw [e, if_pos (by omega)]
theorem OY.ey {Y Z : Mem} (h : OY Y Z) : EY Y Z := fun a i j e1 e2 => h.1 a i j (by omega)
theorem t11_lpeak {f : Nat → Nat} (hf : ∀ c, c < 930 → f c < 2 ^ 30) {Y : Mem} (hC : CellY f Y) {Q : Mem → Prop} (h : ∀ Z, EY Y Z → HY f Z → Q Z) : p_X11_laysPeak Y Q := by
  rintro M1 rfl M2 rfl
  exact ⟨930, t11_peak_l hf hC (fun Z hO hH => h Z hO.ey hH) 929 1 _ rfl (by decide) ⟨fun a i j e => sI_n (by omega), fun a i j e => sL_n (by omega)⟩ (by rw [pkN_1, sL_1]; exact sI_s) sL_s⟩
theorem t11_hunts_l {T : Txt} {b p m noise seed : Nat} {only : Option Nat} (h1 : TB T) (hb : b < T 0 0) (hm : m ≤ 4) (hp : p + m ≤ 200) (hn : noise < 100) (hsd : seed < 2 ^ 30) (ho : ∀ o, only = some o → o < 5) {Y : Mem} (hC : CY T Y) (hNs : NsY noise seed only Y) {Q : Mem → Prop} (h : ∀ Z, EY Y Z → HY (hN T b noise seed only p m) Z → Q Z) : ∀ (d k : Nat) (Z : Mem), k + d = m → EY Y Z → CellY (hN T b noise seed only p k) Z → b_X11_hunts_28 Q (d + 1) (nI b) (nI p) (nI m) (nI k) Z := by
  intro d
  induction d with
  | zero =>
    intro k Z hk hx hf
    have : k = m := by omega
    subst this
    exact ⟨fun _ => t11_lpeak (hN_lt h1 hn hm) hf (fun V hV hH => h V (hx.tr hV) hH), fun z => absurd (Int32.le_refl _) z⟩
  | succ d ih =>
    intro k Z hk hx hf
    refine ⟨fun z => absurd z (nI_ge (by omega) (by omega)), fun _ => ?_⟩
    rw [nI_add]
    refine t11_apow h1 hb (by omega) hn hsd ho (hC.ey h1 hx) (hNs.ey hx) hf (fun V hV hf2 => ?_)
    rintro x5 rfl
    rw [nI_1]
    exact ih (k + 1) V (by omega) (hx.tr hV) hf2
theorem t11_zero_l {Y : Mem} {v1 v2 v3 : Int32} {Q : Mem → Prop} (h : ∀ Z, Z.1 = Y.1 → CellY (fun _ => 0) Z → b_X11_hunts_25 Q v1 v2 v3 Z) : ∀ (d c : Nat) (Z : Mem), c + d = 930 → Z.1 = Y.1 → (∀ j, j < c → Z.2.1 53 0 j = lN 0) → b_X11_hunts_3 Q (d + 1) v1 v2 v3 (nI c) Z := by
  intro d
  induction d with
  | zero =>
    intro c Z hc h1 h3
    have : c = 930 := by omega
    subst this
    exact ⟨fun _ => h Z h1 h3, fun z => absurd (by decide) z⟩
  | succ d ih =>
    intro c Z hc h1 h3
    refine ⟨fun z => absurd z (by rw [show (930 : Int32) = nI 930 from rfl]; exact nI_ge (by omega) (by omega)), fun _ => ⟨vp_in_nI (by omega) (by omega), ?_⟩⟩
    rintro M2 rfl x3 rfl
    rw [nI_1, nI_clamp (by omega)]
    refine ih (c + 1) _ (by omega) h1 (fun j hj => ?_)
    by_cases hjc : j = c
    · rw [hjc, sL_s]; rfl
    · rw [sL_n (by omega)]; exact h3 j (by omega)
theorem t11_hunts {T : Txt} {b p m noise seed : Nat} {only : Option Nat} (h1 : TB T) (hb : b < T 0 0) (hm : m ≤ 4) (hp : p + m ≤ 200) (hn : noise < 100) (hsd : seed < 2 ^ 30) (ho : ∀ o, only = some o → o < 5) {Y : Mem} (hC : CY T Y) (hNs : NsY noise seed only Y) {Q : Mem → Prop} (h : ∀ Z, EY Y Z → HY (hN T b noise seed only p m) Z → Q Z) : p_X11_hunts (nI b) (nI p) (nI m) Y Q :=
  ⟨931, t11_zero_l (fun Z e1 e2 => ⟨m + 1, t11_hunts_l h1 hb hm hp hn hsd ho hC hNs h m 0 Z (by omega) (fun _ _ _ _ _ => by rw [e1]) e2⟩) 930 0 Y rfl rfl (fun j hj => absurd hj (by omega))⟩
theorem t11_acq {f : Nat → Nat} {ratio : Nat} (hf : ∀ c, c < 930 → f c < 2 ^ 30) (hr : ratio < 100) {Y : Mem} (hY : HY f Y) (hra : Y.1 45 0 11 = nI ratio) {Q : Int32 → Mem → Prop} (h : Q (bitV (acqB f ratio)) Y) : p_X11_isAcquired Y Q := by
  have hlt := pkN_lt f (m := 930) (by decide) 930 (Nat.le_refl _)
  have hpk := hf _ hlt
  have hrv := rvN_le hf (by decide)
  have hprod : ratio * rvN f ≤ 100 * 2 ^ 30 := Nat.mul_le_mul (by omega) (by omega)
  have ip : vp_in (nI (pkN f 930)) 930 := vp_in_nI hlt (by omega)
  unfold p_X11_isAcquired
  rw [show (11 : Int32).toNatClampNeg = 11 from by decide, hY.1, nI_clamp (by omega), hY.2.2 _ hlt, hY.2.1, hra, nI_l (by omega), lN_mul, show (10 : Int64) = lN 10 from rfl, lN_mul, show (0 : Int64) = lN 0 from rfl, lg_lt (by omega) (by omega), lg_le (by omega) (by omega)]
  unfold acqB at h
  refine ⟨ip, fun z => ?_, fun z => ⟨ip, vp_in_nI (n := 11) (N := 34) (by decide) (by decide), fun y => ?_, fun y => ?_⟩⟩
  · rw [decide_eq_false (by omega), Bool.false_and] at h
    exact h
  · rw [decide_eq_false (p := ratio * rvN f ≤ _) (by omega), Bool.and_false] at h
    exact h
  · rw [decide_eq_true (by omega), decide_eq_true (by omega)] at h
    exact h
theorem t11_true {T : Txt} {b p : Nat} {f : Nat → Nat} (h1 : TB T) (hb : b < T 0 0) (hp : p < 200) {Y : Mem} (h5 : TYr T Y) (hH : HY f Y) {Q : Int32 → Mem → Prop} (h : Q (bitV (prB T b p f)) Y) : p_X11_isTrue (nI b) (nI p) Y Q := by
  have hnb := h1.1
  have hpk := pkN_lt f (m := 930) (by decide) 930 (Nat.le_refl _)
  have hst := startN_lt h1 hb (p := p) (by omega)
  obtain ⟨-, -, t2, -, tsh, -⟩ := h1.2.2.2.2.2.2.2.2.2.2.2.2.1 b hb
  refine t11_birdOf (k := 2) (by omega) (by decide) (by omega) ?_
  rw [h5.2.2.1 b 2 hb (by decide)]
  unfold prB at h
  refine ⟨fun z => ?_, fun z => t11_birdOf (k := 4) (by omega) (by decide) (by omega) ?_⟩
  · have e : T (1 + b) 2 ≠ 1 := fun y => z (by rw [y]; rfl)
    rw [show (T (1 + b) 2 == 1) = false from by rw [beq_eq_false_iff_ne]; exact e] at h
    exact h
  · have hh : T (1 + b) 2 = 1 := (nI_eq (by omega) (by decide)).mp z
    rw [h5.2.2.1 b 4 hb (by decide)]
    refine t11_startIn h1 hb (by omega) h5 ?_
    have e62 : (nI (startN T b p) - nI (startN T b p) / 62 * 62 : Int32) = nI (startN T b p % 62) := pk_rem (d := 62) (by omega) (by decide) (by decide)
    rw [e62, hH.1, show (62 : Int32) = nI 62 from rfl, pk_mul, nI_add, nI_eq (by omega) (by omega)]
    rw [show (T (1 + b) 2 == 1) = true from by rw [hh]; rfl, Bool.true_and] at h
    refine ⟨fun z => ?_, fun z => ?_⟩
    · rw [decide_eq_false z] at h; exact h
    · rw [decide_eq_true z] at h; exact h
