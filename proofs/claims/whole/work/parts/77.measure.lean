/-! op 31: measure -/
theorem ChR.mv {nb c u : Nat} {X Y X' Y' : Mem} (hx : ∀ k, X'.1 30 c k = X.1 30 c k) (hl : X'.2.1 30 c 8 = X.2.1 30 c 8) (hy : ∀ k, k < 73 → Y'.1 54 0 (u + k) = Y.1 54 0 (u + k)) (H : ChR nb X c Y u) : ChR nb X' c Y' u := by
  obtain ⟨S, b, x, y⟩ := H.spec
  have h64 := b.2.2.2.2.2.2.2.2.2.1
  refine ChR.ofS b ⟨fun k hk => (hx k).trans (x.1 k hk), (hx 7).trans x.2.1, (hx 9).trans x.2.2.1, (congrArg uN hl).trans x.2.2.2⟩ ⟨fun k hk => (hy k (by omega)).trans (y.1 k hk), fun i hi => ?_⟩
  rw [Nat.add_assoc, hy (9 + i) (by omega), ← Nat.add_assoc]
  exact y.2 i hi
noncomputable def rtN (s : Nat) : Nat := Classical.epsilon (fun r => isRoot r s)
theorem rt_e {r s : Nat} (h : isRoot r s) : r = rtN s := by
  have he : ∃ r, isRoot r s := ⟨r, h⟩
  exact root_one h (Classical.epsilon_spec he)
def sqB (T : Txt) (b x y z : Nat) : Nat := sqd (T (1 + b) 11) x + sqd (T (1 + b) 12) y + sqd (T (1 + b) 13) z
noncomputable def meZ (T : Txt) (k b : Nat) : Int := (rtN (sqB T b (T 0 8) (T 0 9) (T 0 10)) : Int) + 4 * (T 0 11 : Int) + errZ (nxtN (T 0 5 + b + 1000)) k
noncomputable def meN (T : Txt) (k b : Nat) : Nat := if meZ T k b < 0 then 0 else if 400 < meZ T k b then 400 else (meZ T k b).toNat
theorem meN_lt (T : Txt) (k b : Nat) : meN T k b < 401 := by
  unfold meN
  split
  · omega
  · split <;> omega
theorem sq_lt {T : Txt} {b x y z : Nat} (h1 : TB T) (hb : b < T 0 0) (hx : x < 16) (hy : y < 16) (hz : z < 16) : sqB T b x y z < 676 := by
  obtain ⟨-, -, -, -, -, -, -, -, -, -, -, t11, t12, t13, -⟩ := h1.2.2.2.2.2.2.2.2.2.2.2.2.1 b hb
  have a := (sqd_e _ t11 _ hx).2
  have b' := (sqd_e _ t12 _ hy).2
  have c := (sqd_e _ t13 _ hz).2
  unfold sqB; omega
theorem rtN_is {X : Mem} (hw : WaysR X) {s : Nat} (hs : s < 676) : isRoot (rtN s) s := by
  obtain ⟨r, hr, _⟩ := hw s hs
  rw [← rt_e hr]; exact hr
theorem rtN_lt {X : Mem} (hw : WaysR X) {s : Nat} (hs : s < 676) : rtN s < 104 := root_lt (rtN_is hw hs) hs
theorem nxtL (x : Nat) : (lN x * 1103515245 + 12345) &&& 2147483647 = lN (nxtN x) := nx11 x
theorem cl_e {d : Int} (h1 : -100000 < d) (h2 : d < 100000) : (if 0 < (if iI d < 400 then iI d else 400) then (if iI d < 400 then iI d else 400) else 0) = nI (if d < 0 then 0 else if 400 < d then 400 else d.toNat) := by
  have c400 : iI d < 400 ↔ d < 400 := by rw [Int32.lt_iff_toInt_lt, iI_t (by omega) (by omega), show (400 : Int32).toInt = 400 from by decide]
  have c0 : 0 < iI d ↔ 0 < d := by rw [Int32.lt_iff_toInt_lt, iI_t (by omega) (by omega), show (0 : Int32).toInt = 0 from by decide]
  by_cases a : d < 400
  · rw [if_pos (c400.mpr a)]
    by_cases b : 0 < d
    · rw [if_pos (c0.mpr b), if_neg (by omega), if_neg (by omega), ← iI_n]; congr 1; omega
    · rw [if_neg (fun z => b (c0.mp z))]
      by_cases e : d < 0
      · rw [if_pos e]; rfl
      · rw [if_neg e, if_neg (by omega), show d.toNat = 0 from by omega]; rfl
  · rw [if_neg (fun z => a (c400.mp z)), if_pos (by decide), if_neg (by omega)]
    by_cases e : 400 < d
    · rw [if_pos e]; rfl
    · rw [if_neg e, show d.toNat = 400 from by omega]; rfl
theorem t10_mr {T : Txt} {w b k : Nat} (h1 : TB T) (hb : b < T 0 0) (hk : k < 21) (hp : T (1 + b) 10 = 1) (hh : T 0 7 = 1) {X : Mem} (hW : CW T w X) (hw : WaysR X) {Q : Int32 → Mem → Prop} (h : Q (nI (meN T k b)) X) : p_X10_measuredRange (nI b) (nI k) X Q := by
  have hnb := h1.1
  obtain ⟨h2, h3, h4⟩ := hW
  obtain ⟨-, -, -, -, -, -, -, -, -, -, -, t11, t12, t13, -⟩ := h1.2.2.2.2.2.2.2.2.2.2.2.2.1 b hb
  have hB := h3.2.2.2.2.2.2.2.2.2 b hb
  obtain ⟨x0, x1, x2⟩ := hB.2.2.2.2.2.2.2.2.1 hp
  obtain ⟨y0, y1, y2, y3⟩ := h3.2.2.2.2.2.2.2.2.1 hh
  have u8 := h1.2.2.2.2.2.2.2.2.1
  have u9 := h1.2.2.2.2.2.2.2.2.2.1
  have u10 := h1.2.2.2.2.2.2.2.2.2.2.1
  have u11 := h1.2.2.2.2.2.2.2.2.2.2.2.1
  have u5 := h1.2.2.2.2.2.1
  refine ⟨w, h2.2.1, h2.1, vp_in_nI (by omega) (by omega), w, h2.2.1, h2.1, w, h2.2.1, h2.1, w, h2.2.1, h2.1, ?_⟩
  rw [nI_clamp (by omega), x0, x1, x2, y0, y1, y2]
  refine t10_way t11 u8 t12 u9 t13 u10 hw (fun r hr => ⟨w, h2.2.1, h2.1, ?_⟩)
  have e := rt_e hr
  have hrl := root_lt hr (sq_lt h1 hb u8 u9 u10)
  unfold p_X10_nextNumber
  rw [h3.2.2.2.2.2.1, nI_add, show (1000 : Int32) = nI 1000 from rfl, nI_add, nx10]
  refine t10_noise (nxtN_lt _) (by omega) ⟨w, h2.2.1, h2.1, ?_⟩
  have hez := errZ_b (nxtN (T 0 5 + b + 1000)) k
  have ev : (nI r + (4 : Int32) * nI (T 0 11)) + iI (errZ (nxtN (T 0 5 + b + 1000)) k) = iI (meZ T k b) := by
    rw [show (4 : Int32) = nI 4 from rfl, pk_mul, nI_add, ← iI_n, iI_add]
    unfold meZ sqB
    rw [e]
    congr 1
  rw [y3, ev, cl_e (by unfold meZ; unfold sqB; rw [← e]; omega) (by unfold meZ; unfold sqB; rw [← e]; omega)]
  exact h
def plB (T : Txt) (b : Nat) : Bool := T (1 + b) 10 == 1
noncomputable def rgM (T : Txt) (k n j : Nat) (old : Int32) : Int32 := if j < n ∧ plB T j = true then nI (meN T k j) else old
theorem rgM_s {T : Txt} {k n j : Nat} {old : Int32} (h : j ≠ n ∨ plB T n = false) : rgM T k (n + 1) j old = rgM T k n j old := by
  unfold rgM
  by_cases a : j < n ∧ plB T j = true
  · rw [if_pos a, if_pos ⟨by omega, a.2⟩]
  · rw [if_neg a, if_neg]
    rintro ⟨b1, b2⟩
    rcases h with h | h
    · exact a ⟨by omega, b2⟩
    · rcases Nat.lt_or_ge j n with y | y
      · exact a ⟨y, b2⟩
      · have : j = n := by omega
        rw [this, h] at b2; cases b2
theorem FRg {X Z : Mem} (h : ∀ f i j, ¬ (f = 29 ∧ i = 0) → Z.1 f i j = X.1 f i j) (h2 : Z.2 = X.2) : AgXt X Z := by
  refine ⟨fun f i k e => h f i k ?_, fun k => by rw [h2]⟩
  rintro ⟨rfl, _⟩
  exact Bool.false_ne_true e
theorem t10_mea_l {T : Txt} {w k : Nat} (h1 : TB T) (hk : k < 21) (hh : T 0 7 = 1) {X : Mem} (hW : CW T w X) (hw : WaysR X) {Q : Int32 → Mem → Prop} (h : ∀ Z, Z.2 = X.2 → (∀ f i j, ¬ (f = 29 ∧ i = 0) → Z.1 f i j = X.1 f i j) → (∀ j, j < 5 → Z.1 29 0 j = rgM T k (T 0 0) j (X.1 29 0 j)) → Q (nI (ct (plB T) (T 0 0))) Z) : ∀ (d b : Nat) (Z : Mem), b + d = T 0 0 → Z.2 = X.2 → (∀ f i j, ¬ (f = 29 ∧ i = 0) → Z.1 f i j = X.1 f i j) → (∀ j, j < 5 → Z.1 29 0 j = rgM T k b j (X.1 29 0 j)) → b_X10_measure_40 Q (d + 1) (nI k) (nI (ct (plB T) b)) (nI b) Z := by
  have hnb := h1.1
  intro d
  induction d with
  | zero =>
    intro b Z hb e2 e1 eg
    have : b = T 0 0 := by omega
    subst this
    have hWZ : CW T w Z := ⟨hW.1.ag (FRg e1 e2), hW.2.1.ag (FRg e1 e2), hW.2.2.ag (FRg e1 e2)⟩
    exact ⟨w, hWZ.1.2.1, hWZ.1.1, fun _ => h Z e2 e1 eg, fun z => absurd (by rw [hWZ.2.1.1]; exact Int32.le_refl _) z⟩
  | succ d ih =>
    intro b Z hb e2 e1 eg
    have hlt : b < T 0 0 := by omega
    have hWZ : CW T w Z := ⟨hW.1.ag (FRg e1 e2), hW.2.1.ag (FRg e1 e2), hW.2.2.ag (FRg e1 e2)⟩
    have hB := hWZ.2.1.2.2.2.2.2.2.2.2.2 b hlt
    have t10 := (h1.2.2.2.2.2.2.2.2.2.2.2.2.1 b hlt).2.2.2.2.2.2.2.2.2.2.1
    refine ⟨w, hWZ.1.2.1, hWZ.1.1, fun z => absurd z (by rw [hWZ.2.1.1]; exact nI_ge hlt (by omega)), fun _ => ⟨w, hWZ.1.2.1, hWZ.1.1, vp_in_nI (by omega) (by omega), ?_⟩⟩
    rw [nI_clamp (by omega), hB.2.2.2.2.2.2.2.1]
    have ec : ct (plB T) (b + 1) = ct (plB T) b + (if plB T b then 1 else 0) := rfl
    refine ⟨fun z => ?_, fun z => ?_⟩
    · have e0 := (nI_eq0 (by omega)).mp z
      have hp : plB T b = false := by unfold plB; rw [e0]; rfl
      rintro x11 rfl
      rw [nI_1]
      have go := ih (b + 1) Z (by omega) e2 e1 (fun j hj => by rw [rgM_s (Or.inr hp)]; exact eg j hj)
      rw [ec, hp] at go
      exact go
    · have e1' : T (1 + b) 10 = 1 := by
        have : T (1 + b) 10 ≠ 0 := fun y => z (by rw [y]; rfl)
        omega
      have hp : plB T b = true := by unfold plB; rw [e1']; rfl
      refine t10_mr h1 hlt hk e1' hh hWZ (hw.ag (FRg e1 e2)) ⟨vp_in_nI (by omega) (by omega), ?_⟩
      rintro M13 rfl x14 rfl x11 rfl
      rw [nI_1, nI_1]
      have go := ih (b + 1) (sI Z 29 0 b (nI (meN T k b))) (by omega) e2 (fun f i j e => by rw [sI_n (by omega)]; exact e1 f i j e) (fun j hj => ?_)
      · rw [ec, hp] at go
        exact go
      · by_cases y : j = b
        · subst y
          rw [sI_s]; unfold rgM; rw [if_pos ⟨by omega, hp⟩]
        · rw [sI_n (by omega), rgM_s (Or.inl y)]; exact eg j hj
theorem t11_mea_l {T : Txt} {k : Nat} (h1 : TB T) (hk : k < 21) (hh : T 0 7 = 1) {Y X : Mem} (h5 : TYr T Y) (hb0 : Y.1 40 0 35 = 0) (hw : WaysR X) {Q : Int32 → Mem → Prop} (h : ∀ Z, (∀ f i j, ¬ (f = 54 ∧ i = 0 ∧ 293 ≤ j ∧ j < 298) → Z.1 f i j = Y.1 f i j) → (∀ j, j < 5 → Z.1 54 0 (293 + j) = rgM T k (T 0 0) j (Y.1 54 0 (293 + j))) → Q (nI (ct (plB T) (T 0 0))) Z) : ∀ (d b : Nat) (Z : Mem), b + d = T 0 0 → (∀ f i j, ¬ (f = 54 ∧ i = 0 ∧ 293 ≤ j ∧ j < 298) → Z.1 f i j = Y.1 f i j) → (∀ j, j < 5 → Z.1 54 0 (293 + j) = rgM T k b j (Y.1 54 0 (293 + j))) → b_X11_measure_38 Q (d + 1) (nI k) (nI (ct (plB T) b)) (nI b) Z := by
  have hnb := h1.1
  have u8 := h1.2.2.2.2.2.2.2.2.1
  have u9 := h1.2.2.2.2.2.2.2.2.2.1
  have u10 := h1.2.2.2.2.2.2.2.2.2.2.1
  have u11 := h1.2.2.2.2.2.2.2.2.2.2.2.1
  have u5 := h1.2.2.2.2.2.1
  intro d
  induction d with
  | zero =>
    intro b Z hb e1 eg
    have : b = T 0 0 := by omega
    subst this
    exact ⟨fun _ => h Z e1 eg, fun z => absurd (by rw [e1 40 0 11 (by omega), h5.1]; exact Int32.le_refl _) z⟩
  | succ d ih =>
    intro b Z hb e1 eg
    have hlt : b < T 0 0 := by omega
    have h5Z : TYr T Z := h5.ag h1 (fun f k e => e1 f 0 k (by rintro ⟨rfl, _⟩; exact Bool.false_ne_true e))
    have t10 := (h1.2.2.2.2.2.2.2.2.2.2.2.2.1 b hlt).2.2.2.2.2.2.2.2.2.2.1
    have ec : ct (plB T) (b + 1) = ct (plB T) b + (if plB T b then 1 else 0) := rfl
    refine ⟨fun z => absurd z (by rw [h5Z.1]; exact nI_ge hlt (by omega)), fun _ => t11_birdOf (k := 10) (by omega) (by decide) (by omega) ?_⟩
    rw [h5Z.2.2.1 b 10 hlt (by decide)]
    refine ⟨fun z => ?_, fun z => ?_⟩
    · have e1' : T (1 + b) 10 = 1 := by
        have : T (1 + b) 10 ≠ 0 := fun y => z (by rw [y]; rfl)
        omega
      have hp : plB T b = true := by unfold plB; rw [e1']; rfl
      have c13 : Z.1 45 0 13 = nI (T 0 8) := h5Z.2.2.2.2.2.1 1 (by decide)
      have c14 : Z.1 45 0 14 = nI (T 0 9) := h5Z.2.2.2.2.2.1 2 (by decide)
      have c15 : Z.1 45 0 15 = nI (T 0 10) := h5Z.2.2.2.2.2.1 3 (by decide)
      have c16 : Z.1 45 0 16 = nI (T 0 11) := h5Z.2.2.2.2.2.1 4 (by decide)
      have c10 : Z.1 45 0 10 = nI (T 0 5) := h5Z.2.2.2.2.1 3 (by decide)
      have hs := sq_lt h1 hlt u8 u9 u10
      have hr := rtN_is hw hs
      have hrl := rtN_lt hw hs
      refine ⟨vp_in_nI (n := 13) (N := 34) (by decide) (by decide), vp_in_nI (n := 14) (N := 34) (by decide) (by decide), vp_in_nI (n := 15) (N := 34) (by decide) (by decide), ?_⟩
      rw [show (13 : Int32).toNatClampNeg = 13 from by decide, show (14 : Int32).toNatClampNeg = 14 from by decide, show (15 : Int32).toNatClampNeg = 15 from by decide, c13, c14, c15]
      refine t11_farFrom h1 h5Z hlt u8 u9 u10 hr ⟨vp_in_nI (n := 16) (N := 34) (by decide) (by decide), vp_in_nI (n := 10) (N := 34) (by decide) (by decide), ?_⟩
      rw [show (10 : Int32).toNatClampNeg = 10 from by decide, show (16 : Int32).toNatClampNeg = 16 from by decide, c10, c16, nI_l (by omega), nI_l (by omega), lN_add, show (1000 : Int64) = lN 1000 from rfl, lN_add]
      refine t11_made (t11_error (nxtN_lt _) (by omega) ?_)
      have hez := errZ_b (nxtN (T 0 5 + b + 1000)) k
      have ev : (nI (rtN (sqB T b (T 0 8) (T 0 9) (T 0 10))) + (4 : Int32) * nI (T 0 11)) + iI (errZ (nxtN (T 0 5 + b + 1000)) k) = iI (meZ T k b) := by
        rw [show (4 : Int32) = nI 4 from rfl, pk_mul, nI_add, ← iI_n, iI_add]
        unfold meZ
        congr 1
      have mb : -100000 < meZ T k b ∧ meZ T k b < 100000 := by unfold meZ; omega
      have bz : Z.1 40 0 35 = 0 := (e1 40 0 35 (by omega)).trans hb0
      have key : ∀ s2, s2 = nI (meN T k b) → b_X11_measure_151 Q (fun v1 v2 v3 M => b_X11_measure_157 Q (fun v1 v2 v3 M => b_X11_measure_38 Q (d + 1) v1 v2 v3 M) v1 v2 v3 M) (nI k) (nI (ct (plB T) b)) (nI b) ((293 : Int32) + nI b) s2 Z := by
        rintro s2 rfl
        unfold b_X11_measure_151
        rw [show (293 : Int32) + nI b = nI (293 + b) from nI_add 293 b]
        refine m_lay (u := 293 + b) (by omega) bz ?_
        rintro x22 rfl x23 rfl
        rw [nI_1, nI_1]
        have go := ih (b + 1) (sI Z 54 0 (293 + b) (nI (meN T k b))) (by omega) (fun f i j e => by rw [sI_n (by omega)]; exact e1 f i j e) (fun j hj => ?_)
        · rw [ec, hp] at go
          exact go
        · by_cases y : j = b
          · subst y
            rw [sI_s]; unfold rgM; rw [if_pos ⟨by omega, hp⟩]
          · rw [sI_n (by omega), rgM_s (Or.inl y)]; exact eg j hj
      show ∀ x18, x18 = (nI (rtN (sqB T b (T 0 8) (T 0 9) (T 0 10))) + (4 : Int32) * nI (T 0 11)) + iI (errZ (nxtN (T 0 5 + b + 1000)) k) → _
      rw [ev]
      rintro x18 rfl
      rw [iI_ge0 (by omega) (by omega)]
      have c400 : iI (meZ T k b) ≤ 400 ↔ meZ T k b ≤ 400 := by rw [Int32.le_iff_toInt_le, iI_t (by omega) (by omega), show (400 : Int32).toInt = 400 from by decide]
      have em : meN T k b = if meZ T k b < 0 then 0 else if 400 < meZ T k b then 400 else (meZ T k b).toNat := rfl
      rw [c400]
      refine ⟨fun y => ⟨fun x => key _ ?_, fun x => key _ ?_⟩, fun y => key _ ?_⟩
      · rw [em, if_neg (by omega), if_neg (by omega), ← iI_n]; congr 1; omega
      · rw [em, if_neg (by omega), if_pos (by omega)]; rfl
      · rw [em, if_pos (by omega)]; rfl
    · have e0 := (nI_eq0 (by omega)).mp z
      have hp : plB T b = false := by unfold plB; rw [e0]; rfl
      rintro x23 rfl
      rw [nI_1]
      have go := ih (b + 1) Z (by omega) e1 (fun j hj => by rw [rgM_s (Or.inr hp)]; exact eg j hj)
      rw [ec, hp] at go
      exact go
theorem op_31 (X Y : Mem) (a1 : Int32) (hR : Rel X Y) : p_X10_measure a1 X (fun r X1 => p_X11_measure a1 Y (fun r1 Y1 => r = r1 ∧ Rel X1 Y1)) := by
  obtain ⟨T, w, h1, h2, h3, h4, h5, h6, h7, h8, h9, h10, h11, h12, h13⟩ := id hR
  have t7 : T 0 7 < 2 := h1.2.2.2.2.2.2.2.1
  have h5' : TYr T (sI Y 40 0 2 0) := h5.ag h1 (AgYt.set rfl)
  have c12 : (sI Y 40 0 2 0).1 45 0 12 = nI (T 0 7) := h5'.2.2.2.2.2.1 0 (by decide)
  have ym : ∀ {Q : Int32 → Mem → Prop}, (¬ inL a1 0 21 → Q (-1) (sI Y 40 0 2 0)) → (inL a1 0 21 → (¬ nI (T 0 7) = 0 → (p_X11_canUndo (sI Y 40 0 2 0) (fun M6 => (∃ n38 : Nat, b_X11_measure_38 Q n38 a1 0 0 M6)))) ∧ (nI (T 0 7) = 0 → (Q (-2) (sI Y 40 0 2 0)))) → p_X11_measure a1 Y Q := by
    intro Q q0 q1
    rintro M1 rfl
    refine e_isIn (lo := 0) (m := 20) (n := 21) (by decide) rfl (by decide) (fun z => ⟨fun y => absurd rfl y, fun _ => q0 z⟩) (fun g => ⟨fun _ => ⟨vp_in_nI (n := 12) (N := 34) (by decide) (by decide), ?_⟩, fun y => absurd y z1n⟩)
    rw [show (12 : Int32).toNatClampNeg = 12 from by decide, c12]
    exact q1 g
  have no : ¬ inL a1 0 21 → p_X11_measure a1 Y (fun r1 Y1 => -1 = r1 ∧ Rel X Y1) := fun n => ym (fun _ => ⟨rfl, hR.th 0⟩) (fun g => absurd g n)
  refine ⟨fun z => no (inL_lo (by decide) z), fun z1 => ⟨fun z2 => ?_, fun z => no (inL_gt (m := 20) (by decide) rfl (Int32.not_le.mp z))⟩⟩
  have gg : inL a1 0 21 := inL_mk' (m := 20) (by decide) rfl z1 (Int32.not_lt.mpr z2) (by decide)
  have gg' := gg
  obtain ⟨k, _, hk, rfl⟩ := gg
  refine ⟨w, h2.2.1, h2.1, ?_⟩
  rw [h3.2.2.2.2.2.2.2.1]
  refine ⟨fun z => ?_, fun z => ym (fun n => absurd gg' n) (fun _ => ⟨fun y => absurd z y, fun _ => ⟨rfl, hR.th 0⟩⟩)⟩
  have hh : T 0 7 = 1 := by
    have : T 0 7 ≠ 0 := fun y => z (by rw [y]; rfl)
    omega
  obtain ⟨n, v, g1, g2, g3, g4, g5, g6⟩ := id h11
  obtain ⟨n0, hn0, hc0, hd0, hch, hrg⟩ := id h9
  obtain ⟨k5, k6, k7, k8, k9, k10⟩ := th_parts (v := 0) h1 h5 h6 h7 h8 h9 h10
  refine t_push g1 g2 hn0 g5 g3 hc0 (fun Z hP => ?_)
  have hWZ : CW T w Z := ⟨h2.ag hP.xt, h3.ag hP.xt, h4.ag hP.xt⟩
  refine ⟨T 0 0 + 1, t10_mea_l h1 hk hh hWZ (h12.ag hP.xt) (fun Z2 e2 e1 eg => ?_) (T 0 0) 0 Z (by omega) rfl (fun _ _ _ _ => rfl) (fun j hj => by unfold rgM; rw [if_neg (by omega)])⟩
  refine ym (fun n => absurd gg' n) (fun _ => ⟨fun _ => t_canUndo (n := n) g1 (by rw [sI_n (by omega)]; exact g4) (fun V hU => ⟨T 0 0 + 1, ?_⟩), fun y => absurd y z⟩)
  have v35 : V.1 40 0 35 = 0 := (hU.2.1 40 0 35 (by omega) (by omega)).trans (by rw [sI_n (by omega)]; exact h6.1)
  refine t11_mea_l h1 hk hh (k5.ag h1 hU.yt) v35 h12 (fun V2 d1 dg => ⟨rfl, ?_⟩) (T 0 0) 0 V (by omega) (fun _ _ _ _ => rfl) (fun j hj => by unfold rgM; rw [if_neg (by omega)])
  have hs1 : StR (T 0 0) Z 0 V 0 := StR.push k9 hP hU
  refine rel_after h1 h2 h3 h4 k5 k6 k7 k8 h12 k9 k10 g1 g2 (fun i hi => StR.ag (AgX.rf X) (AgY.set rfl) (by omega) (by omega) (g6 i hi)) hc0 hn0 hP hU (fun f i j e => e1 f i j ?_) (fun i hi => by rw [e2]) (by rw [e2]) (fun f j b1 b2 => d1 f 0 j (by omega)) ?_ ?_
  · rintro ⟨rfl, rfl⟩
    simp [KS0, kXt] at e
  · obtain ⟨m, q1, q2, q3, q4, q5⟩ := hs1
    refine ⟨m, q1, (e1 27 0 1 (by omega)).trans q2, (d1 54 0 _ (by omega)).trans q3, fun j hj => (q4 j hj).mv (fun k => e1 30 _ k (by omega)) (by rw [e2]) (fun k hk => d1 54 0 _ (by omega)), fun b hb => ?_⟩
    obtain ⟨r1, r2, r3⟩ := q5 b hb
    rw [show 298 * 0 + 293 + b = 293 + b from by omega] at r1 ⊢
    rw [eg b hb, dg b hb, ← r1]
    refine ⟨rfl, ?_, fun hnb => ?_⟩
    · unfold rgM
      split
      · exact Or.inr ⟨meN T k b, meN_lt T k b, rfl⟩
      · exact r2
    · unfold rgM
      rw [if_neg (by omega)]
      exact r3 hnb
  · exact (h13.ag hP.c).ag ⟨e1 5 0 4 (by omega), fun k => e1 6 0 k (by omega), fun k => e1 7 0 k (by omega)⟩
