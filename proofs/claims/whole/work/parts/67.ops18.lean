/-! op 18: clearest -/
def RmN (f : Nat → Nat) : Nat := if rvN f = 0 then 1 else rvN f
def clR (P R : Nat → Nat) (p : Nat) : Nat → Nat × Nat × Nat
  | 0 => (p, P 0, R 0)
  | k + 1 => if P (k + 1) * (clR P R p k).2.2 ≤ (clR P R p k).2.1 * R (k + 1) then clR P R p k else (p + (k + 1), P (k + 1), R (k + 1))
theorem clR_b {P R : Nat → Nat} {p : Nat} (hP : ∀ k, P k < 2 ^ 30) (hR : ∀ k, R k < 2 ^ 30) : ∀ k, (clR P R p k).2.1 < 2 ^ 30 ∧ (clR P R p k).2.2 < 2 ^ 30
  | 0 => ⟨hP 0, hR 0⟩
  | k + 1 => by
    rw [clR]
    split
    · exact clR_b hP hR k
    · exact ⟨hP _, hR _⟩
def clP (T : Txt) (b p k : Nat) : Nat := hN T b (T 0 4) (T 0 5) none (p + k) 1 (pkN (hN T b (T 0 4) (T 0 5) none (p + k) 1) 930)
def clQ (T : Txt) (b p k : Nat) : Nat := RmN (hN T b (T 0 4) (T 0 5) none (p + k) 1)
theorem clP_b {T : Txt} {b p : Nat} (h1 : TB T) (k : Nat) : clP T b p k < 2 ^ 30 := hN_lt h1 h1.2.2.2.2.1 (by decide) _ (pkN_lt _ (by decide) 930 (Nat.le_refl _))
theorem clQ_b {T : Txt} {b p : Nat} (h1 : TB T) (k : Nat) : clQ T b p k < 2 ^ 30 ∧ 0 < clQ T b p k := by
  have := rvN_le (hN_lt (b := b) (seed := T 0 5) (p := p + k) (m := 1) (only := none) h1 h1.2.2.2.2.1 (by decide)) (by decide)
  unfold clQ RmN
  split <;> omega
theorem lg_first {P R : Nat} (hP : P < 2 ^ 30) (hR : R < 2 ^ 30) (h0 : 0 < R) : ¬ lg_cmp (lN P * 1) (-1 * lN R) ≤ 0 := by
  have e1 : (lN P * 1 : Int64).toInt = P := by rw [Int64.mul_one, pk_lT (by omega)]
  have m1 : (-1 : Int64).toInt = -1 := by decide
  have e2 : ((-1 : Int64) * lN R).toInt = -(R : Int) := by rw [fb_mulL (by rw [m1, pk_lT (by omega)]; omega) (by rw [m1, pk_lT (by omega)]; omega), m1, pk_lT (by omega)]; omega
  unfold lg_cmp
  rw [if_pos (by show _ < _; rw [Int64.lt_iff_toInt_lt, e1, e2]; omega)]
  decide
theorem t10_clr_l {T : Txt} {w b p n : Nat} (h1 : TB T) (hb : b < T 0 0) (hn : n ≤ 8) (hp : p + n ≤ 200) {X : Mem} (hW : CW T w X) {Q : Int32 → Mem → Prop} (h : ∀ j V, j + 1 = n → EX X V → CacheX T V → Q (nI (clR (clP T b p) (clQ T b p) p j).1) V) : ∀ (d j : Nat) (Z : Mem), j + 1 + d = n → EX X Z → CacheX T Z → b_X10_clearest_34 Q (d + 1) (nI b) (nI p) (nI n) (nI (clR (clP T b p) (clQ T b p) p j).1) (lN (clR (clP T b p) (clQ T b p) p j).2.1) (lN (clR (clP T b p) (clQ T b p) p j).2.2) (nI (j + 1)) Z := by
  intro d
  induction d with
  | zero =>
    intro j Z hj hx hc
    exact ⟨fun _ => h j Z (by omega) hx hc, fun z => absurd (by rw [show n = j + 1 from by omega]; exact Int32.le_refl _) z⟩
  | succ d ih =>
    intro j Z hj hx hc
    refine ⟨fun z => absurd z (nI_ge (by omega) (by omega)), fun _ => ?_⟩
    rw [nI_add]
    refine t10_huntOver (m := 1) h1 hb (by decide) (by omega) (hW.ex hx) hc (fun V hx2 hc2 hH => ?_)
    have b1 := clP_b (b := b) (p := p) h1 (j + 1)
    have b2 := clQ_b (b := b) (p := p) h1 (j + 1)
    have bb := clR_b (p := p) (clP_b (b := b) (p := p) h1) (fun k => (clQ_b (b := b) (p := p) h1 k).1) j
    have q1 : clP T b p (j + 1) * (clR (clP T b p) (clQ T b p) p j).2.2 ≤ 2 ^ 30 * 2 ^ 30 := Nat.mul_le_mul (by omega) (by omega)
    have q2 : (clR (clP T b p) (clQ T b p) p j).2.1 * clQ T b p (j + 1) ≤ 2 ^ 30 * 2 ^ 30 := Nat.mul_le_mul (by omega) (by omega)
    have er : clR (clP T b p) (clQ T b p) p (j + 1) = if clP T b p (j + 1) * (clR (clP T b p) (clQ T b p) p j).2.2 ≤ (clR (clP T b p) (clQ T b p) p j).2.1 * clQ T b p (j + 1) then clR (clP T b p) (clQ T b p) p j else (p + (j + 1), clP T b p (j + 1), clQ T b p (j + 1)) := rfl
    have go := ih (j + 1) V (by omega) (hx.tr hx2) hc2
    have e7 : (V.1 11 0 2).toInt64 = lN (clP T b p (j + 1)) := by rw [show V.1 11 0 2 = nI (clP T b p (j + 1)) from hH.2.1, nI_l (Nat.lt_trans b1 (by decide))]
    have key : ∀ s0, s0 = lN (clQ T b p (j + 1)) → b_X10_clearest_82 Q (fun v1 v2 v3 v4 v5 v7 v9 M => b_X10_clearest_34 Q (d + 1) v1 v2 v3 v4 v5 v7 v9 M) (nI b) (nI p) (nI n) (nI (clR (clP T b p) (clQ T b p) p j).1) (lN (clR (clP T b p) (clQ T b p) p j).2.1) (lN (clR (clP T b p) (clQ T b p) p j).2.2) (nI (j + 1)) (lN (clP T b p (j + 1))) s0 V := by
      rintro s0 rfl
      unfold b_X10_clearest_82
      rw [lN_mul, lN_mul, lg_le (by omega) (by omega)]
      refine ⟨fun y => ?_, fun y => ?_⟩
      · rintro x10 rfl
        rw [nI_1]
        rw [er, if_pos y] at go
        exact go
      · rintro x11 rfl x10 rfl
        rw [nI_1, nI_add]
        rw [er, if_neg y] at go
        dsimp only at go
        exact go
    rintro x7 rfl
    have hrv := rvN_le (hN_lt (b := b) (seed := T 0 5) (p := p + (j + 1)) (m := 1) (only := none) h1 h1.2.2.2.2.1 (by decide)) (by decide)
    rw [e7, hH.2.2]
    refine ⟨fun y => key _ ?_, fun y => key _ ?_⟩
    · have e : rvN (hN T b (T 0 4) (T 0 5) none (p + (j + 1)) 1) ≠ 0 := fun z => y (by rw [z]; rfl)
      rw [nI_l (by omega)]
      unfold clQ RmN
      rw [if_neg e]
    · have e := (nI_eq0 (by omega)).mp y
      unfold clQ RmN
      rw [if_pos e]
      rfl
theorem t11_clr_l {T : Txt} {b p n : Nat} (h1 : TB T) (hb : b < T 0 0) (hn : n ≤ 8) (hp : p + n ≤ 200) {Y : Mem} (hC : CY T Y) (hNs : NsY (T 0 4) (T 0 5) none Y) {Q : Int32 → Mem → Prop} (h : ∀ j V, j + 1 = n → EY Y V → Q (nI (clR (clP T b p) (clQ T b p) p j).1) V) : ∀ (d j : Nat) (Z : Mem), j + 1 + d = n → EY Y Z → (clR (clP T b p) (clQ T b p) p j).1 < 2 ^ 31 → b_X11_clearest_39 Q (d + 1) (nI b) (nI p) (nI n) (nI (clR (clP T b p) (clQ T b p) p j).1) (lN (clR (clP T b p) (clQ T b p) p j).2.1) (lN (clR (clP T b p) (clQ T b p) p j).2.2) (nI (j + 1)) Z := by
  intro d
  induction d with
  | zero =>
    intro j Z hj hx _
    exact ⟨fun _ => h j Z (by omega) hx, fun z => absurd (by rw [show n = j + 1 from by omega]; exact Int32.le_refl _) z⟩
  | succ d ih =>
    intro j Z hj hx h31
    refine ⟨fun z => absurd z (nI_ge (by omega) (by omega)), fun _ => ?_⟩
    rw [nI_add]
    refine t11_hunts (noise := T 0 4) (seed := T 0 5) (only := none) (m := 1) h1 hb (by decide) (by omega) h1.2.2.2.2.1 (by have := h1.2.2.2.2.2.1; omega) (fun o e => by cases e) (hC.ey h1 hx) (hNs.ey hx) (fun V hx2 hH => ?_)
    have b1 := clP_b (b := b) (p := p) h1 (j + 1)
    have b2 := clQ_b (b := b) (p := p) h1 (j + 1)
    have bb := clR_b (p := p) (clP_b (b := b) (p := p) h1) (fun k => (clQ_b (b := b) (p := p) h1 k).1) j
    have q1 : clP T b p (j + 1) * (clR (clP T b p) (clQ T b p) p j).2.2 ≤ 2 ^ 30 * 2 ^ 30 := Nat.mul_le_mul (by omega) (by omega)
    have q2 : (clR (clP T b p) (clQ T b p) p j).2.1 * clQ T b p (j + 1) ≤ 2 ^ 30 * 2 ^ 30 := Nat.mul_le_mul (by omega) (by omega)
    have er : clR (clP T b p) (clQ T b p) p (j + 1) = if clP T b p (j + 1) * (clR (clP T b p) (clQ T b p) p j).2.2 ≤ (clR (clP T b p) (clQ T b p) p j).2.1 * clQ T b p (j + 1) then clR (clP T b p) (clQ T b p) p j else (p + (j + 1), clP T b p (j + 1), clQ T b p (j + 1)) := rfl
    have hl2 : (clR (clP T b p) (clQ T b p) p (j + 1)).1 < 2 ^ 31 := by
      rw [er]
      split
      · exact h31
      · show p + (j + 1) < 2 ^ 31; omega
    have go := ih (j + 1) V (by omega) (hx.tr hx2) hl2
    have hlt := pkN_lt (hN T b (T 0 4) (T 0 5) none (p + (j + 1)) 1) (m := 930) (by decide) 930 (Nat.le_refl _)
    have ip : vp_in (nI (pkN (hN T b (T 0 4) (T 0 5) none (p + (j + 1)) 1) 930)) 930 := vp_in_nI hlt (by omega)
    have e7 : V.2.1 53 0 (nI (pkN (hN T b (T 0 4) (T 0 5) none (p + (j + 1)) 1) 930)).toNatClampNeg = lN (clP T b p (j + 1)) := by rw [nI_clamp (by omega), hH.2.2 _ hlt]; rfl
    have key : ∀ s0, s0 = lN (clQ T b p (j + 1)) → b_X11_clearest_72 Q (fun v1 v2 v3 v4 v5 v7 v9 M => b_X11_clearest_39 Q (d + 1) v1 v2 v3 v4 v5 v7 v9 M) (nI b) (nI p) (nI n) (nI (clR (clP T b p) (clQ T b p) p j).1) (lN (clR (clP T b p) (clQ T b p) p j).2.1) (lN (clR (clP T b p) (clQ T b p) p j).2.2) (nI (j + 1)) s0 V := by
      rintro s0 rfl
      unfold b_X11_clearest_72
      rw [hH.1, e7, lN_mul, lN_mul]
      refine ⟨fun z => absurd z (nI_pos h31), fun _ => ⟨ip, fun y => ?_, fun y => ?_⟩⟩
      · have y2 : ¬ clP T b p (j + 1) * (clR (clP T b p) (clQ T b p) p j).2.2 ≤ (clR (clP T b p) (clQ T b p) p j).2.1 * clQ T b p (j + 1) := fun z => absurd y (Int32.not_lt.mpr ((lg_le (by omega) (by omega)).mpr z))
        rintro x10 rfl
        rw [hH.1, e7]
        refine ⟨ip, ?_⟩
        rintro x12 rfl x13 rfl
        rw [nI_1, nI_add]
        rw [er, if_neg y2] at go
        dsimp only at go
        exact go
      · have y2 : clP T b p (j + 1) * (clR (clP T b p) (clQ T b p) p j).2.2 ≤ (clR (clP T b p) (clQ T b p) p j).2.1 * clQ T b p (j + 1) := (lg_le (by omega) (by omega)).mp (Int32.not_lt.mp y)
        rintro x13 rfl
        rw [nI_1]
        rw [er, if_pos y2] at go
        exact go
    have hrv := rvN_le (hN_lt (b := b) (seed := T 0 5) (p := p + (j + 1)) (m := 1) (only := none) h1 h1.2.2.2.2.1 (by decide)) (by decide)
    rw [hH.2.1, show (0 : Int64) = lN 0 from rfl, lg_eq (by omega) (by decide)]
    refine ⟨fun y => key _ ?_, fun y => key _ ?_⟩
    · unfold clQ RmN
      rw [if_neg y]
    · unfold clQ RmN
      rw [if_pos y]
      rfl
theorem op_18 (X Y : Mem) (a1 a2 a3 : Int32) (hR : Rel X Y) : p_X10_clearest a1 a2 a3 X (fun r X1 => p_X11_clearest a1 a2 a3 Y (fun r1 Y1 => r = r1 ∧ Rel X1 Y1)) := by
  obtain ⟨T, w, h1, h2, h3, h4, h5, h6, h7, h8, h9, h10, h11, h12, h13⟩ := id hR
  have hnb := h1.1
  have hYb : (sI Y 40 0 2 0).1 40 0 11 = nI (T 0 0) := by rw [sI_n (by omega)]; exact h5.1
  have hC := cY_of h1 h5 h6
  have ym : ∀ {Q : Int32 → Mem → Prop}, (¬ G13 (T 0 0) 8 a1 a2 a3 → Q (-1) (sI Y 40 0 2 0)) → (G13 (T 0 0) 8 a1 a2 a3 → (∃ n39 : Nat, b_X11_clearest_39 Q n39 a1 a2 a3 (-1) 0 1 0 (sI Y 40 0 2 0))) → p_X11_clearest a1 a2 a3 Y Q := by
    intro Q q0 q1
    rintro M1 rfl
    refine e_isIn (lo := 1) (m := 8) (n := 9) (by decide) rfl (by decide) (fun z => ⟨fun _ => q0 ?_, fun y => absurd rfl y⟩) (fun g2 => ⟨fun y => absurd y z1n, fun _ => ?_⟩)
    · rintro ⟨_, m, m1, m2, e, _⟩; exact z ⟨m, m1, m2, e⟩
    · obtain ⟨m, m1, m2, rfl⟩ := g2
      refine e11_isRange hnb m1 (by omega) hYb (fun z => ⟨fun y => absurd rfl y, fun _ => q0 ?_⟩) (fun gb gp => ⟨fun _ => q1 ⟨gb, m, m1, m2, rfl, gp⟩, fun y => absurd y z1n⟩)
      rintro ⟨gb, m', _, _, e, gp⟩
      have := (nI_eq (by omega) (by omega)).mp e
      subst this
      exact z ⟨gb, gp⟩
  have no : ¬ G13 (T 0 0) 8 a1 a2 a3 → p_X11_clearest a1 a2 a3 Y (fun r1 Y1 => -1 = r1 ∧ Rel X Y1) := fun n => ym (fun _ => ⟨rfl, hR.th 0⟩) (fun g => absurd g n)
  refine e10_isBird hnb h2 h3.1 (fun z => ⟨fun _ => no (fun g => z g.1), fun y => absurd rfl y⟩) (fun gb => ⟨fun y => absurd y z1n, fun _ => e10_arePeriods (N := 8) (by decide) (by decide) (fun z => ⟨fun y => absurd rfl y, fun _ => no (fun g => z g.2)⟩) (fun gm => ⟨fun _ => ?_, fun y => absurd y z1n⟩)⟩)
  have gg : G13 (T 0 0) 8 a1 a2 a3 := ⟨gb, gm⟩
  obtain ⟨b, _, hb, rfl⟩ := gb
  obtain ⟨m, m1, m2, rfl, p, hp, rfl⟩ := gm
  obtain ⟨n, rfl⟩ : ∃ n, m = n + 1 := ⟨m - 1, by omega⟩
  have hlt := pkN_lt (hN T b (T 0 4) (T 0 5) none (p + 0) 1) (m := 930) (by decide) 930 (Nat.le_refl _)
  have hrv := rvN_le (hN_lt (b := b) (seed := T 0 5) (p := p + 0) (m := 1) (only := none) h1 h1.2.2.2.2.1 (by decide)) (by decide)
  have b1 := clP_b (b := b) (p := p) h1 0
  have b2 := clQ_b (b := b) (p := p) h1 0
  refine ⟨n + 2, fun z => absurd z (nI_ge (a := 0) (b := n + 1) (by omega) (by omega)), fun _ => ?_⟩
  rw [show nI p + 0 = nI (p + 0) from Int32.add_zero _]
  refine t10_huntOver (m := 1) h1 hb (by decide) (by omega) ⟨h2, h3, h4⟩ h13 (fun Z hx hc hH => ?_)
  have fin := t10_clr_l h1 hb (n := n + 1) (by omega) hp (X := X) ⟨h2, h3, h4⟩ (Q := fun r X1 => p_X11_clearest (nI b) (nI p) (nI (n + 1)) Y (fun r1 Y1 => r = r1 ∧ Rel X1 Y1)) (fun j V hj hx2 hc2 => ?_) n 0 Z (by omega) hx hc
  · have e7 : (Z.1 11 0 2).toInt64 = lN (clP T b p 0) := by rw [show Z.1 11 0 2 = nI (clP T b p 0) from hH.2.1, nI_l (Nat.lt_trans b1 (by decide))]
    have key : ∀ s0, s0 = lN (clQ T b p 0) → b_X10_clearest_82 (fun r X1 => p_X11_clearest (nI b) (nI p) (nI (n + 1)) Y (fun r1 Y1 => r = r1 ∧ Rel X1 Y1)) (fun v1 v2 v3 v4 v5 v7 v9 M => b_X10_clearest_34 (fun r X1 => p_X11_clearest (nI b) (nI p) (nI (n + 1)) Y (fun r1 Y1 => r = r1 ∧ Rel X1 Y1)) (n + 1) v1 v2 v3 v4 v5 v7 v9 M) (nI b) (nI p) (nI (n + 1)) (nI p) (-1) 1 0 (lN (clP T b p 0)) s0 Z := by
      rintro s0 rfl
      refine ⟨fun y => absurd y (lg_first b1 b2.1 b2.2), fun _ => ?_⟩
      rintro x11 rfl x10 rfl
      rw [show nI p + 0 = nI p from Int32.add_zero _]
      rw [show clR (clP T b p) (clQ T b p) p 0 = (p, clP T b p 0, clQ T b p 0) from rfl] at fin
      dsimp only at fin
      exact fin
    rintro x7 rfl
    rw [e7, hH.2.2]
    refine ⟨fun y => key _ ?_, fun y => key _ ?_⟩
    · have e : rvN (hN T b (T 0 4) (T 0 5) none (p + 0) 1) ≠ 0 := fun z => y (by rw [z]; rfl)
      rw [nI_l (by omega)]
      unfold clQ RmN
      rw [if_neg e]
    · have e := (nI_eq0 (by omega)).mp y
      unfold clQ RmN
      rw [if_pos e]
      rfl
  · refine ym (fun n => absurd gg n) (fun _ => ⟨n + 2, fun z => absurd z (nI_ge (a := 0) (b := n + 1) (by omega) (by omega)), fun _ => ?_⟩)
    rw [show nI p + 0 = nI (p + 0) from Int32.add_zero _]
    refine t11_hunts (noise := T 0 4) (seed := T 0 5) (only := none) (m := 1) h1 hb (by decide) (by omega) h1.2.2.2.2.1 (by have := h1.2.2.2.2.2.1; omega) (fun o e => by cases e) hC (nsY_of h6) (fun V2 hv2 hY => ?_)
    have ip : vp_in (nI (pkN (hN T b (T 0 4) (T 0 5) none (p + 0) 1) 930)) 930 := vp_in_nI hlt (by omega)
    have e7 : V2.2.1 53 0 (nI (pkN (hN T b (T 0 4) (T 0 5) none (p + 0) 1) 930)).toNatClampNeg = lN (clP T b p 0) := by rw [nI_clamp (by omega), hY.2.2 _ hlt]; rfl
    have fin2 := t11_clr_l h1 hb (n := n + 1) (by omega) hp (Y := sI Y 40 0 2 0) hC (nsY_of h6) (Q := fun r1 Y1 => nI (clR (clP T b p) (clQ T b p) p j).1 = r1 ∧ Rel V Y1) (fun j' V3 hj' hv3 => ⟨by rw [show j' = j from by omega], relE h1 h2 h3 h4 h5 h6 h7 h8 h9 h10 h11 h12 hx2 hc2 hv3⟩) n 0 V2 (by omega) hv2 (show p < 2 ^ 31 by omega)
    have key : ∀ s0, s0 = lN (clQ T b p 0) → b_X11_clearest_72 (fun r1 Y1 => nI (clR (clP T b p) (clQ T b p) p j).1 = r1 ∧ Rel V Y1) (fun v1 v2 v3 v4 v5 v7 v9 M => b_X11_clearest_39 (fun r1 Y1 => nI (clR (clP T b p) (clQ T b p) p j).1 = r1 ∧ Rel V Y1) (n + 1) v1 v2 v3 v4 v5 v7 v9 M) (nI b) (nI p) (nI (n + 1)) (-1) 0 1 0 s0 V2 := by
      rintro s0 rfl
      refine ⟨fun _ => ?_, fun z => absurd (by decide) z⟩
      rintro x10 rfl
      rw [hY.1, e7]
      refine ⟨ip, ?_⟩
      rintro x12 rfl x13 rfl
      rw [show nI p + 0 = nI p from Int32.add_zero _]
      rw [show clR (clP T b p) (clQ T b p) p 0 = (p, clP T b p 0, clQ T b p 0) from rfl] at fin2
      dsimp only at fin2
      exact fin2
    rw [hY.2.1, show (0 : Int64) = lN 0 from rfl, lg_eq (by omega) (by decide)]
    refine ⟨fun y => key _ ?_, fun y => key _ ?_⟩
    · unfold clQ RmN
      rw [if_neg y]
    · unfold clQ RmN
      rw [if_pos y]
      rfl
