/-! a bird's start in a period; starts apart; op 29: off -/
theorem startN_lt {T : Txt} {b p : Nat} (h1 : TB T) (hb : b < T 0 0) (hp : p ≤ 200) : startN T b p < 262 := by
  obtain ⟨-, -, -, t3, -⟩ := h1.2.2.2.2.2.2.2.2.2.2.2.2.1 b hb
  unfold startN
  split
  · omega
  · have := Nat.div_le_self p (T (1 + b) 7)
    omega
theorem t10_startIn {T : Txt} {b q p : Nat} (h1 : TB T) (hb : b < T 0 0) (hp : p ≤ 200) {X : Mem} (hB : BX T b q X) (hh : T (1 + b) 2 = 1) {Q : Int32 → Mem → Prop} (h : Q (nI (startN T b p)) X) : p_X0_startIn q (nI p) X Q := by
  obtain ⟨-, -, -, t3, -, -, -, t7, -⟩ := h1.2.2.2.2.2.2.2.2.2.2.2.2.1 b hb
  obtain ⟨-, -, -, xs, xd, -⟩ := hB
  unfold p_X0_startIn
  rw [(xs hh).1, xd]
  refine ⟨fun z => ?_, fun z => ?_⟩
  · have e := (nI_le0 (by omega)).mp z
    unfold startN at h
    rw [if_pos e, Nat.add_zero] at h
    exact h
  · have e : T (1 + b) 7 ≠ 0 := fun y => z ((nI_le0 (by omega)).mpr y)
    refine ⟨nI_ne0 (by omega) (by omega), ?_⟩
    rw [pk_div (by omega) (by omega) (by omega), nI_add]
    unfold startN at h
    rw [if_neg e] at h
    exact h
theorem t11_startIn {T : Txt} {b p : Nat} (h1 : TB T) (hb : b < T 0 0) (hp : p ≤ 200) {Y : Mem} (h5 : TYr T Y) {Q : Int32 → Mem → Prop} (h : Q (nI (startN T b p)) Y) : p_X11_startIn (nI b) (nI p) Y Q := by
  have hnb := h1.1
  obtain ⟨-, -, -, t3, -, -, -, t7, -⟩ := h1.2.2.2.2.2.2.2.2.2.2.2.2.1 b hb
  refine t11_birdOf (k := 3) (by omega) (by decide) (by omega) (t11_birdOf (k := 7) (by omega) (by decide) (by omega) ?_)
  rw [h5.2.2.1 b 3 hb (by decide), h5.2.2.1 b 7 hb (by decide)]
  refine ⟨fun z => t11_birdOf (k := 7) (by omega) (by decide) (by omega) ?_, fun z => ?_⟩
  · rw [h5.2.2.1 b 7 hb (by decide)]
    have e : T (1 + b) 7 ≠ 0 := fun y => z (by rw [y]; rfl)
    refine ⟨z, ?_⟩
    rw [pk_div (by omega) (by omega) (by omega), nI_add]
    unfold startN at h
    rw [if_neg e] at h
    exact h
  · have e := (nI_eq0 (by omega)).mp z
    unfold startN at h
    rw [if_pos e] at h
    rw [Int32.add_zero]
    exact h
def apN (a b : Nat) : Nat := if a ≤ b then min (b - a) (62 - (b - a)) else min (a - b) (62 - (a - b))
def apX (a b : Int32) : Int32 := if ((62 : Int32) - (if 0 ≤ (a - b) then (a - b) else 0 - (a - b))) < (if 0 ≤ (a - b) then (a - b) else 0 - (a - b)) then ((62 : Int32) - (if 0 ≤ (a - b) then (a - b) else 0 - (a - b))) else (if 0 ≤ (a - b) then (a - b) else 0 - (a - b))
def apY (a b : Int32) : Int32 := if a ≤ b then (if (62 - (b - a)) ≤ (b - a) then 62 - (b - a) else b - a) else (if (62 - (a - b)) ≤ (a - b) then 62 - (a - b) else a - b)
theorem ap_e : ∀ a, a < 62 → ∀ b, b < 62 → apX (nI a) (nI b) = nI (apN a b) ∧ apY (nI a) (nI b) = nI (apN a b) := by decide +kernel
theorem t10_apart {a b : Nat} (ha : a < 62) (hb : b < 62) {M : Mem} {Q : Int32 → Mem → Prop} (h : Q (nI (apN a b)) M) : p_X10_apart (nI a) (nI b) M Q := by
  rintro x1 rfl
  rw [← (ap_e a ha b hb).1] at h
  exact h
theorem t11_apart {a b : Nat} (ha : a < 62) (hb : b < 62) {M : Mem} {Q : Int32 → Mem → Prop} (h : Q (nI (apN a b)) M) : p_X11_apart (nI a) (nI b) 62 M Q := by
  rw [← (ap_e a ha b hb).2, apY] at h
  refine ⟨fun z => ?_, fun z => ?_⟩
  · rw [if_pos z] at h
    refine ⟨fun y => ?_, fun y => ?_⟩
    · rw [if_pos y] at h; exact h
    · rw [if_neg y] at h; exact h
  · rw [if_neg z] at h
    refine ⟨fun y => ?_, fun y => ?_⟩
    · rw [if_pos y] at h; exact h
    · rw [if_neg y] at h; exact h
theorem t10_isHeard {T : Txt} {b q : Nat} (h1 : TB T) (hb : b < T 0 0) {X : Mem} (hB : BX T b q X) {Q : Int32 → Mem → Prop} (h0 : T (1 + b) 2 = 0 → Q 0 X) (h : T (1 + b) 2 = 1 → Q 1 X) : p_X0_isHeard q X Q := by
  obtain ⟨-, -, t2, -, -, -, t6, -, -, -, -, -, -, -, tt⟩ := h1.2.2.2.2.2.2.2.2.2.2.2.2.1 b hb
  unfold p_X0_isHeard
  rw [hB.2.2.1]
  refine ⟨fun z => h0 ?_, fun z => h ?_⟩
  · have := (nI_le0 (by omega)).mp z
    omega
  · have : T (1 + b) 6 ≠ 0 := fun y => z ((nI_le0 (by omega)).mpr y)
    omega
/-- op 29: off -/
theorem op_29 (X Y : Mem) (a1 : Int32) (hR : Rel X Y) : p_X10_off a1 X (fun r X1 => p_X11_off a1 Y (fun r1 Y1 => r = r1 ∧ Rel X1 Y1)) := by
  obtain ⟨T, w, h1, h2, h3, h4, h5, h6, h7, h8, h9, h10, h11, h12, h13⟩ := id hR
  obtain ⟨n0, hn0, hc0, hd0, hch, _⟩ := id h9
  have hnb := h1.1
  have hb0 : (sI Y 40 0 2 0).1 40 0 35 = 0 := by rw [sI_n (by decide)]; exact h6.1
  have hd1 : (sI Y 40 0 2 0).1 54 0 292 = nI n0 := by rw [sI_n (by decide)]; exact hd0
  have h5' : TYr T (sI Y 40 0 2 0) := h5.ag h1 (AgYt.set rfl)
  have hB := h3.2.2.2.2.2.2.2.2.2
  have R := hR.th 0
  have no : (a1 < 0 ∨ nI n0 ≤ a1) → p_X10_off a1 X (fun r X1 => p_X11_off a1 Y (fun r1 Y1 => r = r1 ∧ Rel X1 Y1)) := fun h =>
    t10_isCh0 hc0 h ⟨fun z => absurd rfl z, fun _ => by
      rintro M1 rfl
      exact t11_isCh0 hb0 hd1 h ⟨fun z => absurd rfl z, fun _ => ⟨rfl, R⟩⟩⟩
  rcases pk_ix a1 (n := n0) (by omega) with h | h | ⟨c, hc, rfl⟩
  · exact no (Or.inl h)
  · exact no (Or.inr h)
  obtain ⟨c1, c2, -, -, -, c6, -⟩ := hch c hc
  simp only [Nat.mul_zero, Nat.zero_add] at c1 c2 c6
  obtain ⟨b, hb, xb, yb⟩ := c1
  obtain ⟨pt, hpt, xp, yp⟩ := c2
  obtain ⟨nx, hnx, xn, yn, -⟩ := c6
  have t2 := (h1.2.2.2.2.2.2.2.2.2.2.2.2.1 b hb).2.2.1
  have e0 : (sI Y 40 0 2 0).1 54 0 (73 * c + 0) = nI b := by rw [sI_n (by omega), Nat.add_zero]; exact yb
  have e1 : (sI Y 40 0 2 0).1 54 0 (73 * c + 1) = nI pt := by rw [sI_n (by omega)]; exact yp
  have e5 : (sI Y 40 0 2 0).1 54 0 (73 * c + 5) = nI nx := by rw [sI_n (by omega)]; exact yn
  have hsl := startN_lt h1 hb (p := min nx 199) (by omega)
  have p4 : (nI pt / 4 : Int32) = nI (pt / 4) := pk_div (d := 4) (by omega) (by decide) (by decide)
  have s62 : (nI (startN T b (min nx 199)) - nI (startN T b (min nx 199)) / 62 * 62 : Int32) = nI (startN T b (min nx 199) % 62) := pk_rem (d := 62) (by omega) (by decide) (by decide)
  have mo58 : b_X11_off_58 (fun r1 Y1 => nI (apN (pt / 4) (startN T b (min nx 199) % 62)) = r1 ∧ Rel X Y1) (nI c) (nI b) (nI (min nx 199)) (sI Y 40 0 2 0) := by
    refine t11_at (k := 1) (by omega) hb0 ?_
    rw [e1]
    refine t11_startIn h1 hb (by omega) h5' ?_
    rw [p4, s62]
    exact t11_apart (by omega) (Nat.mod_lt _ (by decide)) ⟨rfl, R⟩
  refine t10_isCh1 hc0 hn0 hc ⟨fun _ => ⟨vp_in_nI (by omega) (by omega), ?_⟩, fun z => absurd z (by decide)⟩
  rw [nI_clamp (by omega), Nat.mul_zero, Nat.zero_add, xb]
  refine t10_isBird1 h2 h3.1 hnb hb ⟨fun z => absurd z (by decide), fun _ => ⟨w, h2.2.1, h2.1, ?_⟩⟩
  rw [xb, nI_clamp (by omega)]
  refine ⟨vp_in_nI (by omega) (by omega), t10_isHeard h1 hb (hB b hb) (fun hh => ⟨fun z => absurd rfl z, fun _ => ?_⟩) (fun hh => ⟨fun _ => ?_, fun z => absurd z (by decide)⟩)⟩
  · rintro M1 rfl
    refine t11_isCh1 hb0 hd1 hn0 hc ⟨fun _ => t11_at (k := 0) (by omega) hb0 ?_, fun z => absurd z (by decide)⟩
    rw [e0]
    refine t11_birdOf (k := 2) (by omega) (by decide) (by omega) ?_
    rw [h5'.2.2.1 b 2 hb (by decide), hh]
    exact ⟨fun z => absurd rfl z, fun _ => ⟨rfl, R⟩⟩
  · rintro x10 rfl
    unfold p_X1_startOfPoint
    refine ⟨w, h2.2.1, h2.1, ?_⟩
    rw [xb, nI_clamp (by omega), xn, xp]
    have em : (if (199 : Int32) < nI nx then 199 else nI nx) = nI (min nx 199) := by
      rw [show (199 : Int32) = nI 199 from rfl]
      by_cases hlt : 199 < nx
      · rw [if_pos (nI_lt (a := 199) hlt (by omega)), show min nx 199 = 199 from by omega]
      · rw [if_neg (nI_nlt (a := 199) (b := nx) (by omega) (by omega)), show min nx 199 = nx from by omega]
    refine ⟨vp_in_nI (by omega) (by omega), ?_⟩
    rw [em]
    refine t10_startIn h1 hb (by omega) (hB b hb) hh ?_
    rw [p4, s62]
    refine t10_apart (by omega) (Nat.mod_lt _ (by decide)) ?_
    rintro M1 rfl
    refine t11_isCh1 hb0 hd1 hn0 hc ⟨fun _ => t11_at (k := 0) (by omega) hb0 ?_, fun z => absurd z (by decide)⟩
    rw [e0]
    refine t11_birdOf (k := 2) (by omega) (by decide) (by omega) ?_
    rw [h5'.2.2.1 b 2 hb (by decide), hh]
    refine ⟨fun _ => t11_at (k := 5) (by omega) hb0 ?_, fun z => absurd z (by decide)⟩
    rw [e5]
    refine ⟨fun z => t11_at (k := 5) (by omega) hb0 ?_, fun z => ?_⟩
    · rw [e5]
      have hne : nx ≠ 200 := fun y => z (by rw [y]; rfl)
      rw [show min nx 199 = nx from by omega] at mo58 ⊢
      exact mo58
    · have hnx2 : nx = 200 := (nI_eq (by omega) (by decide)).mp z
      rw [show min nx 199 = 199 from by omega] at mo58 ⊢
      exact mo58
