/-- op 36: distance -/
theorem op_36 (X Y : Mem) (a1 a2 : Int32) (hR : Rel X Y) : p_X10_distance a1 a2 X (fun r X1 => p_X11_distance a1 a2 Y (fun r1 Y1 => r = r1 ∧ Rel X1 Y1)) := by
  obtain ⟨T, w, h1, h2, h3, h4, h5, h6, h7, h8, h9, h10, h11, h12, h13⟩ := id hR
  have hnb := h1.1
  have hT := h1.2.2.2.2.2.2.2.2.2.2.2.2.1
  have hYb : (sI Y 40 0 2 0).1 40 0 11 = nI (T 0 0) := by rw [sI_n (by omega)]; exact h5.1
  have h5' : TYr T (sI Y 40 0 2 0) := h5.ag h1 (AgYt.set rfl)
  have hB := h3.2.2.2.2.2.2.2.2.2
  have R := hR.th 0
  have no1 : (a1 < 0 ∨ nI (T 0 0) ≤ a1) → p_X10_distance a1 a2 X (fun r X1 => p_X11_distance a1 a2 Y (fun r1 Y1 => r = r1 ∧ Rel X1 Y1)) := fun h =>
    t10_isBird0 h2 h3.1 h ⟨fun _ => by
      rintro M1 rfl
      exact t11_isBird0 hYb h ⟨fun _ => ⟨rfl, R⟩, fun z => absurd rfl z⟩, fun z => absurd rfl z⟩
  rcases pk_ix a1 (n := T 0 0) (by omega) with h | h | ⟨b, hb, rfl⟩
  · exact no1 (Or.inl h)
  · exact no1 (Or.inr h)
  have no2 : (a2 < 0 ∨ nI (T 0 0) ≤ a2) → p_X10_distance (nI b) a2 X (fun r X1 => p_X11_distance (nI b) a2 Y (fun r1 Y1 => r = r1 ∧ Rel X1 Y1)) := fun h =>
    t10_isBird1 h2 h3.1 hnb hb ⟨fun z => absurd z (by decide), fun _ => t10_isBird0 h2 h3.1 h ⟨fun z => absurd rfl z, fun _ => by
      rintro M1 rfl
      exact t11_isBird1 hYb hnb hb ⟨fun z => absurd z (by decide), fun _ => t11_isBird0 hYb h ⟨fun z => absurd rfl z, fun _ => ⟨rfl, R⟩⟩⟩⟩⟩
  rcases pk_ix a2 (n := T 0 0) (by omega) with h | h | ⟨c, hc, rfl⟩
  · exact no2 (Or.inl h)
  · exact no2 (Or.inr h)
  have tb := hT b hb
  have tc := hT c hc
  obtain ⟨-, -, -, -, -, -, -, -, -, -, b10, b11, b12, b13, -⟩ := tb
  obtain ⟨-, -, -, -, -, -, -, -, -, -, c10, c11, c12, c13, -⟩ := tc
  obtain ⟨-, -, -, -, -, -, -, xb, xb', -⟩ := hB b hb
  obtain ⟨-, -, -, -, -, -, -, xc, xc', -⟩ := hB c hc
  have yb := h5'.2.2.1 b 10 hb (by decide)
  have yc := h5'.2.2.1 c 10 hc (by decide)
  -- the reference up to where places are asked for
  have mo : ∀ r : Int32, ((T (1 + b) 10 = 0 ∨ T (1 + c) 10 = 0) → r = -2) → (T (1 + b) 10 = 1 → T (1 + c) 10 = 1 → ∃ q, isRoot q (sqd (T (1 + b) 11) (T (1 + c) 11) + sqd (T (1 + b) 12) (T (1 + c) 12) + sqd (T (1 + b) 13) (T (1 + c) 13)) ∧ r = nI q) → p_X11_distance (nI b) (nI c) Y (fun r1 Y1 => r = r1 ∧ Rel X Y1) := by
    intro r e0 e1
    rintro M1 rfl
    refine t11_isBird1 hYb hnb hb ⟨fun z => absurd z (by decide), fun _ => t11_isBird1 hYb hnb hc ⟨fun _ => ?_, fun z => absurd z (by decide)⟩⟩
    refine t11_birdOf (k := 10) (by omega) (by decide) (by omega) ⟨fun z => ?_, fun z => ?_⟩
    · rw [yb] at z
      exact ⟨e0 (Or.inl ((nI_eq0 (by omega)).mp z)), R⟩
    · rw [yb] at z
      have hb1 : T (1 + b) 10 = 1 := by
        have : T (1 + b) 10 ≠ 0 := fun y => z (by rw [y]; rfl)
        omega
      refine t11_birdOf (k := 10) (by omega) (by decide) (by omega) ⟨fun z => ?_, fun z => ?_⟩
      · rw [yc] at z
        have hc1 : T (1 + c) 10 = 1 := by
          have : T (1 + c) 10 ≠ 0 := fun y => z (by rw [y]; rfl)
          omega
        obtain ⟨q, hq, er⟩ := e1 hb1 hc1
        refine t11_birdOf (k := 11) (by omega) (by decide) (by omega) ?_
        refine t11_birdOf (k := 12) (by omega) (by decide) (by omega) ?_
        refine t11_birdOf (k := 13) (by omega) (by decide) (by omega) ?_
        rw [h5'.2.2.1 c 11 hc (by decide), h5'.2.2.1 c 12 hc (by decide), h5'.2.2.1 c 13 hc (by decide)]
        exact t11_farFrom h1 h5' hb c11 c12 c13 hq ⟨er, R⟩
      · rw [yc] at z
        exact ⟨e0 (Or.inr ((nI_eq0 (by omega)).mp z)), R⟩
  refine t10_isBird1 h2 h3.1 hnb hb ⟨fun z => absurd z (by decide), fun _ => t10_isBird1 h2 h3.1 hnb hc ⟨fun _ => ⟨w, h2.2.1, h2.1, vp_in_nI (by omega) (by omega), w, h2.2.1, h2.1, vp_in_nI (by omega) (by omega), ?_⟩, fun z => absurd z (by decide)⟩⟩
  rw [nI_clamp (by omega), nI_clamp (by omega)]
  refine ⟨fun z => ?_, fun z => ⟨fun z' => ?_, fun z' => ?_⟩⟩
  · rw [xb] at z
    have := (nI_eq0 (by omega)).mp z
    exact mo _ (fun _ => rfl) (fun y => by omega)
  · rw [xb] at z
    rw [xc] at z'
    have hb1 : T (1 + b) 10 = 1 := by
      have : T (1 + b) 10 ≠ 0 := fun y => z (by rw [y]; rfl)
      omega
    have hc1 : T (1 + c) 10 = 1 := by
      have : T (1 + c) 10 ≠ 0 := fun y => z' (by rw [y]; rfl)
      omega
    obtain ⟨p1, p2, p3⟩ := xb' hb1
    obtain ⟨q1, q2, q3⟩ := xc' hc1
    rw [p1, p2, p3, q1, q2, q3]
    exact t10_way b11 c11 b12 c12 b13 c13 h12 (fun r hr => mo _ (fun y => by omega) (fun _ _ => ⟨r, hr, rfl⟩))
  · rw [xc] at z'
    have := (nI_eq0 (by omega)).mp z'
    exact mo _ (fun _ => rfl) (fun _ y => by omega)
/-! op 5: chip -/
theorem ush_bit {n k : Nat} (hn : n < 2 ^ 31) (hk : k < 31) : (((nI n : Int32).toUInt32 >>> ((nI k : Int32).toUInt32 &&& Int32.toUInt32 31)).toInt32 &&& 1) = (if n.testBit k then 1 else 0) := by
  have hs : ∀ k, k < 31 → (((nI k : Int32).toUInt32 &&& Int32.toUInt32 31).toBitVec % 32).toNat = k := by decide +kernel
  rw [pk_ushrN (by omega) (nI k) k (hs k hk), pk_andN (n := n / 2 ^ k) (Nat.lt_of_le_of_lt (Nat.div_le_self _ _) (by omega)) (m := 1) 1 (by decide)]
  have e := Nat.testBit_eq_decide_div_mod_eq (x := n) (i := k)
  rw [show (2 : Nat) ^ 1 = 2 from rfl]
  rcases Nat.mod_two_eq_zero_or_one (n / 2 ^ k) with z | z
  · rw [e, z]; rfl
  · rw [e, z]; rfl
theorem t11_chipBy {T : Txt} {d i : Nat} (hd : d < 31) (hi : i < 31) {Y : Mem} (h5 : TYr T Y) {Q : Int32 → Mem → Prop} (h : Q (if chipB T d i then 1 else -1) Y) : p_X11_chipBy (nI d) (nI i) Y Q := by
  have e : ((31 : Int32) + ((nI i + nI d) - (nI i + nI d) / 31 * 31)) = nI (31 + (i + d) % 31) := by
    rw [nI_add, show (31 : Int32) = nI 31 from rfl, pk_rem (by omega) (by decide) (by decide), nI_add]
  obtain ⟨-, -, -, -, -, -, hc⟩ := h5
  have e1 := (hc i hi).1
  have e2 := (hc ((i + d) % 31) (Nat.mod_lt _ (by decide))).2
  refine ⟨vp_in_nI (by omega) (by omega), ?_⟩
  rw [e, nI_clamp (by omega), nI_clamp (by omega), e1, e2]
  refine ⟨vp_in_nI (by omega) (by omega), fun z => ?_, fun z => ?_⟩
  · have : chipB T d i = false := by
      unfold chipB
      cases hf : fbit (T 0 2) i <;> cases hg : fbit (T 0 3) ((i + d) % 31) <;> simp_all
    rw [this] at h; exact h
  · have : chipB T d i = true := by
      unfold chipB
      cases hf : fbit (T 0 2) i <;> cases hg : fbit (T 0 3) ((i + d) % 31) <;> simp_all
    rw [this] at h; exact h
theorem op_5 (X Y : Mem) (a1 a2 : Int32) (hR : Rel X Y) : p_X10_chip a1 a2 X (fun r X1 => p_X11_chip a1 a2 Y (fun r1 Y1 => r = r1 ∧ Rel X1 Y1)) := by
  obtain ⟨T, w, h1, h2, h3, h4, h5, h6, h7, h8, h9, h10, h11, h12, h13⟩ := id hR
  have hnb := h1.1
  have hT := h1.2.2.2.2.2.2.2.2.2.2.2.2.1
  have hYb : (sI Y 40 0 2 0).1 40 0 11 = nI (T 0 0) := by rw [sI_n (by omega)]; exact h5.1
  have h5' : TYr T (sI Y 40 0 2 0) := h5.ag h1 (AgYt.set rfl)
  have R := hR.th 0
  have no1 : (a1 < 0 ∨ nI (T 0 0) ≤ a1) → p_X10_chip a1 a2 X (fun r X1 => p_X11_chip a1 a2 Y (fun r1 Y1 => r = r1 ∧ Rel X1 Y1)) := fun h =>
    t10_isBird0 h2 h3.1 h ⟨fun _ => by
      rintro M1 rfl
      exact t11_isBird0 hYb h ⟨fun _ => ⟨rfl, R⟩, fun z => absurd rfl z⟩, fun z => absurd rfl z⟩
  rcases pk_ix a1 (n := T 0 0) (by omega) with h | h | ⟨b, hb, rfl⟩
  · exact no1 (Or.inl h)
  · exact no1 (Or.inr h)
  have no2 : (a2 < 0 ∨ 30 < a2) → p_X11_chip (nI b) a2 Y (fun r1 Y1 => 0 = r1 ∧ Rel X Y1) := by
    rintro h M1 rfl
    refine t11_isBird1 hYb hnb hb ⟨fun z => absurd z (by decide), fun _ => t_isIn (fun _ => ⟨fun _ => ⟨rfl, R⟩, fun z => absurd rfl z⟩) (fun x y => (h.elim x y).elim)⟩
  refine t10_isBird1 h2 h3.1 hnb hb ⟨fun z => absurd z (by decide), fun _ => ⟨fun h => no2 (Or.inl h), fun h => ⟨fun h' => ⟨w, h2.2.1, h2.1, vp_in_nI (by omega) (by omega), ?_⟩, fun h' => no2 (Or.inr (Int32.lt_of_lt_of_le (by decide) (Int32.not_lt.mp h')))⟩⟩⟩
  obtain ⟨i, hi, rfl⟩ : ∃ i, i < 31 ∧ a2 = nI i := by
    rcases pk_ix a2 (n := 31) (by decide) with z | z | z
    · exact absurd z h
    · exact absurd h' (Int32.not_lt.mpr z)
    · exact z
  obtain ⟨cv, hcv, e2, hbits⟩ := h4.2.2 b hb
  have hd := (hT b hb).2.1
  rw [nI_clamp (by omega), e2, ush_bit hcv hi, hbits i hi]
  have mo : p_X11_chip (nI b) (nI i) Y (fun r1 Y1 => (if chipB T (T (1 + b) 1) i then 1 else -1) = r1 ∧ Rel X Y1) := by
    rintro M1 rfl
    refine t11_isBird1 hYb hnb hb ⟨fun z => absurd z (by decide), fun _ => t_isIn (fun z => ?_) (fun _ _ => ⟨fun z => absurd z (by decide), fun _ => t11_birdOf (k := 1) (by omega) (by decide) (by omega) ?_⟩)⟩
    · exact (z.elim h (fun y => nI_nlt (a := 30) (b := i) (by omega) (by omega) y)).elim
    · rw [h5'.2.2.1 b 1 hb (by decide)]
      exact t11_chipBy hd hi h5' ⟨rfl, R⟩
  cases hch : chipB T (T (1 + b) 1) i
  · rw [hch] at mo
    exact ⟨fun _ => mo, fun z => absurd z (by decide)⟩
  · rw [hch] at mo
    exact ⟨fun z => absurd rfl z, fun _ => mo⟩
