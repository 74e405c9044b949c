/-! ops of birds and channels that only read -/
theorem t10_isBird0 {w nb : Nat} {X : Mem} {a : Int32} {Q : Int32 → Mem → Prop} (hr : RefR w X) (hc : X.1 23 w 1 = nI nb) (h : a < 0 ∨ nI nb ≤ a) (q : Q 0 X) : p_X10_isBird a X Q :=
  ⟨fun _ => q, fun h0 => ⟨w, hr.2.1, hr.1, fun _ => q, fun h1 => absurd (by rw [hc]; exact h.elim (fun z => absurd z h0) id) h1⟩⟩
theorem t10_isBird1 {w nb b : Nat} {X : Mem} {Q : Int32 → Mem → Prop} (hr : RefR w X) (hc : X.1 23 w 1 = nI nb) (hnb : nb ≤ 5) (hb : b < nb) (q : Q 1 X) : p_X10_isBird (nI b) X Q :=
  ⟨fun h => absurd h (nI_pos (by omega)), fun _ => ⟨w, hr.2.1, hr.1, fun h => absurd (by rw [← hc]; exact h) (nI_ge hb (by omega)), fun _ => q⟩⟩
theorem t11_isBird0 {nb : Nat} {Y : Mem} {a : Int32} {Q : Int32 → Mem → Prop} (hc : Y.1 40 0 11 = nI nb) (h : a < 0 ∨ nI nb ≤ a) (q : Q 0 Y) : p_X11_isBird a Y Q :=
  ⟨fun _ => q, fun h0 => ⟨fun _ => q, fun h1 => absurd (by rw [hc]; exact h.elim (fun z => absurd z h0) id) h1⟩⟩
theorem t11_isBird1 {nb b : Nat} {Y : Mem} {Q : Int32 → Mem → Prop} (hc : Y.1 40 0 11 = nI nb) (hnb : nb ≤ 5) (hb : b < nb) (q : Q 1 Y) : p_X11_isBird (nI b) Y Q :=
  ⟨fun h => absurd h (nI_pos (by omega)), fun _ => ⟨fun h => absurd (by rw [← hc]; exact h) (nI_ge hb (by omega)), fun _ => q⟩⟩
theorem t10_isCh0 {n : Nat} {X : Mem} {a : Int32} {Q : Int32 → Mem → Prop} (hc : X.1 27 0 1 = nI n) (h : a < 0 ∨ nI n ≤ a) (q : Q 0 X) : p_X10_isChannel a X Q :=
  ⟨fun _ => q, fun h0 => ⟨fun _ => q, fun h1 => absurd (by rw [hc]; exact h.elim (fun z => absurd z h0) id) h1⟩⟩
theorem t10_isCh1 {n c : Nat} {X : Mem} {Q : Int32 → Mem → Prop} (hc : X.1 27 0 1 = nI n) (hn : n ≤ 4) (hb : c < n) (q : Q 1 X) : p_X10_isChannel (nI c) X Q :=
  ⟨fun h => absurd h (nI_pos (by omega)), fun _ => ⟨fun h => absurd (by rw [← hc]; exact h) (nI_ge hb (by omega)), fun _ => q⟩⟩
theorem t11_isCh0 {n : Nat} {Y : Mem} {a : Int32} {Q : Int32 → Mem → Prop} (hb : Y.1 40 0 35 = 0) (hc : Y.1 54 0 292 = nI n) (h : a < 0 ∨ nI n ≤ a) (q : Q 0 Y) : p_X11_isChannel a Y Q :=
  ⟨fun _ => q, fun h0 => m_of (u := 292) (by decide) hb ⟨fun _ => q, fun h1 => absurd (by rw [hc]; exact h.elim (fun z => absurd z h0) id) h1⟩⟩
theorem t11_isCh1 {n c : Nat} {Y : Mem} {Q : Int32 → Mem → Prop} (hb : Y.1 40 0 35 = 0) (hc : Y.1 54 0 292 = nI n) (hn : n ≤ 4) (hb2 : c < n) (q : Q 1 Y) : p_X11_isChannel (nI c) Y Q :=
  ⟨fun h => absurd h (nI_pos (by omega)), fun _ => m_of (u := 292) (by decide) hb ⟨fun h => absurd (by rw [← hc]; exact h) (nI_ge hb2 (by omega)), fun _ => q⟩⟩
theorem t11_birdOf {b k : Nat} (hb : b < 10) (hk : k < 14) (h140 : 14 * b + k < 140) {Y : Mem} {Q : Int32 → Mem → Prop} (h : Q (Y.1 43 0 (14 * b + k)) Y) : p_X11_birdOf (nI b) (nI k) Y Q := by
  show vp_in ((14 : Int32) * nI b + nI k) 140 ∧ Q (Y.1 43 0 ((14 : Int32) * nI b + nI k).toNatClampNeg) Y
  rw [show (14 : Int32) = nI 14 from rfl, pk_mul, nI_add, nI_clamp (by omega)]
  exact ⟨vp_in_nI h140 (by omega), h⟩
theorem t11_at {c k : Nat} (hck : 73 * c + k < 292) {Y : Mem} (hb : Y.1 40 0 35 = 0) {Q : Int32 → Mem → Prop} (h : Q (Y.1 54 0 (73 * c + k)) Y) : p_X11_at (nI c) (nI k) Y Q := by
  show p_X11_of ((73 : Int32) * nI c + nI k) Y (fun r1 M1 => Q r1 M1)
  rw [show (73 : Int32) = nI 73 from rfl, pk_mul, nI_add]
  exact m_of (by omega) hb h
theorem nI_dec {t : Nat} (ht : t < 2 ^ 30) : (nI (t + 1) - 1 : Int32) = nI t := nI_pred t
/-- the first of d from j on -/
def fndN (p : Nat → Bool) : Nat → Nat → Int32
  | _, 0 => -1
  | j, d + 1 => if p j then nI j else fndN p (j + 1) d
theorem t10_numberOf {w nb : Nat} {X : Mem} {a : Int32} (hw : w < 2) (hnb : nb ≤ 5) (hc : X.1 23 w 1 = nI nb) {Q : Int32 → Mem → Prop} : ∀ (d j : Nat), j + d = nb → Q (fndN (fun b => decide (X.1 25 (5 * w + b) 0 = a)) j d) X → b_X9_numberOf_2 Q (d + 1) w a (nI j) X := by
  intro d
  induction d with
  | zero =>
    intro j hj h
    have : j = nb := by omega
    subst this
    exact ⟨fun _ => h, fun z => absurd (by rw [hc]; exact Int32.le_refl _) z⟩
  | succ d ih =>
    intro j hj h
    refine ⟨fun z => absurd z (by rw [hc]; exact nI_ge (by omega) (by omega)), fun _ => ⟨vp_in_nI (by omega) (by omega), ?_⟩⟩
    rw [nI_clamp (by omega)]
    refine ⟨fun hn => ?_, fun he => ?_⟩
    · rintro x4 rfl
      rw [nI_1]
      refine ih (j + 1) (by omega) ?_
      rw [fndN, if_neg (by simpa using hn)] at h
      exact h
    · rw [fndN, if_pos (by simpa using he)] at h
      exact h
theorem t11_nameAt {nb : Nat} {Y : Mem} {a : Int32} (hnb : nb ≤ 5) {Q : Int32 → Mem → Prop} : ∀ (d j : Nat), j + d = nb → Q (fndN (fun b => decide (Y.1 43 0 (14 * b) = a)) j d) Y → b_X11_nameAt_19 Q (d + 1) a 0 (nI nb) (nI j) Y := by
  intro d
  induction d with
  | zero =>
    intro j hj h
    have : j = nb := by omega
    subst this
    exact ⟨fun _ => h, fun z => absurd (Int32.le_refl _) z⟩
  | succ d ih =>
    intro j hj h
    refine ⟨fun z => absurd z (nI_ge (by omega) (by omega)), fun _ => ⟨fun _ => ?_, fun z => absurd rfl z⟩⟩
    refine t11_birdOf (b := j) (k := 0) (by omega) (by decide) (by omega) ⟨fun hn => ?_, fun he => ?_⟩
    · rintro x6 rfl
      rw [nI_1]
      refine ih (j + 1) (by omega) ?_
      rw [fndN, if_neg (by simpa using hn)] at h
      exact h
    · rw [fndN, if_pos (by simpa using he)] at h
      exact h
theorem fndN_congr {p q : Nat → Bool} : ∀ (d j : Nat), (∀ b, j ≤ b → b < j + d → p b = q b) → fndN p j d = fndN q j d
  | 0, _, _ => rfl
  | d + 1, j, h => by rw [fndN, fndN, h j (by omega) (by omega), fndN_congr d (j + 1) (fun b h1 h2 => h b (by omega) (by omega))]
/-- op 3: named -/
theorem op_3 (X Y : Mem) (a1 : Int32) (hR : Rel X Y) : p_X10_named a1 X (fun r X1 => p_X11_named a1 Y (fun r1 Y1 => r = r1 ∧ Rel X1 Y1)) := by
  obtain ⟨T, w, h1, h2, h3, h4, h5, h6, h7, h8, h9, h10, h11, h12, h13⟩ := id hR
  have hnb := h1.1
  refine ⟨w, h2.2.1, h2.1, T 0 0 + 1, t10_numberOf h2.1 hnb h3.1 (T 0 0) 0 (by omega) ?_⟩
  rintro M1 rfl
  refine ⟨fun _ => ?_, fun z => absurd rfl z⟩
  rw [show (sI Y 40 0 2 0).1 40 0 11 = nI (T 0 0) from by rw [sI_n (by omega)]; exact h5.1]
  refine ⟨T 0 0 + 1, t11_nameAt hnb (T 0 0) 0 (by omega) ⟨?_, hR.th 0⟩⟩
  refine fndN_congr _ _ (fun b _ hb => ?_)
  rw [sI_n (by omega), (h3.2.2.2.2.2.2.2.2.2 b (by omega)).1]
  have := h5.2.2.1 b 0 (by omega) (by decide)
  rw [Nat.add_zero] at this
  rw [this]
/-- op 23: channel -/
theorem op_23 (X Y : Mem) (a1 a2 : Int32) (hR : Rel X Y) : p_X10_channel a1 a2 X (fun r X1 => p_X11_channel a1 a2 Y (fun r1 Y1 => r = r1 ∧ Rel X1 Y1)) := by
  obtain ⟨T, w, h1, h2, h3, h4, h5, h6, h7, h8, h9, h10, h11, h12, h13⟩ := id hR
  obtain ⟨n0, hn0, hc0, hd0, hch, _⟩ := id h9
  have hb0 : (sI Y 40 0 2 0).1 40 0 35 = 0 := by rw [sI_n (by decide)]; exact h6.1
  have hd1 : (sI Y 40 0 2 0).1 54 0 292 = nI n0 := by rw [sI_n (by decide)]; exact hd0
  have no : (a1 < 0 ∨ nI n0 ≤ a1) → p_X10_channel a1 a2 X (fun r X1 => p_X11_channel a1 a2 Y (fun r1 Y1 => r = r1 ∧ Rel X1 Y1)) := fun h =>
    t10_isCh0 hc0 h ⟨fun z => absurd rfl z, fun _ => by
      rintro M1 rfl
      exact t11_isCh0 hb0 hd1 h ⟨fun _ => ⟨rfl, hR.th 0⟩, fun z => absurd rfl z⟩⟩
  rcases pk_ix a1 (n := n0) (by omega) with h | h | ⟨c, hc, rfl⟩
  · exact no (Or.inl h)
  · exact no (Or.inr h)
  refine t10_isCh1 hc0 hn0 hc ⟨fun _ => ⟨vp_in_nI (by omega) (by omega), ?_⟩, fun z => absurd z (by decide)⟩
  rw [nI_clamp (by omega), Nat.mul_zero, Nat.zero_add]
  obtain ⟨c1, c2, c3, c4, c5, c6, c7, c8, m, hm, c9, c10, c11⟩ := hch c hc
  simp only [Nat.mul_zero, Nat.zero_add] at c1 c2 c3 c4 c5 c6 c7 c8 c9 c10 c11
  have eqv : ∀ {u v : Int32} {m : Nat}, EqB u v m → u = v := fun h => by obtain ⟨t, _, h1, h2⟩ := h; exact h1.trans h2.symm
  -- the reference's answer, for what k other than 7
  have go : ∀ (k : Nat) (r : Int32), k < 9 → k ≠ 7 → r = Y.1 54 0 (73 * c + k) → p_X11_channel (nI c) (nI k) Y (fun r1 Y1 => r = r1 ∧ Rel X Y1) := by
    intro k r hk h7 hr
    rintro M1 rfl
    refine t11_isCh1 hb0 hd1 hn0 hc ⟨fun z => absurd z (by decide), fun _ => t_isIn (fun z => ?_) (fun _ _ => ⟨fun _ => ⟨fun z => absurd ((nI_eq (by omega) (by decide)).mp z) h7, fun _ => t11_at (by omega) hb0 ⟨?_, hR.th 0⟩⟩, fun z => absurd z (by decide)⟩)⟩
    · exact absurd z (by rintro (z | z); exact nI_pos (by omega) z; exact nI_nlt (a := 8) (b := k) (by omega) (by omega) z)
    · rw [sI_n (by omega)]; exact hr
  refine ⟨fun z => ?_, fun z => ?_, fun z => ?_, fun z => ?_, fun z => ?_, fun z => ?_, fun z => ?_, fun z => ?_, fun z => ?_, fun z0 z1 z2 z3 z4 z5 z6 z7 z8 => ?_⟩ <;> (try subst z)
  · exact go 0 _ (by decide) (by decide) (eqv c1)
  · exact go 1 _ (by decide) (by decide) (eqv c2)
  · exact go 2 _ (by decide) (by decide) (eqv c3)
  · exact go 3 _ (by decide) (by decide) (eqv c4)
  · exact go 4 _ (by decide) (by decide) (eqv c5)
  · exact go 5 _ (by decide) (by decide) (by obtain ⟨t, _, q1, q2, _⟩ := c6; exact q1.trans q2.symm)
  · exact go 6 _ (by decide) (by decide) (eqv c7.eq)
  · rintro M1 rfl
    refine t11_isCh1 hb0 hd1 hn0 hc ⟨fun z => absurd z (by decide), fun _ => t_isIn (fun z => absurd z (by decide)) (fun _ _ => ⟨fun _ => ⟨fun _ => t11_at (k := 7) (by omega) hb0 ?_, fun z => absurd rfl z⟩, fun z => absurd z (by decide)⟩)⟩
    have e7 : (sI Y 40 0 2 0).1 54 0 (73 * c + 7) = Y.1 54 0 (73 * c + 7) := sI_n (by omega)
    rcases c8 with ⟨l1, l2⟩ | ⟨t, ht, l1, l2⟩
    · refine ⟨fun z => absurd (by rw [e7]; exact l2) z, fun _ => ⟨?_, hR.th 0⟩⟩
      exact l1
    · refine ⟨fun _ => t11_at (k := 7) (by omega) hb0 ⟨?_, hR.th 0⟩, fun z => absurd z ?_⟩
      · rw [e7, l2, nI_dec (by omega)]; exact l1
      · rw [e7, l2]; exact nI_ne0 (by omega) (by omega)
  · exact go 8 _ (by decide) (by decide) (c9.trans c10.symm)
  · rintro M1 rfl
    refine t11_isCh1 hb0 hd1 hn0 hc ⟨fun z => absurd z (by decide), fun _ => t_isIn (fun _ => ⟨fun z => absurd rfl z, fun _ => ⟨rfl, hR.th 0⟩⟩) (fun y1 y2 => ?_)⟩
    exfalso
    rcases pk_ix a2 (n := 9) (by decide) with z | z | ⟨k, hk, rfl⟩
    · exact y1 z
    · exact y2 (Int32.lt_of_lt_of_le (by decide : (8 : Int32) < nI 9) z)
    · have : k = 0 ∨ k = 1 ∨ k = 2 ∨ k = 3 ∨ k = 4 ∨ k = 5 ∨ k = 6 ∨ k = 7 ∨ k = 8 := by omega
      rcases this with rfl | rfl | rfl | rfl | rfl | rfl | rfl | rfl | rfl
      · exact z0 rfl
      · exact z1 rfl
      · exact z2 rfl
      · exact z3 rfl
      · exact z4 rfl
      · exact z5 rfl
      · exact z6 rfl
      · exact z7 rfl
      · exact z8 rfl
