/-! op 41: count -/
def cntI (p : Nat → Bool) : Nat → Nat → Int32 → Int32
  | _, 0, a => a
  | j, d + 1, a => cntI p (j + 1) d (a + if p j then 1 else 0)
theorem cntI_congr {p q : Nat → Bool} : ∀ (d j : Nat) (a : Int32), (∀ b, j ≤ b → b < j + d → p b = q b) → cntI p j d a = cntI q j d a
  | 0, _, _, _ => rfl
  | d + 1, j, a, h => by rw [cntI, cntI, h j (by omega) (by omega), cntI_congr d (j + 1) _ (fun b h1 h2 => h b (by omega) (by omega))]
theorem cntI_more {p : Nat → Bool} : ∀ (e d j : Nat) (a : Int32), (∀ b, j + d ≤ b → b < j + d + e → p b = false) → cntI p j (d + e) a = cntI p j d a
  | 0, _, _, _, _ => rfl
  | e + 1, 0, j, a, h => by
    have h0 := h j (by omega) (by omega)
    have := cntI_more e 0 (j + 1) (a + 0) (fun b h1 h2 => h b (by omega) (by omega))
    rw [Nat.zero_add] at this
    rw [show 0 + (e + 1) = e + 1 from by omega]
    show cntI p (j + 1) e (a + if p j = true then 1 else 0) = a
    rw [h0]
    show cntI p (j + 1) e (a + 0) = a
    rw [this]
    show a + 0 = a
    exact Int32.add_zero a
  | e + 1, d + 1, j, a, h => by
    rw [show d + 1 + (e + 1) = (d + (e + 1)) + 1 from by omega, cntI, cntI]
    exact cntI_more (e + 1) d (j + 1) _ (fun b h1 h2 => h b (by omega) (by omega))
theorem c10_heard {w nb : Nat} {X : Mem} (hw : w < 2) (hnb : nb ≤ 5) (hc : X.1 23 w 1 = nI nb) {Q : Int32 → Mem → Prop} : ∀ (d j : Nat) (a : Int32), j + d = nb → Q (cntI (fun b => decide (¬ X.1 25 (5 * w + b) 6 ≤ 0)) j d a) X → b_X9_howManyHeard_4 Q (d + 1) w a (nI j) X := by
  intro d
  induction d with
  | zero =>
    intro j a hj h
    have : j = nb := by omega
    subst this
    exact ⟨fun _ => h, fun z => absurd (by rw [hc]; exact Int32.le_refl _) z⟩
  | succ d ih =>
    intro j a hj h
    refine ⟨fun z => absurd z (by rw [hc]; exact nI_ge (by omega) (by omega)), fun _ => ⟨vp_in_nI (by omega) (by omega), ?_⟩⟩
    rw [nI_clamp (by omega)]
    have e : b_X9_howManyHeard_30 Q (fun v0 v1 v2 M => b_X9_howManyHeard_4 Q (d + 1) v0 v1 v2 M) w (nI j) a (if ¬ X.1 25 (5 * w + j) 6 ≤ 0 then 1 else 0) X := by
      rintro x5 rfl x6 rfl
      rw [nI_1]
      refine ih (j + 1) _ (by omega) ?_
      rw [cntI] at h
      simpa using h
    refine ⟨fun hz => ⟨fun _ => ?_, fun z => absurd rfl z⟩, fun hz => ⟨fun z => absurd z (by decide), fun _ => ?_⟩⟩
    · rw [if_neg (fun z => z hz)] at e; exact e
    · rw [if_pos hz] at e; exact e
theorem c10_placed {w nb : Nat} {X : Mem} (hw : w < 2) (hnb : nb ≤ 5) (hc : X.1 23 w 1 = nI nb) {Q : Int32 → Mem → Prop} : ∀ (d j : Nat) (a : Int32), j + d = nb → Q (cntI (fun b => decide (¬ X.1 25 (5 * w + b) 9 = 0)) j d a) X → b_X9_howManyPlaced_4 Q (d + 1) w a (nI j) X := by
  intro d
  induction d with
  | zero =>
    intro j a hj h
    have : j = nb := by omega
    subst this
    exact ⟨fun _ => h, fun z => absurd (by rw [hc]; exact Int32.le_refl _) z⟩
  | succ d ih =>
    intro j a hj h
    refine ⟨fun z => absurd z (by rw [hc]; exact nI_ge (by omega) (by omega)), fun _ => ⟨vp_in_nI (by omega) (by omega), ?_⟩⟩
    rw [nI_clamp (by omega)]
    have e : b_X9_howManyPlaced_30 Q (fun v0 v1 v2 M => b_X9_howManyPlaced_4 Q (d + 1) v0 v1 v2 M) w (nI j) a (if ¬ X.1 25 (5 * w + j) 9 = 0 then 1 else 0) X := by
      rintro x5 rfl x6 rfl
      rw [nI_1]
      refine ih (j + 1) _ (by omega) ?_
      rw [cntI] at h
      simpa using h
    refine ⟨fun hz => ?_, fun hz => ?_⟩
    · rw [if_neg (fun z => z hz)] at e; exact e
    · rw [if_pos hz] at e; exact e
theorem c10_lost {n : Nat} {X : Mem} (hn : n ≤ 4) {q : Nat} (hq : q < 13) (hc : X.1 27 q 1 = nI n) {Q : Int32 → Mem → Prop} : ∀ (d j : Nat) (a : Int32), j + d = n → Q (cntI (fun c => decide (¬ X.1 30 (4 * q + c) 7 = -2)) j d a) X → b_X8_howManyLost_4 Q (d + 1) q a (nI j) X := by
  intro d
  induction d with
  | zero =>
    intro j a hj h
    have : j = n := by omega
    subst this
    exact ⟨fun _ => h, fun z => absurd (by rw [hc]; exact Int32.le_refl _) z⟩
  | succ d ih =>
    intro j a hj h
    refine ⟨fun z => absurd z (by rw [hc]; exact nI_ge (by omega) (by omega)), fun _ => ⟨vp_in_nI (by omega) (by omega), ?_⟩⟩
    rw [nI_clamp (by omega)]
    have e : b_X8_howManyLost_30 Q (fun v0 v1 v2 M => b_X8_howManyLost_4 Q (d + 1) v0 v1 v2 M) q (nI j) a (if ¬ X.1 30 (4 * q + j) 7 = -2 then 1 else 0) X := by
      rintro x5 rfl x6 rfl
      rw [nI_1]
      refine ih (j + 1) _ (by omega) ?_
      rw [cntI] at h
      simpa using h
    refine ⟨fun hz => ⟨fun _ => ?_, fun z => absurd rfl z⟩, fun hz => ⟨fun z => absurd z (by decide), fun _ => ?_⟩⟩
    · rw [if_neg (fun z => z hz)] at e; exact e
    · rw [if_pos hz] at e; exact e
theorem c10_ranges {X : Mem} {q : Nat} {Q : Int32 → Mem → Prop} : ∀ (d j : Nat) (a : Int32), j + d = 5 → Q (cntI (fun b => decide (¬ X.1 29 q b = -1)) j d a) X → b_X8_howManyRanges_4 Q (d + 1) q a (nI j) X := by
  intro d
  induction d with
  | zero =>
    intro j a hj h
    have : j = 5 := by omega
    subst this
    exact ⟨fun _ => h, fun z => absurd (by decide) z⟩
  | succ d ih =>
    intro j a hj h
    refine ⟨fun z => absurd z (by rw [show (5 : Int32) = nI 5 from rfl]; exact nI_ge (by omega) (by omega)), fun _ => ⟨vp_in_nI (by omega) (by omega), ?_⟩⟩
    rw [nI_clamp (by omega)]
    have e : b_X8_howManyRanges_29 Q (fun v0 v1 v2 M => b_X8_howManyRanges_4 Q (d + 1) v0 v1 v2 M) q (nI j) a (if ¬ X.1 29 q j = -1 then 1 else 0) X := by
      rintro x5 rfl x6 rfl
      rw [nI_1]
      refine ih (j + 1) _ (by omega) ?_
      rw [cntI] at h
      simpa using h
    refine ⟨fun hz => ?_, fun hz => ?_⟩
    · rw [if_neg (fun z => z hz)] at e; exact e
    · rw [if_pos hz] at e; exact e
theorem c11_with {k nb : Nat} {Y : Mem} (hk : k < 14) (hnb : nb ≤ 5) (hc : Y.1 40 0 11 = nI nb) {Q : Int32 → Mem → Prop} : ∀ (d j : Nat) (a : Int32), j + d = nb → Q (cntI (fun b => decide (¬ Y.1 43 0 (14 * b + k) ≤ 0)) j d a) Y → b_X11_birdsWith_4 Q (d + 1) (nI k) a (nI j) Y := by
  intro d
  induction d with
  | zero =>
    intro j a hj h
    have : j = nb := by omega
    subst this
    exact ⟨fun _ => h, fun z => absurd (by rw [hc]; exact Int32.le_refl _) z⟩
  | succ d ih =>
    intro j a hj h
    refine ⟨fun z => absurd z (by rw [hc]; exact nI_ge (by omega) (by omega)), fun _ => t11_birdOf (b := j) (by omega) hk (by omega) ?_⟩
    have e : b_X11_birdsWith_27 Q (fun v1 v2 v3 M => b_X11_birdsWith_4 Q (d + 1) v1 v2 v3 M) (nI k) (nI j) a (if ¬ Y.1 43 0 (14 * j + k) ≤ 0 then 1 else 0) Y := by
      rintro x5 rfl x6 rfl
      rw [nI_1]
      refine ih (j + 1) _ (by omega) ?_
      rw [cntI] at h
      simpa using h
    refine ⟨fun hz => ?_, fun hz => ?_⟩
    · rw [if_neg (fun z => z hz)] at e; exact e
    · rw [if_pos hz] at e; exact e
theorem c11_lost {n : Nat} {Y : Mem} (hn : n ≤ 4) (hb : Y.1 40 0 35 = 0) (hc : Y.1 54 0 292 = nI n) {Q : Int32 → Mem → Prop} : ∀ (d j : Nat) (a : Int32), j + d = n → Q (cntI (fun c => decide (¬ Y.1 54 0 (73 * c + 7) ≤ 0)) j d a) Y → b_X11_lostMany_4 Q (d + 1) a (nI j) Y := by
  intro d
  induction d with
  | zero =>
    intro j a hj h
    have : j = n := by omega
    subst this
    exact m_of (u := 292) (by decide) hb ⟨fun _ => h, fun z => absurd (by rw [hc]; exact Int32.le_refl _) z⟩
  | succ d ih =>
    intro j a hj h
    refine m_of (u := 292) (by decide) hb ⟨fun z => absurd z (by rw [hc]; exact nI_ge (by omega) (by omega)), fun _ => t11_at (c := j) (k := 7) (by omega) hb ?_⟩
    have e : b_X11_lostMany_31 Q (fun v1 v2 M => b_X11_lostMany_4 Q (d + 1) v1 v2 M) (nI j) a (if ¬ Y.1 54 0 (73 * j + 7) ≤ 0 then 1 else 0) Y := by
      rintro x5 rfl x6 rfl
      rw [nI_1]
      refine ih (j + 1) _ (by omega) ?_
      rw [cntI] at h
      simpa using h
    refine ⟨fun hz => ?_, fun hz => ?_⟩
    · rw [if_neg (fun z => z hz)] at e; exact e
    · rw [if_pos hz] at e; exact e
theorem c11_ranges {nb : Nat} {Y : Mem} (hnb : nb ≤ 5) (hb : Y.1 40 0 35 = 0) (hc : Y.1 40 0 11 = nI nb) {Q : Int32 → Mem → Prop} : ∀ (d j : Nat) (a : Int32), j + d = nb → Q (cntI (fun b => decide (¬ Y.1 54 0 (293 + b) < 0)) j d a) Y → b_X11_count_114 Q (d + 1) a (nI j) Y := by
  intro d
  induction d with
  | zero =>
    intro j a hj h
    have : j = nb := by omega
    subst this
    exact ⟨fun _ => h, fun z => absurd (by rw [hc]; exact Int32.le_refl _) z⟩
  | succ d ih =>
    intro j a hj h
    refine ⟨fun z => absurd z (by rw [hc]; exact nI_ge (by omega) (by omega)), fun _ => ?_⟩
    rw [show (293 : Int32) + nI j = nI (293 + j) from nI_add 293 j]
    have e : b_X11_count_140 Q (fun v2 v3 M => b_X11_count_114 Q (d + 1) v2 v3 M) (nI j) a (if ¬ Y.1 54 0 (293 + j) < 0 then 1 else 0) Y := by
      rintro x5 rfl x6 rfl
      rw [nI_1]
      refine ih (j + 1) _ (by omega) ?_
      rw [cntI] at h
      simpa using h
    refine m_of (u := 293 + j) (by omega) hb ⟨fun hz => ?_, fun hz => ?_⟩
    · rw [if_neg (fun z => z hz)] at e; exact e
    · rw [if_pos hz] at e; exact e
theorem nI_le0 {t : Nat} (ht : t < 2 ^ 31) : (nI t ≤ 0) ↔ t = 0 := by
  constructor
  · intro h
    rcases Nat.eq_zero_or_pos t with z | z
    · exact z
    · exact absurd h (nI_nle z ht)
  · rintro rfl; exact Int32.le_refl _
theorem nI_eq0 {t : Nat} (ht : t < 2 ^ 31) : (nI t = 0) ↔ t = 0 := by
  constructor
  · intro h
    rcases Nat.eq_zero_or_pos t with z | z
    · exact z
    · exact absurd h (nI_ne0 z ht)
  · rintro rfl; rfl
theorem op_41 (X Y : Mem) (a1 : Int32) (hR : Rel X Y) : p_X10_count a1 X (fun r X1 => p_X11_count a1 Y (fun r1 Y1 => r = r1 ∧ Rel X1 Y1)) := by
  obtain ⟨T, w, h1, h2, h3, h4, h5, h6, h7, h8, h9, h10, h11, h12, h13⟩ := id hR
  obtain ⟨n0, hn0, hc0, hd0, hch, hrg⟩ := id h9
  have hnb := h1.1
  have hT := h1.2.2.2.2.2.2.2.2.2.2.2.2.1
  have hw := h2.1
  have hb0 : (sI Y 40 0 2 0).1 40 0 35 = 0 := by rw [sI_n (by decide)]; exact h6.1
  have hd1 : (sI Y 40 0 2 0).1 54 0 292 = nI n0 := by rw [sI_n (by decide)]; exact hd0
  have hYb : (sI Y 40 0 2 0).1 40 0 11 = nI (T 0 0) := by rw [sI_n (by omega)]; exact h5.1
  have tld : ∀ k, k < 5 → (sI Y 40 0 2 0).1 45 0 (7 + k) = nI (T 0 (2 + k)) := fun k hk => by rw [sI_n (by omega)]; exact h5.2.2.2.2.1 k hk
  have R := hR.th 0
  refine ⟨fun z => ?_, fun z => ?_, fun z => ?_, fun z => ?_, fun z => ?_, fun z => ?_, fun z => ?_, fun z => ?_, fun z => ?_, fun z => ?_, fun z => ?_, fun z => ?_, fun z => ?_, fun z0 z1 z2 z3 z4 z5 z6 z7 z8 z9 z10 z11 z12 => ?_⟩ <;> (try subst z)
  · refine ⟨w, h2.2.1, hw, ?_⟩
    rintro M1 rfl
    refine ⟨fun _ => ⟨?_, R⟩, fun z => absurd z (by decide), fun z => absurd z (by decide), fun z => absurd z (by decide), fun z => absurd z (by decide), fun z => absurd z (by decide), fun z => absurd z (by decide), fun z => absurd z (by decide), fun z => absurd z (by decide), fun z => absurd z (by decide), fun z => absurd z (by decide), fun z => absurd z (by decide), fun z => absurd z (by decide), fun z => absurd rfl z⟩
    rw [hYb]; exact h3.1
  · refine ⟨w, h2.2.1, hw, T 0 0 + 1, c10_heard hw hnb h3.1 (T 0 0) 0 0 (by omega) ?_⟩
    rintro M1 rfl
    refine ⟨fun z => absurd z (by decide), fun _ => ⟨T 0 0 + 1, c11_with (k := 2) (by decide) hnb hYb (T 0 0) 0 0 (by omega) ⟨?_, R⟩⟩, fun z => absurd z (by decide), fun z => absurd z (by decide), fun z => absurd z (by decide), fun z => absurd z (by decide), fun z => absurd z (by decide), fun z => absurd z (by decide), fun z => absurd z (by decide), fun z => absurd z (by decide), fun z => absurd z (by decide), fun z => absurd z (by decide), fun z => absurd z (by decide), fun _ z => absurd rfl z⟩
    refine cntI_congr _ _ _ (fun b _ hb => ?_)
    have hb' : b < T 0 0 := by omega
    have t := hT b hb'
    obtain ⟨-, -, t2, -, -, -, t6, -, -, -, -, -, -, -, tt⟩ := t
    rw [(h3.2.2.2.2.2.2.2.2.2 b hb').2.2.1, sI_n (by omega), h5.2.2.1 b 2 hb' (by decide)]
    simp only [nI_le0 (show T (1 + b) 6 < 2 ^ 31 by omega), nI_le0 (show T (1 + b) 2 < 2 ^ 31 by omega)]
    apply decide_eq_decide.mpr
    omega
  · rintro M1 rfl
    refine ⟨fun z => absurd z (by decide), fun z => absurd z (by decide), fun _ => m_of (u := 292) (by decide) hb0 ⟨?_, R⟩, fun z => absurd z (by decide), fun z => absurd z (by decide), fun z => absurd z (by decide), fun z => absurd z (by decide), fun z => absurd z (by decide), fun z => absurd z (by decide), fun z => absurd z (by decide), fun z => absurd z (by decide), fun z => absurd z (by decide), fun z => absurd z (by decide), fun _ _ z => absurd rfl z⟩
    rw [hd1]; exact hc0
  · refine ⟨n0 + 1, c10_lost hn0 (q := 0) (by decide) hc0 n0 0 0 (by omega) ?_⟩
    rintro M1 rfl
    refine ⟨fun z => absurd z (by decide), fun z => absurd z (by decide), fun z => absurd z (by decide), fun _ => ⟨n0 + 1, c11_lost hn0 hb0 hd1 n0 0 0 (by omega) ⟨?_, R⟩⟩, fun z => absurd z (by decide), fun z => absurd z (by decide), fun z => absurd z (by decide), fun z => absurd z (by decide), fun z => absurd z (by decide), fun z => absurd z (by decide), fun z => absurd z (by decide), fun z => absurd z (by decide), fun z => absurd z (by decide), fun _ _ _ z => absurd rfl z⟩
    refine cntI_congr _ _ _ (fun c _ hc => ?_)
    obtain ⟨-, -, -, -, -, -, -, c8, -⟩ := hch c (by omega)
    simp only [Nat.mul_zero, Nat.zero_add] at c8
    rw [sI_n (by omega), Nat.mul_zero, Nat.zero_add]
    rcases c8 with ⟨l1, l2⟩ | ⟨t, ht, l1, l2⟩
    · rw [l1, l2]; decide
    · rw [l1, l2]
      have e1 : ¬ nI t = -2 := fun z => nI_pos (n := t) (by omega) (by rw [z]; decide)
      have e2 : ¬ nI (t + 1) ≤ 0 := nI_nle (by omega) (by omega)
      rw [decide_eq_true e1, decide_eq_true e2]
  · refine ⟨w, h2.2.1, hw, ?_⟩
    rintro M1 rfl
    refine ⟨fun z => absurd z (by decide), fun z => absurd z (by decide), fun z => absurd z (by decide), fun z => absurd z (by decide), fun _ => ⟨?_, R⟩, fun z => absurd z (by decide), fun z => absurd z (by decide), fun z => absurd z (by decide), fun z => absurd z (by decide), fun z => absurd z (by decide), fun z => absurd z (by decide), fun z => absurd z (by decide), fun z => absurd z (by decide), fun _ _ _ _ z => absurd rfl z⟩
    rw [sI_n (by omega), h5.2.1]; exact h3.2.1
  · refine ⟨w, h2.2.1, hw, T 0 0 + 1, c10_placed hw hnb h3.1 (T 0 0) 0 0 (by omega) ?_⟩
    rintro M1 rfl
    refine ⟨fun z => absurd z (by decide), fun z => absurd z (by decide), fun z => absurd z (by decide), fun z => absurd z (by decide), fun z => absurd z (by decide), fun _ => ⟨T 0 0 + 1, c11_with (k := 10) (by decide) hnb hYb (T 0 0) 0 0 (by omega) ⟨?_, R⟩⟩, fun z => absurd z (by decide), fun z => absurd z (by decide), fun z => absurd z (by decide), fun z => absurd z (by decide), fun z => absurd z (by decide), fun z => absurd z (by decide), fun z => absurd z (by decide), fun _ _ _ _ _ z => absurd rfl z⟩
    refine cntI_congr _ _ _ (fun b _ hb => ?_)
    have hb' : b < T 0 0 := by omega
    have t := hT b hb'
    obtain ⟨-, -, -, -, -, -, -, -, -, -, t10, -, -, -, -⟩ := t
    rw [(h3.2.2.2.2.2.2.2.2.2 b hb').2.2.2.2.2.2.2.1, sI_n (by omega), h5.2.2.1 b 10 hb' (by decide)]
    simp only [nI_le0 (show T (1 + b) 10 < 2 ^ 31 by omega), nI_eq0 (show T (1 + b) 10 < 2 ^ 31 by omega)]
  · refine ⟨6, c10_ranges 5 0 0 (by omega) ?_⟩
    rintro M1 rfl
    refine ⟨fun z => absurd z (by decide), fun z => absurd z (by decide), fun z => absurd z (by decide), fun z => absurd z (by decide), fun z => absurd z (by decide), fun z => absurd z (by decide), fun _ => ⟨T 0 0 + 1, c11_ranges hnb hb0 hYb (T 0 0) 0 0 (by omega) ⟨?_, R⟩⟩, fun z => absurd z (by decide), fun z => absurd z (by decide), fun z => absurd z (by decide), fun z => absurd z (by decide), fun z => absurd z (by decide), fun z => absurd z (by decide), fun _ _ _ _ _ _ z => absurd rfl z⟩
    have e := cntI_more (p := fun b => decide (¬ X.1 29 0 b = -1)) (5 - T 0 0) (T 0 0) 0 0 (fun b h1 h2 => by
      have := (hrg b (by omega)).2.2 (by omega)
      rw [this]; decide)
    rw [show T 0 0 + (5 - T 0 0) = 5 from by omega] at e
    rw [e]
    refine cntI_congr _ _ _ (fun b _ hb => ?_)
    obtain ⟨e1, e2, -⟩ := hrg b (by omega)
    rw [sI_n (by omega), show 293 + b = 298 * 0 + 293 + b from by omega, ← e1]
    rcases e2 with e2 | ⟨r, hr, e2⟩
    · rw [e2]; decide
    · rw [e2]
      have a1 : ¬ nI r = -1 := fun z => nI_pos (n := r) (by omega) (by rw [z]; decide)
      have a2 : ¬ nI r < 0 := nI_pos (by omega)
      rw [decide_eq_true a1, decide_eq_true a2]
  · refine ⟨w, h2.2.1, hw, ?_⟩
    rintro M1 rfl
    refine ⟨fun z => absurd z (by decide), fun z => absurd z (by decide), fun z => absurd z (by decide), fun z => absurd z (by decide), fun z => absurd z (by decide), fun z => absurd z (by decide), fun z => absurd z (by decide), fun _ => ⟨vp_in_nI (n := 9) (by decide) (by decide), ?_, R⟩, fun z => absurd z (by decide), fun z => absurd z (by decide), fun z => absurd z (by decide), fun z => absurd z (by decide), fun z => absurd z (by decide), fun _ _ _ _ _ _ _ z => absurd rfl z⟩
    exact h3.2.2.2.2.1.trans (tld 2 (by decide)).symm
  · refine ⟨w, h2.2.1, hw, ?_⟩
    rintro M1 rfl
    refine ⟨fun z => absurd z (by decide), fun z => absurd z (by decide), fun z => absurd z (by decide), fun z => absurd z (by decide), fun z => absurd z (by decide), fun z => absurd z (by decide), fun z => absurd z (by decide), fun z => absurd z (by decide), fun _ => ⟨vp_in_nI (n := 11) (by decide) (by decide), ?_, R⟩, fun z => absurd z (by decide), fun z => absurd z (by decide), fun z => absurd z (by decide), fun z => absurd z (by decide), fun _ _ _ _ _ _ _ _ z => absurd rfl z⟩
    exact h3.2.2.2.2.2.2.1.trans (tld 4 (by decide)).symm
  · refine ⟨w, h2.2.1, hw, ?_⟩
    rintro M1 rfl
    refine ⟨fun z => absurd z (by decide), fun z => absurd z (by decide), fun z => absurd z (by decide), fun z => absurd z (by decide), fun z => absurd z (by decide), fun z => absurd z (by decide), fun z => absurd z (by decide), fun z => absurd z (by decide), fun z => absurd z (by decide), fun _ => ⟨vp_in_nI (n := 7) (by decide) (by decide), ?_, R⟩, fun z => absurd z (by decide), fun z => absurd z (by decide), fun z => absurd z (by decide), fun _ _ _ _ _ _ _ _ _ z => absurd rfl z⟩
    exact h3.2.2.1.trans (tld 0 (by decide)).symm
  · refine ⟨w, h2.2.1, hw, ?_⟩
    rintro M1 rfl
    refine ⟨fun z => absurd z (by decide), fun z => absurd z (by decide), fun z => absurd z (by decide), fun z => absurd z (by decide), fun z => absurd z (by decide), fun z => absurd z (by decide), fun z => absurd z (by decide), fun z => absurd z (by decide), fun z => absurd z (by decide), fun z => absurd z (by decide), fun _ => ⟨vp_in_nI (n := 8) (by decide) (by decide), ?_, R⟩, fun z => absurd z (by decide), fun z => absurd z (by decide), fun _ _ _ _ _ _ _ _ _ _ z => absurd rfl z⟩
    exact h3.2.2.2.1.trans (tld 1 (by decide)).symm
  · rintro M1 rfl
    refine ⟨fun z => absurd z (by decide), fun z => absurd z (by decide), fun z => absurd z (by decide), fun z => absurd z (by decide), fun z => absurd z (by decide), fun z => absurd z (by decide), fun z => absurd z (by decide), fun z => absurd z (by decide), fun z => absurd z (by decide), fun z => absurd z (by decide), fun z => absurd z (by decide), fun _ => ⟨?_, R⟩, fun z => absurd z (by decide), fun _ _ _ _ _ _ _ _ _ _ _ z => absurd rfl z⟩
    obtain ⟨m, _, e1, e2, _⟩ := h7
    rw [sI_n (by omega), e2]; exact e1
  · rintro M1 rfl
    refine ⟨fun z => absurd z (by decide), fun z => absurd z (by decide), fun z => absurd z (by decide), fun z => absurd z (by decide), fun z => absurd z (by decide), fun z => absurd z (by decide), fun z => absurd z (by decide), fun z => absurd z (by decide), fun z => absurd z (by decide), fun z => absurd z (by decide), fun z => absurd z (by decide), fun z => absurd z (by decide), fun _ => ⟨?_, R⟩, fun _ _ _ _ _ _ _ _ _ _ _ _ z => absurd rfl z⟩
    obtain ⟨m, v, _, _, e1, e2, _⟩ := h11
    rw [sI_n (by omega), e2]; exact e1
  · rintro M1 rfl
    exact ⟨fun z => absurd z z0, fun z => absurd z z1, fun z => absurd z z2, fun z => absurd z z3, fun z => absurd z z4, fun z => absurd z z5, fun z => absurd z z6, fun z => absurd z z7, fun z => absurd z z8, fun z => absurd z z9, fun z => absurd z z10, fun z => absurd z z11, fun z => absurd z z12, fun _ _ _ _ _ _ _ _ _ _ _ _ _ => ⟨rfl, R⟩⟩
