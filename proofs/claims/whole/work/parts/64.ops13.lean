/-! arguments within bounds; ops 12, 13, 19 -/
def inL (a : Int32) (lo n : Nat) : Prop := ∃ j, lo ≤ j ∧ j < n ∧ a = nI j
theorem inL_lo {a : Int32} {lo n : Nat} (hn : n < 2 ^ 31) (h : a < nI lo) : ¬ inL a lo n := by
  rintro ⟨j, h1, h2, rfl⟩
  exact nI_nlt h1 (by omega) h
theorem inL_ge {a : Int32} {lo n : Nat} (hn : n < 2 ^ 31) (h : nI n ≤ a) : ¬ inL a lo n := by
  rintro ⟨j, h1, h2, rfl⟩
  exact nI_ge h2 hn h
theorem inL_gt {a : Int32} {lo m n : Nat} (hn : n < 2 ^ 31) (e : n = m + 1) (h : nI m < a) : ¬ inL a lo n := by
  rintro ⟨j, h1, h2, rfl⟩
  exact nI_nlt (by omega) (by omega) h
theorem inL_mk {a : Int32} {lo n : Nat} (hn : n < 2 ^ 31) (h0 : ¬ a < nI lo) (h1 : ¬ nI n ≤ a) (hl : lo < n) : inL a lo n := by
  rcases pk_ix a hn with z | z | ⟨j, hj, rfl⟩
  · exact absurd (Int32.lt_of_lt_of_le z (nI_pos' (by omega))) h0
  · exact absurd z h1
  · refine ⟨j, ?_, hj, rfl⟩
    rcases Nat.lt_or_ge j lo with y | y
    · exact absurd (nI_lt y (by omega)) h0
    · exact y
theorem inL_mk' {a : Int32} {lo m n : Nat} (hn : n < 2 ^ 31) (e : n = m + 1) (h0 : ¬ a < nI lo) (h1 : ¬ nI m < a) (hl : lo < n) : inL a lo n := by
  refine inL_mk hn h0 (fun z => h1 ?_) hl
  exact Int32.lt_of_lt_of_le (nI_lt (by omega) hn) z
theorem e10_isBird {w nb : Nat} {X : Mem} {a : Int32} {Q : Int32 → Mem → Prop} (hnb : nb ≤ 5) (hr : RefR w X) (hc : X.1 23 w 1 = nI nb) (h0 : ¬ inL a 0 nb → Q 0 X) (h1 : inL a 0 nb → Q 1 X) : p_X10_isBird a X Q :=
  ⟨fun z => h0 (inL_lo (by omega) z), fun z => ⟨w, hr.2.1, hr.1, fun y => h0 (inL_ge (by omega) (by rw [← hc]; exact y)), fun y => by
    rcases Nat.eq_zero_or_pos nb with e | e
    · subst e
      exact absurd (by rw [hc]; exact Int32.not_lt.mp z) y
    · exact h1 (inL_mk (by omega) z (by rw [← hc]; exact y) e)⟩⟩
theorem e11_isBird {nb : Nat} {Y : Mem} {a : Int32} {Q : Int32 → Mem → Prop} (hnb : nb ≤ 5) (hc : Y.1 40 0 11 = nI nb) (h0 : ¬ inL a 0 nb → Q 0 Y) (h1 : inL a 0 nb → Q 1 Y) : p_X11_isBird a Y Q :=
  ⟨fun z => h0 (inL_lo (by omega) z), fun z => ⟨fun y => h0 (inL_ge (by omega) (by rw [← hc]; exact y)), fun y => by
    rcases Nat.eq_zero_or_pos nb with e | e
    · subst e
      exact absurd (by rw [hc]; exact Int32.not_lt.mp z) y
    · exact h1 (inL_mk (by omega) z (by rw [← hc]; exact y) e)⟩⟩
theorem e10_isPeriod {M : Mem} {a : Int32} {Q : Int32 → Mem → Prop} (h0 : ¬ inL a 0 200 → Q 0 M) (h1 : inL a 0 200 → Q 1 M) : p_X10_isPeriod a M Q :=
  ⟨fun z => h0 (inL_lo (by decide) z), fun z => ⟨fun y => h0 (inL_ge (by decide) y), fun y => h1 (inL_mk (by decide) z y (by decide))⟩⟩
theorem e_isIn {a : Int32} {lo m n : Nat} {M : Mem} {Q : Int32 → Mem → Prop} (hn : n < 2 ^ 31) (e : n = m + 1) (hl : lo < n) (h0 : ¬ inL a lo n → Q 0 M) (h1 : inL a lo n → Q 1 M) : p_X11_isIn a (nI lo) (nI m) M Q :=
  t_isIn (fun z => h0 (z.elim (fun y => inL_lo hn y) (fun y => inL_gt hn e y))) (fun y z => h1 (inL_mk' hn e y z hl))
/-- bird, period and m periods below 200 -/
def inP (a : Int32) (m : Nat) : Prop := ∃ p, p + m ≤ 200 ∧ a = nI p
theorem e11_isRange {nb m : Nat} {Y : Mem} {a1 a2 : Int32} {Q : Int32 → Mem → Prop} (hnb : nb ≤ 5) (hm : 1 ≤ m) (hm2 : m ≤ 200) (hc : Y.1 40 0 11 = nI nb) (h0 : ¬ (inL a1 0 nb ∧ inP a2 m) → Q 0 Y) (h1 : inL a1 0 nb → inP a2 m → Q 1 Y) : p_X11_isRange a1 a2 (nI m) Y Q := by
  refine e11_isBird hnb hc (fun z => ⟨fun _ => h0 (fun g => z g.1), fun y => absurd rfl y⟩) (fun hb => ⟨fun y => absurd y (by decide), fun _ => ⟨fun z => h0 ?_, fun z => ?_⟩⟩)
  · rintro ⟨_, p, hp, rfl⟩
    exact nI_pos (by omega) z
  · have e : (201 : Int32) - nI m = nI (201 - m) := by rw [show (201 : Int32) = nI 201 from rfl, pk_sub (by omega)]
    rw [e]
    refine ⟨fun y => h0 ?_, fun y => h1 hb ?_⟩
    · rintro ⟨_, p, hp, rfl⟩
      exact nI_ge (by omega) (by omega) y
    · obtain ⟨p, _, hp, rfl⟩ := inL_mk (lo := 0) (by omega) z y (by omega)
      exact ⟨p, by omega, rfl⟩
theorem inP_1 {a : Int32} : inP a 1 ↔ inL a 0 200 := by
  constructor
  · rintro ⟨p, hp, rfl⟩; exact ⟨p, Nat.zero_le _, by omega, rfl⟩
  · rintro ⟨p, _, hp, rfl⟩; exact ⟨p, by omega, rfl⟩
theorem e10_arePeriods {M : Mem} {a0 a1 : Int32} {N : Nat} {Q : Int32 → Mem → Prop} (hN : N < 100) (hN1 : 1 ≤ N) (h0 : ¬ (∃ m, 1 ≤ m ∧ m < N + 1 ∧ a1 = nI m ∧ inP a0 m) → Q 0 M) (h1 : (∃ m, 1 ≤ m ∧ m < N + 1 ∧ a1 = nI m ∧ inP a0 m) → Q 1 M) : p_X10_arePeriods a0 a1 (nI N) M Q := by
  refine e10_isPeriod (fun z => ⟨fun _ => h0 ?_, fun y => absurd rfl y⟩) (fun hp => ⟨fun y => absurd y (by decide), fun _ => ⟨fun z => h0 ?_, fun z => ⟨fun y => h0 ?_, fun y => ?_⟩⟩⟩)
  · rintro ⟨m, m1, m2, _, p, hp, rfl⟩
    exact z ⟨p, Nat.zero_le _, by omega, rfl⟩
  · rintro ⟨m, m1, m2, rfl, _⟩
    exact nI_nlt (a := m) (b := 1) m1 (by omega) z
  · rintro ⟨m, m1, m2, rfl, _⟩
    exact nI_nlt (a := N) (b := m) (by omega) (by omega) y
  · obtain ⟨m, m1, m2, rfl⟩ := inL_mk' (lo := 1) (m := N) (n := N + 1) (by omega) rfl z y (by omega)
    obtain ⟨p, _, hp2, rfl⟩ := hp
    rw [nI_add, show (200 : Int32) = nI 200 from rfl, nI_ltI (by omega) (by omega)]
    refine ⟨fun x => h0 ?_, fun x => h1 ⟨m, m1, m2, rfl, p, by omega, rfl⟩⟩
    rintro ⟨m', _, m2', e, p', hp', e'⟩
    have := (nI_eq (by omega) (by omega)).mp e
    have := (nI_eq (by omega) (by omega)).mp e'
    omega
/-! op 12: sum -/
def G12 (nb : Nat) (a1 a2 a3 a4 a5 : Int32) : Prop := inL a1 0 nb ∧ inL a2 0 200 ∧ inL a3 0 930 ∧ inL a4 0 16 ∧ inL a5 0 3
theorem z1n : ¬ (1 : Int32) = 0 := by decide
theorem x_sum {w nb : Nat} {X : Mem} {a1 a2 a3 a4 a5 : Int32} {Q : Int32 → Mem → Prop} (hnb : nb ≤ 5) (hr : RefR w X) (hc : X.1 23 w 1 = nI nb) (h0 : ¬ G12 nb a1 a2 a3 a4 a5 → Q 0 X) (h1 : G12 nb a1 a2 a3 a4 a5 → (∃ w11 : Nat, X.2.2 0 0 3 = some (23 + w11) ∧ w11 < 2 ∧ (p_X2_hear w11 a2 X (fun M12 => (∃ w13 : Nat, M12.2.2 0 0 3 = some (23 + w13) ∧ w13 < 2 ∧ (vp_in a1 5 ∧ (p_X2_takeCode ((M12.1 25 (5 * w13 + (a1 : Int32).toNatClampNeg) 2)) M12 (fun M15 => (p_X2_turnBack a2 ((a3 / 62)) a4 M15 (fun M16 => (p_X2_sumAt ((a3 - a3 / 62 * 62)) M16 (fun M17 => ((a5 = 0 → (Q (M17.1 5 0 2) M17)) ∧ (a5 = 1 → (Q (M17.1 5 0 3) M17)) ∧ (¬ a5 = 0 → ¬ a5 = 1 → (p_X2_power  M17 (fun r19 M19 => (Q r19 M19))))))))))))))))) : p_X10_sum a1 a2 a3 a4 a5 X Q :=
  e10_isBird hnb hr hc (fun z => ⟨fun _ => h0 (fun g => z g.1), fun y => absurd rfl y⟩) (fun g1 => ⟨fun y => absurd y z1n, fun _ =>
    e10_isPeriod (fun z => ⟨fun _ => h0 (fun g => z g.2.1), fun y => absurd rfl y⟩) (fun g2 => ⟨fun y => absurd y z1n, fun _ =>
      ⟨fun z => h0 (fun g => inL_lo (by decide) z g.2.2.1), fun z3 => ⟨fun z => h0 (fun g => inL_ge (by decide) z g.2.2.1), fun z3' =>
        ⟨fun z => h0 (fun g => inL_lo (by decide) z g.2.2.2.1), fun z4 => ⟨fun z => h0 (fun g => inL_ge (by decide) z g.2.2.2.1), fun z4' =>
          ⟨fun z => h0 (fun g => inL_lo (by decide) z g.2.2.2.2), fun z5 => ⟨fun z => h1 ⟨g1, g2, inL_mk (by decide) z3 z3' (by decide), inL_mk (by decide) z4 z4' (by decide), inL_mk' (m := 2) (by decide) rfl z5 (Int32.not_lt.mpr z) (by decide)⟩, fun z => h0 (fun g => inL_gt (m := 2) (by decide) rfl (Int32.not_le.mp z) g.2.2.2.2)⟩⟩⟩⟩⟩⟩⟩)⟩)
theorem y_sum {nb : Nat} {Y : Mem} {a1 a2 a3 a4 a5 : Int32} {Q : Int32 → Mem → Prop} (hnb : nb ≤ 5) (hc : (sI Y 40 0 2 0).1 40 0 11 = nI nb) (h0 : ¬ G12 nb a1 a2 a3 a4 a5 → Q 0 (sI Y 40 0 2 0)) (h1 : G12 nb a1 a2 a3 a4 a5 → (p_X11_laySamples a2 (sI Y 40 0 2 0) (fun M12 => (p_X11_turnsBack a2 ((a3 / 62)) a4 M12 (fun M13 => (p_X11_powerBy a1 ((a3 - a3 / 62 * 62)) M13 (fun r14 M14 => ((¬ a5 = 0 → ((¬ a5 = 1 → (Q r14 M14)) ∧ (a5 = 1 → (Q (M14.1 40 0 30) M14)))) ∧ (a5 = 0 → (Q (M14.1 40 0 29) M14)))))))))) : p_X11_sum a1 a2 a3 a4 a5 Y Q := by
  rintro M1 rfl
  exact e11_isBird hnb hc (fun z => ⟨fun _ => h0 (fun g => z g.1), fun y => absurd rfl y⟩) (fun g1 => ⟨fun y => absurd y z1n, fun _ =>
    e_isIn (lo := 0) (m := 199) (n := 200) (by decide) rfl (by decide) (fun z => ⟨fun _ => h0 (fun g => z g.2.1), fun y => absurd rfl y⟩) (fun g2 => ⟨fun y => absurd y z1n, fun _ =>
      e_isIn (lo := 0) (m := 929) (n := 930) (by decide) rfl (by decide) (fun z => ⟨fun _ => h0 (fun g => z g.2.2.1), fun y => absurd rfl y⟩) (fun g3 => ⟨fun y => absurd y z1n, fun _ =>
        e_isIn (lo := 0) (m := 15) (n := 16) (by decide) rfl (by decide) (fun z => ⟨fun _ => h0 (fun g => z g.2.2.2.1), fun y => absurd rfl y⟩) (fun g4 => ⟨fun y => absurd y z1n, fun _ =>
          e_isIn (lo := 0) (m := 2) (n := 3) (by decide) rfl (by decide) (fun z => ⟨fun y => absurd rfl y, fun _ => h0 (fun g => z g.2.2.2.2)⟩) (fun g5 => ⟨fun _ => h1 ⟨g1, g2, g3, g4, g5⟩, fun y => absurd y z1n⟩)⟩)⟩)⟩)⟩)
theorem op_12 (X Y : Mem) (a1 a2 a3 a4 a5 : Int32) (hR : Rel X Y) : p_X10_sum a1 a2 a3 a4 a5 X (fun r X1 => p_X11_sum a1 a2 a3 a4 a5 Y (fun r1 Y1 => r = r1 ∧ Rel X1 Y1)) := by
  obtain ⟨T, w, h1, h2, h3, h4, h5, h6, h7, h8, h9, h10, h11, h12, h13⟩ := id hR
  have hnb := h1.1
  have hYb : (sI Y 40 0 2 0).1 40 0 11 = nI (T 0 0) := by rw [sI_n (by omega)]; exact h5.1
  refine x_sum hnb h2 h3.1 (fun n => y_sum hnb hYb (fun _ => ⟨rfl, hR.th 0⟩) (fun g => absurd g n)) (fun g => ?_)
  have g' := g
  obtain ⟨⟨b, _, hb, rfl⟩, ⟨p, _, hp, rfl⟩, ⟨c, _, hc, rfl⟩, ⟨t, _, ht, rfl⟩, _⟩ := g
  have e1 : (nI c / 62 : Int32) = nI (c / 62) := pk_div (d := 62) (by omega) (by decide) (by decide)
  have e2 : (nI c - nI c / 62 * 62 : Int32) = nI (c % 62) := pk_rem (d := 62) (by omega) (by decide) (by decide)
  have hcm : c % 62 < 62 := Nat.mod_lt _ (by decide)
  have hbd : BdS (sreZ T p (T 0 4) (T 0 5) none) (simZ T p (T 0 4) (T 0 5) none) := bdS h1 h1.2.2.2.2.1
  refine ⟨w, h2.2.1, h2.1, t10_hear h1 h2.1 hp h3 h4 h13 (fun Z hx _ hh hc2 => ?_)⟩
  have hW : CW T w Z := CW.ex hx ⟨h2, h3, h4⟩
  obtain ⟨cv, hcv, xcv, hbit⟩ := hW.2.2.2.2 b hb
  refine ⟨w, hW.1.2.1, hW.1.1, vp_in_nI (by omega) (by omega), ?_⟩
  rw [nI_clamp (by omega), xcv, e2, e1]
  refine t10_take hcv hbit (fun Z2 hF hM => t10_turn hp (by omega) hbd (SmX.c (X := Z) hF.c hh) (fun Z3 hF3 hT => t10_sumAt hcm hbd (hM.ft hF3) hT ?_))
  have hxx := ((hx.tr hF.ex).tr hF3.ex).tr ((EX.set (X := Z3) (f := 5) (i := 0) (k := 2) (v := iI (siZ T (T (1 + b) 1) (c % 62) (sreZ T p (T 0 4) (T 0 5) none) (simZ T p (T 0 4) (T 0 5) none) p (c / 62) t)) (by decide) (by decide)).tr (EX.set (f := 5) (i := 0) (k := 3) (v := iI (sqZ T (T (1 + b) 1) (c % 62) (sreZ T p (T 0 4) (T 0 5) none) (simZ T p (T 0 4) (T 0 5) none) p (c / 62) t)) (by decide) (by decide)))
  have hcc : CacheX T (sI (sI Z3 5 0 2 (iI (siZ T (T (1 + b) 1) (c % 62) (sreZ T p (T 0 4) (T 0 5) none) (simZ T p (T 0 4) (T 0 5) none) p (c / 62) t))) 5 0 3 (iI (sqZ T (T (1 + b) 1) (c % 62) (sreZ T p (T 0 4) (T 0 5) none) (simZ T p (T 0 4) (T 0 5) none) p (c / 62) t))) := (hc2.ag (hF.c.tr hF3.c)).ag ⟨by rw [sI_n (by omega), sI_n (by omega)], fun k => by rw [sI_n (by omega), sI_n (by omega)], fun k => by rw [sI_n (by omega), sI_n (by omega)]⟩
  have mo : ∀ r, (a5 = 0 → r = iI (siZ T (T (1 + b) 1) (c % 62) (sreZ T p (T 0 4) (T 0 5) none) (simZ T p (T 0 4) (T 0 5) none) p (c / 62) t)) → (a5 = 1 → r = iI (sqZ T (T (1 + b) 1) (c % 62) (sreZ T p (T 0 4) (T 0 5) none) (simZ T p (T 0 4) (T 0 5) none) p (c / 62) t)) → (¬ a5 = 0 → ¬ a5 = 1 → r = nI (pwN T (T (1 + b) 1) (c % 62) (sreZ T p (T 0 4) (T 0 5) none) (simZ T p (T 0 4) (T 0 5) none) p (c / 62) t)) → p_X11_sum (nI b) (nI p) (nI c) (nI t) a5 Y (fun r1 Y1 => r = r1 ∧ Rel (sI (sI Z3 5 0 2 (iI (siZ T (T (1 + b) 1) (c % 62) (sreZ T p (T 0 4) (T 0 5) none) (simZ T p (T 0 4) (T 0 5) none) p (c / 62) t))) 5 0 3 (iI (sqZ T (T (1 + b) 1) (c % 62) (sreZ T p (T 0 4) (T 0 5) none) (simZ T p (T 0 4) (T 0 5) none) p (c / 62) t))) Y1) := by
    intro r r0 r1 r2
    refine y_sum hnb hYb (fun n => absurd g' n) (fun _ => ?_)
    rw [e2, e1]
    have hC : CY T (sI Y 40 0 2 0) := ⟨h5.ag h1 (AgYt.set rfl), fun k hk => by rw [sI_n (by omega)]; exact h6.2.2.2.2.1 k hk⟩
    refine t11_smp h1 hp (by have := h1.2.2.2.2.1; omega) (by have := h1.2.2.2.2.2.1; omega) (fun o e => by cases e) hC.1 hC.2 ((h6.ag (AgYt.set rfl) : MYr T (sI Y 40 0 2 0)).ns) (fun V hV => ?_)
    refine t11_turns hp (by omega) ht (hC.ey h1 hV.ey).2 hV.2 (fun V2 hV2 hU => ?_)
    have ey2 : EY (sI Y 40 0 2 0) V2 := hV.ey.tr (fun a i j e1 e2 => hV2.1 a i j (by omega) (by omega))
    refine t11_pow h1 hb hcm hbd (hC.ey h1 ey2).1 hU ?_
    have R := relE h1 h2 h3 h4 h5 h6 h7 h8 h9 h10 h11 h12 hxx hcc ((ey2.tr (EY.set (f := 40) (i := 0) (k := 29) (v := iI (siZ T (T (1 + b) 1) (c % 62) (sreZ T p (T 0 4) (T 0 5) none) (simZ T p (T 0 4) (T 0 5) none) p (c / 62) t)) (by omega))).tr (EY.set (f := 40) (i := 0) (k := 30) (v := iI (sqZ T (T (1 + b) 1) (c % 62) (sreZ T p (T 0 4) (T 0 5) none) (simZ T p (T 0 4) (T 0 5) none) p (c / 62) t)) (by omega)))
    refine ⟨fun n => ⟨fun n2 => ⟨r2 n n2, R⟩, fun n2 => ⟨?_, R⟩⟩, fun n => ⟨?_, R⟩⟩
    · rw [sI_s]; exact r1 n2
    · rw [sI_n (by omega), sI_s]; exact r0 n
  refine ⟨fun n => ?_, fun n => ?_, fun n n2 => t10_pow (T := T) (d := T (1 + b) 1) (st := c % 62) (p := p) (sh := c / 62) (tu := t) hbd (by rw [sI_n (by omega), sI_s]) sI_s (mo _ (fun y => absurd y n) (fun y => absurd y n2) (fun _ _ => rfl))⟩
  · rw [sI_n (by omega), sI_s]
    exact mo _ (fun _ => rfl) (fun y => absurd (n.symm.trans y) (by decide)) (fun y => absurd n y)
  · rw [sI_s]
    exact mo _ (fun y => absurd (y.symm.trans n) (by decide)) (fun _ => rfl) (fun _ y => absurd n y)
