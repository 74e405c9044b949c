/-! ops 13, 19, 14 -/
def G13 (nb N : Nat) (a1 a2 a3 : Int32) : Prop := inL a1 0 nb ∧ (∃ m, 1 ≤ m ∧ m < N + 1 ∧ a3 = nI m ∧ inP a2 m)
theorem cY_of {T : Txt} {Y : Mem} (h1 : TB T) (h5 : TYr T Y) (h6 : MYr T Y) : CY T (sI Y 40 0 2 0) := ⟨h5.ag h1 (AgYt.set rfl), fun k hk => by rw [sI_n (by omega)]; exact h6.2.2.2.2.1 k hk⟩
theorem nsY_of {T : Txt} {Y : Mem} (h6 : MYr T Y) : NsY (T 0 4) (T 0 5) none (sI Y 40 0 2 0) := (h6.ag (AgYt.set rfl) : MYr T (sI Y 40 0 2 0)).ns
theorem no_some {o : Nat} {only : Option Nat} (h : only = none) (e : only = some o) : o < 5 := by rw [h] at e; cases e
theorem ra_of {T : Txt} {Y : Mem} (h5 : TYr T Y) : Y.1 45 0 11 = nI (T 0 6) := h5.2.2.2.2.1 4 (by decide)
/-- op 13: hunt -/
theorem op_13 (X Y : Mem) (a1 a2 a3 a4 : Int32) (hR : Rel X Y) : p_X10_hunt a1 a2 a3 a4 X (fun r X1 => p_X11_hunt a1 a2 a3 a4 Y (fun r1 Y1 => r = r1 ∧ Rel X1 Y1)) := by
  obtain ⟨T, w, h1, h2, h3, h4, h5, h6, h7, h8, h9, h10, h11, h12, h13⟩ := id hR
  have hnb := h1.1
  have hYb : (sI Y 40 0 2 0).1 40 0 11 = nI (T 0 0) := by rw [sI_n (by omega)]; exact h5.1
  have ym : ∀ {Q : Int32 → Mem → Prop}, (¬ (G13 (T 0 0) 4 a1 a2 a3 ∧ inL a4 0 4) → Q (-1) (sI Y 40 0 2 0)) → (G13 (T 0 0) 4 a1 a2 a3 ∧ inL a4 0 4 → (p_X11_hunts a1 a2 a3 (sI Y 40 0 2 0) (fun M8 => ((¬ a4 = 0 → ((¬ a4 = 1 → ((¬ a4 = 2 → (p_X11_isAcquired  M8 (fun r12 M12 => ((r12 = 0 → (Q 0 M12)) ∧ (¬ r12 = 0 → (Q 1 M12)))))) ∧ (a4 = 2 → (Q ((M8.2.1 40 0 33) : Int64).toInt32 M8)))) ∧ (a4 = 1 → (vp_in (M8.1 40 0 32) 930 ∧ (Q ((M8.2.1 53 0 ((M8.1 40 0 32) : Int32).toNatClampNeg) : Int64).toInt32 M8))))) ∧ (a4 = 0 → (Q (M8.1 40 0 32) M8)))))) → p_X11_hunt a1 a2 a3 a4 Y Q := by
    intro Q q0 q1
    rintro M1 rfl
    refine e_isIn (lo := 1) (m := 4) (n := 5) (by decide) rfl (by decide) (fun z => ⟨fun _ => q0 ?_, fun y => absurd rfl y⟩) (fun g2 => ⟨fun y => absurd y z1n, fun _ => ?_⟩)
    · rintro ⟨⟨_, m, m1, m2, e, _⟩, _⟩; exact z ⟨m, m1, m2, e⟩
    · obtain ⟨m, m1, m2, rfl⟩ := g2
      refine e11_isRange hnb m1 (by omega) hYb (fun z => ⟨fun _ => q0 ?_, fun y => absurd rfl y⟩) (fun gb gp => ⟨fun y => absurd y z1n, fun _ => e_isIn (lo := 0) (m := 3) (n := 4) (by decide) rfl (by decide) (fun z => ⟨fun y => absurd rfl y, fun _ => q0 (fun g => z g.2)⟩) (fun g4 => ⟨fun _ => q1 ⟨⟨gb, m, m1, m2, rfl, gp⟩, g4⟩, fun y => absurd y z1n⟩)⟩)
      rintro ⟨⟨gb, m', _, _, e, gp⟩, _⟩
      have := (nI_eq (by omega) (by omega)).mp e
      subst this
      exact z ⟨gb, gp⟩
  have no : ¬ (G13 (T 0 0) 4 a1 a2 a3 ∧ inL a4 0 4) → p_X11_hunt a1 a2 a3 a4 Y (fun r1 Y1 => -1 = r1 ∧ Rel X Y1) := fun n => ym (fun _ => ⟨rfl, hR.th 0⟩) (fun g => absurd g n)
  refine e10_isBird hnb h2 h3.1 (fun z => ⟨fun _ => no (fun g => z g.1.1), fun y => absurd rfl y⟩) (fun gb => ⟨fun y => absurd y z1n, fun _ => e10_arePeriods (N := 4) (by decide) (by decide) (fun z => ⟨fun _ => no (fun g => z g.1.2), fun y => absurd rfl y⟩) (fun gm => ⟨fun y => absurd y z1n, fun _ => ⟨fun z => no (fun g => inL_lo (by decide) z g.2), fun z4 => ⟨fun z5 => ?_, fun z => no (fun g => inL_gt (m := 3) (by decide) rfl (Int32.not_le.mp z) g.2)⟩⟩⟩)⟩)
  have g4 : inL a4 0 4 := inL_mk' (m := 3) (by decide) rfl z4 (Int32.not_lt.mpr z5) (by decide)
  have gg : G13 (T 0 0) 4 a1 a2 a3 ∧ inL a4 0 4 := ⟨⟨gb, gm⟩, g4⟩
  obtain ⟨b, _, hb, rfl⟩ := gb
  obtain ⟨m, m1, m2, rfl, p, hp, rfl⟩ := gm
  have hf : ∀ c, c < 930 → hN T b (T 0 4) (T 0 5) none p m c < 2 ^ 30 := hN_lt h1 h1.2.2.2.2.1 (by omega)
  have hlt := pkN_lt (hN T b (T 0 4) (T 0 5) none p m) (m := 930) (by decide) 930 (Nat.le_refl _)
  refine t10_huntOver h1 hb (by omega) hp ⟨h2, h3, h4⟩ h13 (fun Z hx hc hH => ?_)
  have mo : ∀ r, (a4 = 0 → r = nI (pkN (hN T b (T 0 4) (T 0 5) none p m) 930)) → (a4 = 1 → r = nI (hN T b (T 0 4) (T 0 5) none p m (pkN (hN T b (T 0 4) (T 0 5) none p m) 930))) → (a4 = 2 → r = nI (rvN (hN T b (T 0 4) (T 0 5) none p m))) → (¬ a4 = 0 → ¬ a4 = 1 → ¬ a4 = 2 → r = bitV (acqB (hN T b (T 0 4) (T 0 5) none p m) (T 0 6))) → p_X11_hunt (nI b) (nI p) (nI m) a4 Y (fun r1 Y1 => r = r1 ∧ Rel Z Y1) := by
    intro r r0 r1 r2 r3
    refine ym (fun n => absurd gg n) (fun _ => t11_hunts h1 hb (by omega) hp h1.2.2.2.2.1 (by have := h1.2.2.2.2.2.1; omega) (fun o e => by cases e) (cY_of h1 h5 h6) (nsY_of h6) (fun V hV hY => ?_))
    have R : Rel Z V := relE h1 h2 h3 h4 h5 h6 h7 h8 h9 h10 h11 h12 hx hc hV
    rw [hY.1, hY.2.1, nI_clamp (by omega), hY.2.2 _ hlt, lN_i, lN_i]
    refine ⟨fun n0 => ⟨fun n1 => ⟨fun n2 => t11_acq hf (by have := h1.2.2.2.2.2.2.1; omega) hY (ra_of ((cY_of h1 h5 h6).ey h1 hV).1) ?_, fun n2 => ⟨r2 n2, R⟩⟩, fun n1 => ⟨vp_in_nI hlt (by omega), r1 n1, R⟩⟩, fun n0 => ⟨r0 n0, R⟩⟩
    have e3 := r3 n0 n1 n2
    cases hq : acqB (hN T b (T 0 4) (T 0 5) none p m) (T 0 6)
    · rw [hq] at e3; exact ⟨fun _ => ⟨e3, R⟩, fun y => absurd rfl y⟩
    · rw [hq] at e3; exact ⟨fun y => absurd y z1n, fun _ => ⟨e3, R⟩⟩
  rw [hH.1, hH.2.1, hH.2.2]
  have d01 : ¬ (0 : Int32) = 1 := by decide
  have d02 : ¬ (0 : Int32) = 2 := by decide
  have d12 : ¬ (1 : Int32) = 2 := by decide
  refine ⟨fun n => mo _ (fun _ => rfl) (fun y => absurd (n.symm.trans y) d01) (fun y => absurd (n.symm.trans y) d02) (fun y => absurd n y), fun n => mo _ (fun y => absurd (y.symm.trans n) d01) (fun _ => rfl) (fun y => absurd (n.symm.trans y) d12) (fun _ y => absurd n y), fun n => mo _ (fun y => absurd (y.symm.trans n) d02) (fun y => absurd (y.symm.trans n) d12) (fun _ => rfl) (fun _ _ y => absurd n y), fun n0 n1 n2 => ?_⟩
  have hW : CW T w Z := CW.ex hx ⟨h2, h3, h4⟩
  refine ⟨w, hW.1.2.1, hW.1.1, ?_⟩
  rw [hW.2.1.2.2.2.2.2.2.1]
  refine t10_acq hf (by have := h1.2.2.2.2.2.2.1; omega) hH ?_
  cases hq : acqB (hN T b (T 0 4) (T 0 5) none p m) (T 0 6)
  · exact ⟨fun _ => mo _ (fun y => absurd y n0) (fun y => absurd y n1) (fun y => absurd y n2) (fun _ _ _ => by rw [hq]; rfl), fun y => absurd rfl y⟩
  · exact ⟨fun y => absurd y z1n, fun _ => mo _ (fun y => absurd y n0) (fun y => absurd y n1) (fun y => absurd y n2) (fun _ _ _ => by rw [hq]; rfl)⟩
/-! op 19: tune -/
def tuR (g : Nat → Nat) : Nat → Int32 × Int32
  | 0 => (0, -1)
  | n + 1 => if nI (g n) ≤ (tuR g n).2 then tuR g n else (nI n, nI (g n))
theorem t10_tune_l {T : Txt} {d0 p st : Nat} {re im : Nat → Int} {v2 : Int32} (hv : v2 = nI p) (hp : p < 200) (hst : st < 62) (hb : BdS re im) {X : Mem} (hs : SmX re im X) (hM : MX (zsL T d0) X) {Q : Int32 → Mem → Prop} (h : ∀ Z, EX X Z → AgC X Z → Q (tuR (fun sh => pwN T d0 st re im p sh 0) 15).1 Z) : ∀ (d sh : Nat) (Z : Mem), sh + d = 15 → EX X Z → AgC X Z → MX (zsL T d0) Z → b_X10_tune_67 Q (d + 1) v2 (nI st) (tuR (fun sh => pwN T d0 st re im p sh 0) sh).1 (tuR (fun sh => pwN T d0 st re im p sh 0) sh).2 (nI sh) Z := by
  subst hv
  intro d
  induction d with
  | zero =>
    intro sh Z hsd hx hc hm
    have : sh = 15 := by omega
    subst this
    exact ⟨fun _ => h Z hx hc, fun z => absurd (by decide) z⟩
  | succ d ih =>
    intro sh Z hsd hx hc hm
    refine ⟨fun z => absurd z (by rw [show (15 : Int32) = nI 15 from rfl]; exact nI_ge (by omega) (by omega)), fun _ => t10_turn (tu := 0) hp (by omega) hb (hs.c hc) (fun V hV hT => t10_sumAt hst hb (hm.ft hV) hT (t10_pow (T := T) (d := d0) (st := st) (p := p) (sh := sh) (tu := 0) hb (by rw [sI_n (by omega), sI_s]) sI_s ?_))⟩
    have er : tuR (fun sh => pwN T d0 st re im p sh 0) (sh + 1) = if nI (pwN T d0 st re im p sh 0) ≤ (tuR (fun sh => pwN T d0 st re im p sh 0) sh).2 then tuR (fun sh => pwN T d0 st re im p sh 0) sh else (nI sh, nI (pwN T d0 st re im p sh 0)) := rfl
    have go := ih (sh + 1) (sI (sI V 5 0 2 (iI (siZ T d0 st re im p sh 0))) 5 0 3 (iI (sqZ T d0 st re im p sh 0))) (by omega) ((hx.tr hV.ex).tr ((EX.set (by decide) (by decide)).tr (EX.set (by decide) (by decide)))) ((hc.tr hV.c).tr ⟨by rw [sI_n (by omega), sI_n (by omega)], fun k => by rw [sI_n (by omega), sI_n (by omega)], fun k => by rw [sI_n (by omega), sI_n (by omega)]⟩) ⟨by rw [sI_n (by omega), sI_n (by omega)]; exact (hm.ft hV).1, fun j i e => by rw [sI_n (by omega), sI_n (by omega)]; exact (hm.ft hV).2 j i e⟩
    rw [er] at go
    refine ⟨fun y => ?_, fun y => t10_pow (T := T) (d := d0) (st := st) (p := p) (sh := sh) (tu := 0) hb (by rw [sI_n (by omega), sI_s]) sI_s ?_⟩
    · rintro x17 rfl
      rw [nI_1]
      rw [if_pos y] at go
      exact go
    · rintro x17 rfl
      rw [nI_1]
      rw [if_neg y] at go
      exact go
theorem t11_tune_l {T : Txt} {b p st : Nat} {re im : Nat → Int} {v2 : Int32} (hv : v2 = nI p) (h1 : TB T) (hb0 : b < T 0 0) (hp : p < 200) (hst : st < 62) (hb : BdS re im) {Y : Mem} (hC : CY T Y) (hs : SY re im Y) {Q : Int32 → Mem → Prop} (h : ∀ Z, EY Y Z → Q (tuR (fun sh => pwN T (T (1 + b) 1) st re im p sh 0) 15).1 Z) : ∀ (d sh : Nat) (Z : Mem), sh + d = 15 → EY Y Z → (∀ i j, Z.1 49 i j = Y.1 49 i j) → (∀ i j, Z.1 50 i j = Y.1 50 i j) → b_X11_tune_41 Q (d + 1) (nI b) v2 (nI st) (tuR (fun sh => pwN T (T (1 + b) 1) st re im p sh 0) sh).1 (tuR (fun sh => pwN T (T (1 + b) 1) st re im p sh 0) sh).2 (nI sh) Z := by
  subst hv
  intro d
  induction d with
  | zero =>
    intro sh Z hsd hx k1 k2
    have : sh = 15 := by omega
    subst this
    exact ⟨fun _ => h Z hx, fun z => absurd (by decide) z⟩
  | succ d ih =>
    intro sh Z hsd hx k1 k2
    refine ⟨fun z => absurd z (by rw [show (15 : Int32) = nI 15 from rfl]; exact nI_ge (by omega) (by omega)), fun _ => ?_⟩
    refine t11_turns (re := re) (im := im) (tu := 0) hp (by omega) (by decide) (hC.ey h1 hx).2 (fun k hk => by rw [k1, k2]; exact hs k hk) (fun V hV hU => ?_)
    have ey2 : EY Y V := hx.tr (fun a i j e1 e2 => hV.1 a i j (by omega) (by omega))
    refine t11_pow h1 hb0 hst hb (hC.ey h1 ey2).1 hU ?_
    have er : tuR (fun sh => pwN T (T (1 + b) 1) st re im p sh 0) (sh + 1) = if nI (pwN T (T (1 + b) 1) st re im p sh 0) ≤ (tuR (fun sh => pwN T (T (1 + b) 1) st re im p sh 0) sh).2 then tuR (fun sh => pwN T (T (1 + b) 1) st re im p sh 0) sh else (nI sh, nI (pwN T (T (1 + b) 1) st re im p sh 0)) := rfl
    have go := ih (sh + 1) (sI (sI V 40 0 29 (iI (siZ T (T (1 + b) 1) st re im p sh 0))) 40 0 30 (iI (sqZ T (T (1 + b) 1) st re im p sh 0))) (by omega) ((ey2.tr (EY.set (by omega))).tr (EY.set (by omega))) (fun i j => by rw [sI_n (by omega), sI_n (by omega), hV.1 49 i j (by decide) (by decide)]; exact k1 i j) (fun i j => by rw [sI_n (by omega), sI_n (by omega), hV.1 50 i j (by decide) (by decide)]; exact k2 i j)
    rw [er] at go
    refine ⟨fun y => ⟨fun _ => ?_, fun z => absurd y z⟩, fun y => ⟨fun z => absurd z y, fun _ => ?_⟩⟩
    · rintro x12 rfl
      rw [nI_1]
      rw [if_pos y] at go
      exact go
    · rintro x12 rfl
      rw [nI_1]
      rw [if_neg y] at go
      exact go
theorem op_19 (X Y : Mem) (a1 a2 a3 : Int32) (hR : Rel X Y) : p_X10_tune a1 a2 a3 X (fun r X1 => p_X11_tune a1 a2 a3 Y (fun r1 Y1 => r = r1 ∧ Rel X1 Y1)) := by
  obtain ⟨T, w, h1, h2, h3, h4, h5, h6, h7, h8, h9, h10, h11, h12, h13⟩ := id hR
  have hnb := h1.1
  have hYb : (sI Y 40 0 2 0).1 40 0 11 = nI (T 0 0) := by rw [sI_n (by omega)]; exact h5.1
  have ym : ∀ {Q : Int32 → Mem → Prop}, (¬ (inL a1 0 (T 0 0) ∧ inL a2 0 200 ∧ inL a3 0 62) → Q (-1) (sI Y 40 0 2 0)) → ((inL a1 0 (T 0 0) ∧ inL a2 0 200 ∧ inL a3 0 62) → (p_X11_laySamples a2 (sI Y 40 0 2 0) (fun M6 => (∃ n41 : Nat, b_X11_tune_41 Q n41 a1 a2 a3 0 (-1) 0 M6)))) → p_X11_tune a1 a2 a3 Y Q := by
    intro Q q0 q1
    rintro M1 rfl
    exact e11_isRange (m := 1) hnb (by decide) (by decide) hYb (fun z => ⟨fun _ => q0 (fun g => z ⟨g.1, inP_1.mpr g.2.1⟩), fun y => absurd rfl y⟩) (fun gb gp => ⟨fun y => absurd y z1n, fun _ => e_isIn (lo := 0) (m := 61) (n := 62) (by decide) rfl (by decide) (fun z => ⟨fun y => absurd rfl y, fun _ => q0 (fun g => z g.2.2)⟩) (fun g4 => ⟨fun _ => q1 ⟨gb, inP_1.mp gp, g4⟩, fun y => absurd y z1n⟩)⟩)
  have no : ¬ (inL a1 0 (T 0 0) ∧ inL a2 0 200 ∧ inL a3 0 62) → p_X11_tune a1 a2 a3 Y (fun r1 Y1 => -1 = r1 ∧ Rel X Y1) := fun n => ym (fun _ => ⟨rfl, hR.th 0⟩) (fun g => absurd g n)
  refine e10_isBird hnb h2 h3.1 (fun z => ⟨fun _ => no (fun g => z g.1), fun y => absurd rfl y⟩) (fun gb => ⟨fun y => absurd y z1n, fun _ => e10_isPeriod (fun z => ⟨fun _ => no (fun g => z g.2.1), fun y => absurd rfl y⟩) (fun gp => ⟨fun y => absurd y z1n, fun _ => ⟨fun z => no (fun g => inL_lo (by decide) z g.2.2), fun z4 => ⟨fun z5 => ?_, fun z => no (fun g => inL_ge (n := 62) (by decide) (Int32.not_lt.mp z) g.2.2)⟩⟩⟩)⟩)
  have g3 : inL a3 0 62 := inL_mk (by decide) z4 (Int32.not_le.mpr z5) (by decide)
  have gg := And.intro gb (And.intro gp g3)
  obtain ⟨b, _, hb, rfl⟩ := gb
  obtain ⟨p, _, hp, rfl⟩ := gp
  obtain ⟨st, _, hst, rfl⟩ := g3
  have hbd : BdS (sreZ T p (T 0 4) (T 0 5) none) (simZ T p (T 0 4) (T 0 5) none) := bdS h1 h1.2.2.2.2.1
  refine ⟨w, h2.2.1, h2.1, t10_hear h1 h2.1 hp h3 h4 h13 (fun Z hx _ hh hc2 => ?_)⟩
  have hW : CW T w Z := CW.ex hx ⟨h2, h3, h4⟩
  obtain ⟨cv, hcv, xcv, hbit⟩ := hW.2.2.2.2 b hb
  refine ⟨w, hW.1.2.1, hW.1.1, vp_in_nI (by omega) (by omega), ?_⟩
  rw [nI_clamp (by omega), xcv]
  refine t10_take hcv hbit (fun Z2 hF hM => ⟨16, t10_tune_l rfl hp hst hbd (SmX.c (X := Z) hF.c hh) hM (fun Z3 hx3 hc3 => ?_) 15 0 Z2 rfl (EX.rf _) (AgC.rf _) hM⟩)
  refine ym (fun n => absurd gg n) (fun _ => t11_smp h1 hp (by have := h1.2.2.2.2.1; omega) (by have := h1.2.2.2.2.2.1; omega) (fun o e => by cases e) (cY_of h1 h5 h6).1 (cY_of h1 h5 h6).2 (nsY_of h6) (fun V hV => ⟨16, t11_tune_l rfl h1 hb hp hst hbd ((cY_of h1 h5 h6).ey h1 hV.ey) hV.2 (fun V2 hV2 => ⟨rfl, relE h1 h2 h3 h4 h5 h6 h7 h8 h9 h10 h11 h12 ((hx.tr hF.ex).tr hx3) (hc2.ag (hF.c.tr hc3)) (hV.ey.tr hV2)⟩) 15 0 V rfl (EY.rf _) (fun _ _ => rfl) (fun _ _ => rfl)⟩))
/-! op 14: listen -/
def liV (T : Txt) (b p : Nat) : Nat → Nat → Int32
  | 0, _ => -3
  | d + 1, m => if 200 < p + m then -3 else if acqB (hN T b (T 0 4) (T 0 5) none p m) (T 0 6) && prB T b p (hN T b (T 0 4) (T 0 5) none p m) then nI m else liV T b p d (m + 1)
theorem t10_listen_l {T : Txt} {w b p : Nat} (h1 : TB T) (hb : b < T 0 0) (hp : p < 200) {X : Mem} (hW : CW T w X) {Q : Int32 → Mem → Prop} : ∀ (d k : Nat) (Z : Mem), k + d = 4 → EX X Z → CacheX T Z → CellX (hN T b (T 0 4) (T 0 5) none p k) Z → (∀ V, EX X V → CacheX T V → Q (liV T b p d (k + 1)) V) → b_X10_listen_44 Q (d + 1) (nI b) (nI p) (nI (k + 1)) Z := by
  intro d
  induction d with
  | zero =>
    intro k Z hk hx hc hf h
    have : k = 4 := by omega
    subst this
    exact ⟨fun _ => h Z hx hc, fun z => absurd (by decide) z⟩
  | succ d ih =>
    intro k Z hk hx hc hf h
    rw [liV] at h
    refine ⟨fun z => absurd z (by rw [show (4 : Int32) = nI 4 from rfl]; exact nI_nlt (by omega) (by omega)), fun _ => ?_⟩
    rw [nI_add, show (200 : Int32) = nI 200 from rfl, nI_ltI (by omega) (by omega)]
    refine ⟨fun z => ?_, fun z => ?_⟩
    · rw [if_pos z] at h; exact h Z hx hc
    · rw [if_neg z] at h
      rintro x12 rfl
      rw [show p + (k + 1) = p + k + 1 from rfl, nI_pred]
      refine t10_ha h1 hb (by omega) (hW.ex hx) hc hf (fun V hV hc2 hf2 => ?_)
      have hlt : ∀ c, c < 930 → hN T b (T 0 4) (T 0 5) none p (k + 1) c < 2 ^ 30 := hN_lt h1 h1.2.2.2.2.1 (by omega)
      refine t10_judge (f := hN T b (T 0 4) (T 0 5) none p (k + 1)) hlt hf2 (fun V2 hV2 hH => ?_)
      have hx2 := (hx.tr hV).tr hV2.ex
      have hW2 := hW.ex hx2
      have nx : (acqB (hN T b (T 0 4) (T 0 5) none p (k + 1)) (T 0 6) && prB T b p (hN T b (T 0 4) (T 0 5) none p (k + 1))) = false → b_X10_listen_138 Q (fun v1 v2 v3 M => b_X10_listen_44 Q (d + 1) v1 v2 v3 M) (nI b) (nI p) (nI (k + 1)) V2 := by
        rintro e x22 rfl
        rw [nI_1]
        refine ih (k + 1) V2 (by omega) hx2 (hc2.ag hV2.c) (fun c hc => by rw [hV2.2 12 0 c (by decide)]; exact hf2 c hc) (fun U a b => ?_)
        have := h U a b
        rw [if_neg (by rw [e]; decide)] at this
        exact this
      refine ⟨w, hW2.1.2.1, hW2.1.1, ?_⟩
      rw [hW2.2.1.2.2.2.2.2.2.1]
      refine t10_acq hlt (by have := h1.2.2.2.2.2.2.1; omega) hH ?_
      cases hq : acqB (hN T b (T 0 4) (T 0 5) none p (k + 1)) (T 0 6)
      · exact ⟨fun _ => nx (by rw [hq]; rfl), fun y => absurd rfl y⟩
      · refine ⟨fun y => absurd y z1n, fun _ => t10_right h1 hb hp hW2 hH ?_⟩
        cases hr : prB T b p (hN T b (T 0 4) (T 0 5) none p (k + 1))
        · exact ⟨fun _ => nx (by rw [hq, hr]; rfl), fun y => absurd rfl y⟩
        · refine ⟨fun y => absurd y z1n, fun _ => ?_⟩
          have := h V2 hx2 (hc2.ag hV2.c)
          rw [if_pos (by rw [hq, hr]; rfl)] at this
          exact this
theorem t11_listen_l {T : Txt} {b p : Nat} (h1 : TB T) (hb : b < T 0 0) (hp : p < 200) {Y : Mem} (hC : CY T Y) (hNs : NsY (T 0 4) (T 0 5) none Y) {Q : Int32 → Mem → Prop} : ∀ (d k : Nat) (Z : Mem), k + d = 4 → EY Y Z → CellY (hN T b (T 0 4) (T 0 5) none p k) Z → (∀ V, EY Y V → Q (liV T b p d (k + 1)) V) → b_X11_listen_53 Q (d + 1) (nI b) (nI p) (nI (k + 1)) Z := by
  intro d
  induction d with
  | zero =>
    intro k Z hk hx hf h
    have : k = 4 := by omega
    subst this
    exact ⟨fun _ => h Z hx, fun z => absurd (by decide) z⟩
  | succ d ih =>
    intro k Z hk hx hf h
    rw [liV] at h
    refine ⟨fun z => absurd z (by rw [show (4 : Int32) = nI 4 from rfl]; exact nI_nlt (by omega) (by omega)), fun _ => ?_⟩
    rw [nI_add, show (200 : Int32) = nI 200 from rfl, nI_ltI (by omega) (by omega)]
    refine ⟨fun z => ?_, fun z => ?_⟩
    · rw [if_pos z] at h; exact h Z hx
    · rw [if_neg z] at h
      rw [show p + (k + 1) = p + k + 1 from rfl, nI_pred]
      refine t11_apow h1 hb (by omega) h1.2.2.2.2.1 (by have := h1.2.2.2.2.2.1; omega) (fun o e => by cases e) (hC.ey h1 hx) (hNs.ey hx) hf (fun V hV hf2 => ?_)
      have hlt : ∀ c, c < 930 → hN T b (T 0 4) (T 0 5) none p (k + 1) c < 2 ^ 30 := hN_lt h1 h1.2.2.2.2.1 (by omega)
      refine t11_lpeak (f := hN T b (T 0 4) (T 0 5) none p (k + 1)) hlt hf2 (fun V2 hV2 hH => ?_)
      have hx2 := (hx.tr hV).tr hV2
      have hC2 := hC.ey h1 hx2
      have nx : (acqB (hN T b (T 0 4) (T 0 5) none p (k + 1)) (T 0 6) && prB T b p (hN T b (T 0 4) (T 0 5) none p (k + 1))) = false → b_X11_listen_99 Q (fun v1 v2 v3 M => b_X11_listen_53 Q (d + 1) v1 v2 v3 M) (nI b) (nI p) (nI (k + 1)) V2 := by
        rintro e x22 rfl
        rw [nI_1]
        refine ih (k + 1) V2 (by omega) hx2 hH.2.2 (fun U a => ?_)
        have := h U a
        rw [if_neg (by rw [e]; decide)] at this
        exact this
      refine t11_acq hlt (by have := h1.2.2.2.2.2.2.1; omega) hH (ra_of hC2.1) ?_
      cases hq : acqB (hN T b (T 0 4) (T 0 5) none p (k + 1)) (T 0 6)
      · exact ⟨fun _ => nx (by rw [hq]; rfl), fun y => absurd rfl y⟩
      · refine ⟨fun y => absurd y z1n, fun _ => t11_true h1 hb hp hC2.1 hH ?_⟩
        cases hr : prB T b p (hN T b (T 0 4) (T 0 5) none p (k + 1))
        · exact ⟨fun _ => nx (by rw [hq, hr]; rfl), fun y => absurd rfl y⟩
        · refine ⟨fun y => absurd y z1n, fun _ => ?_⟩
          have := h V2 hx2
          rw [if_pos (by rw [hq, hr]; rfl)] at this
          exact this
theorem t11_lzero_l {Y : Mem} {v1 v2 : Int32} {Q : Int32 → Mem → Prop} (h : ∀ Z, Z.1 = Y.1 → CellY (fun _ => 0) Z → b_X11_listen_51 Q v1 v2 Z) : ∀ (d c : Nat) (Z : Mem), c + d = 930 → Z.1 = Y.1 → (∀ j, j < c → Z.2.1 53 0 j = lN 0) → b_X11_listen_31 Q (d + 1) v1 v2 (nI c) Z := by
  intro d
  induction d with
  | zero =>
    intro c Z hc h1 h3
    have : c = 930 := by omega
    subst this
    exact ⟨fun _ => h Z h1 h3, fun z => absurd (by decide) z⟩
  | succ d ih =>
    intro c Z hc h1 h3
    refine ⟨fun z => absurd z (by rw [show (930 : Int32) = nI 930 from rfl]; exact nI_ge (by omega) (by omega)), fun _ => ⟨vp_in_nI (by omega) (by omega), ?_⟩⟩
    rintro M2 rfl x3 rfl
    rw [nI_1, nI_clamp (by omega)]
    refine ih (c + 1) _ (by omega) h1 (fun j hj => ?_)
    by_cases hjc : j = c
    · rw [hjc, sL_s]; rfl
    · rw [sL_n (by omega)]; exact h3 j (by omega)
theorem op_14 (X Y : Mem) (a1 a2 : Int32) (hR : Rel X Y) : p_X10_listen a1 a2 X (fun r X1 => p_X11_listen a1 a2 Y (fun r1 Y1 => r = r1 ∧ Rel X1 Y1)) := by
  obtain ⟨T, w, h1, h2, h3, h4, h5, h6, h7, h8, h9, h10, h11, h12, h13⟩ := id hR
  have hnb := h1.1
  have hYb : (sI Y 40 0 2 0).1 40 0 11 = nI (T 0 0) := by rw [sI_n (by omega)]; exact h5.1
  have hC := cY_of h1 h5 h6
  have no : ¬ (inL a1 0 (T 0 0) ∧ inL a2 0 200) → p_X11_listen a1 a2 Y (fun r1 Y1 => -1 = r1 ∧ Rel X Y1) := by
    rintro n M1 rfl
    exact e11_isRange (m := 1) hnb (by decide) (by decide) hYb (fun z => ⟨fun y => absurd rfl y, fun _ => ⟨rfl, hR.th 0⟩⟩) (fun gb gp => absurd ⟨gb, inP_1.mp gp⟩ n)
  refine e10_isBird hnb h2 h3.1 (fun z => ⟨fun _ => no (fun g => z g.1), fun y => absurd rfl y⟩) (fun gb => ⟨fun y => absurd y z1n, fun _ => e10_isPeriod (fun z => ⟨fun y => absurd rfl y, fun _ => no (fun g => z g.2)⟩) (fun gp => ⟨fun _ => ?_, fun y => absurd y z1n⟩)⟩)
  have gg := And.intro gb gp
  obtain ⟨b, _, hb, rfl⟩ := gb
  obtain ⟨p, _, hp, rfl⟩ := gp
  have t2 := (h1.2.2.2.2.2.2.2.2.2.2.2.2.1 b hb).2.2.1
  have hB := h3.2.2.2.2.2.2.2.2.2 b hb
  refine ⟨w, h2.2.1, h2.1, vp_in_nI (by omega) (by omega), ?_⟩
  rw [nI_clamp (by omega)]
  refine t10_isHeard h1 hb hB (fun hh => ⟨fun z => absurd rfl z, fun _ => ?_⟩) (fun hh => ⟨fun _ => ?_, fun z => absurd z z1n⟩)
  · rintro M1 rfl
    refine e11_isRange (m := 1) hnb (by decide) (by decide) hYb (fun z => absurd ⟨gg.1, inP_1.mpr gg.2⟩ z) (fun _ _ => ⟨fun _ => t11_birdOf (k := 2) (by omega) (by decide) (by omega) ?_, fun y => absurd y z1n⟩)
    rw [hC.1.2.2.1 b 2 hb (by decide), hh]
    exact ⟨fun z => absurd rfl z, fun _ => ⟨rfl, hR.th 0⟩⟩
  · refine t10_begin (fun Z e1 e2 e3 => ⟨5, t10_listen_l h1 hb hp ⟨h2, h3, h4⟩ 4 0 Z rfl ⟨fun f i k e => e2 f i k (by omega), fun _ _ _ _ => by rw [e1], by rw [e1]⟩ (h13.ag ⟨e2 5 0 4 (by decide), fun k => e2 6 0 k (by decide), fun k => e2 7 0 k (by decide)⟩) e3 (fun V hx hc => ?_)⟩)
    rintro M1 rfl
    refine e11_isRange (m := 1) hnb (by decide) (by decide) hYb (fun z => absurd ⟨gg.1, inP_1.mpr gg.2⟩ z) (fun _ _ => ⟨fun _ => t11_birdOf (k := 2) (by omega) (by decide) (by omega) ?_, fun y => absurd y z1n⟩)
    rw [hC.1.2.2.1 b 2 hb (by decide), hh]
    refine ⟨fun _ => ⟨931, t11_lzero_l (Y := sI Y 40 0 2 0) (fun U q1 q2 => ⟨5, ?_⟩) 930 0 _ rfl rfl (fun j hj => absurd hj (by omega))⟩, fun z => absurd z z1n⟩
    exact t11_listen_l h1 hb hp hC (nsY_of h6) 4 0 U rfl (fun _ _ _ _ _ => by rw [q1]) q2 (fun V2 hV2 => ⟨rfl, relE h1 h2 h3 h4 h5 h6 h7 h8 h9 h10 h11 h12 hx hc hV2⟩)
