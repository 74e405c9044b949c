/-! ops 32, 33, 34, 35 -/
theorem rg_of {T : Txt} {X Y : Mem} (h9 : StR (T 0 0) X 0 Y 0) : ∃ Rg, RgB Rg ∧ RgX Rg X ∧ RgY Rg Y := by
  obtain ⟨n, -, -, -, -, h5⟩ := h9
  have : ∀ b, ∃ o : Option Nat, (b < 5 → X.1 29 0 b = oI o ∧ Y.1 54 0 (293 + b) = oI o) ∧ ∀ r, o = some r → r < 401 := fun b => by
    by_cases hb : b < 5
    · obtain ⟨e, v, _⟩ := h5 b hb
      rw [show 298 * 0 + 293 + b = 293 + b from by omega] at e
      rcases v with v | ⟨r, hr, v⟩
      · exact ⟨none, fun _ => ⟨v, e.symm.trans v⟩, fun r z => by cases z⟩
      · exact ⟨some r, fun _ => ⟨v, e.symm.trans v⟩, fun r' z => by cases z; exact hr⟩
    · exact ⟨none, fun z => absurd z hb, fun r z => by cases z⟩
  obtain ⟨Rg, hRg⟩ := Classical.skolem.mp this
  exact ⟨Rg, fun b r e => (hRg b).2 r e, fun b hb => ((hRg b).1 hb).1, fun b hb => ((hRg b).1 hb).2⟩
theorem us_none {T : Txt} {Rg : Nat → Option Nat} (n : Nat) : (usL T Rg none n).length = ct (rgd T Rg) n := by
  unfold usL
  rw [len_fil]
  exact ct_cong (fun k _ => by unfold okB; exact Bool.and_true _)
theorem ct_but {p q : Nat → Bool} {b : Nat} (hp : p b = true) (hq : q b = false) (hpq : ∀ k, k ≠ b → p k = q k) : ∀ n, ct p n = ct q n + (if b < n then 1 else 0)
  | 0 => rfl
  | n + 1 => by
    rw [ct, ct, ct_but hp hq hpq n]
    by_cases e : n = b
    · subst e
      rw [hp, hq, if_neg (Nat.lt_irrefl n), if_pos (Nat.lt_succ_self n)]; rfl
    · rw [hpq n e]
      by_cases y : b < n
      · rw [if_pos y, if_pos (show b < n + 1 by omega)]; omega
      · rw [if_neg y, if_neg (show ¬ b < n + 1 by omega)]; omega
theorem us_some {T : Txt} {Rg : Nat → Option Nat} {b n : Nat} (hb : b < n) (hr : rgd T Rg b = true) : ct (rgd T Rg) n = (usL T Rg (some b) n).length + 1 := by
  unfold usL
  rw [len_fil]
  have := ct_but (p := rgd T Rg) (q := okB T Rg (some b)) (b := b) hr (by unfold okB; simp) (fun k hk => by
    unfold okB
    rw [show ((some b : Option Nat) == some k) = false from by rw [beq_eq_false_iff_ne]; intro z; cases z; exact hk rfl]
    exact (Bool.and_true _).symm) n
  rw [if_pos hb] at this
  exact this
theorem us_skip {T : Txt} {Rg : Nat → Option Nat} {b n : Nat} (hr : rgd T Rg b = false) : (usL T Rg (some b) n).length = ct (rgd T Rg) n := by
  unfold usL
  rw [len_fil]
  refine ct_cong (fun k _ => ?_)
  unfold okB
  by_cases e : k = b
  · subst e; rw [hr]; rfl
  · rw [show ((some b : Option Nat) == some k) = false from by rw [beq_eq_false_iff_ne]; intro z; cases z; exact e rfl]
    exact Bool.and_true _
noncomputable def fxV (T : Txt) (Rg : Nat → Option Nat) (l : List Nat) (j : Nat) : Int32 :=
  if j = 0 then nI (bk (pR T Rg l) 4096 / 256) else if j = 1 then nI (bk (pR T Rg l) 4096 / 16 % 16) else if j = 2 then nI (bk (pR T Rg l) 4096 % 16) else if j = 3 then nI (pC T Rg l (bk (pR T Rg l) 4096)) else iI (pR T Rg l (bk (pR T Rg l) 4096))
theorem t10_told {T : Txt} {Rg : Nat → Option Nat} {l : List Nat} {lim : Int} {j : Nat} (hj : j < 5) {Z : Mem} (hS : SIx (pR T Rg l) (pC T Rg l) lim 4096 Z) {Q : Int32 → Mem → Prop} (h : Q (fxV T Rg l j) Z) : p_X7_told (nI j) Z Q := by
  obtain ⟨s1, s2, -⟩ := hS
  obtain ⟨q0, q1, q2, q3⟩ := s2 (by decide)
  rw [if_neg (by decide)] at s1
  have : j = 0 ∨ j = 1 ∨ j = 2 ∨ j = 3 ∨ j = 4 := by omega
  unfold p_X7_told
  rw [q0, q1, q2, q3, s1]
  rcases this with rfl | rfl | rfl | rfl | rfl
  · exact ⟨fun _ => h, fun y => absurd y (by decide), fun y => absurd y (by decide), fun y => absurd y (by decide), fun y _ _ _ => absurd rfl y⟩
  · exact ⟨fun y => absurd y (by decide), fun _ => h, fun y => absurd y (by decide), fun y => absurd y (by decide), fun _ y _ _ => absurd rfl y⟩
  · exact ⟨fun y => absurd y (by decide), fun y => absurd y (by decide), fun _ => h, fun y => absurd y (by decide), fun _ _ y _ => absurd rfl y⟩
  · exact ⟨fun y => absurd y (by decide), fun y => absurd y (by decide), fun y => absurd y (by decide), fun _ => h, fun _ _ _ y => absurd rfl y⟩
  · exact ⟨fun y => absurd y (by decide), fun y => absurd y (by decide), fun y => absurd y (by decide), fun y => absurd y (by decide), fun _ _ _ _ => h⟩
theorem y_told {T : Txt} {Rg : Nat → Option Nat} {l : List Nat} {j : Nat} (hj : j < 5) {Z : Mem} (hS : SIy (pR T Rg l) (pC T Rg l) 4096 Z) : Z.1 58 0 (nI j).toNatClampNeg = fxV T Rg l j := by
  obtain ⟨s1, s2⟩ := hS
  obtain ⟨q0, q1, q2, q3⟩ := s2 (by decide)
  rw [if_neg (by decide)] at s1
  rw [nI_clamp (by omega)]
  have : j = 0 ∨ j = 1 ∨ j = 2 ∨ j = 3 ∨ j = 4 := by omega
  rcases this with rfl | rfl | rfl | rfl | rfl
  · exact q0
  · exact q1
  · exact q2
  · exact q3
  · exact s1
theorem us_lm {T : Txt} {Rg : Nat → Option Nat} {but : Option Nat} : ∀ b ∈ usL T Rg but (T 0 0), b < T 0 0 ∧ T (1 + b) 10 = 1 := fun b hb => ⟨(us_mem hb).1, ok_pl (us_mem hb).2⟩
theorem us_5 {T : Txt} {Rg : Nat → Option Nat} {but : Option Nat} (h1 : TB T) : (usL T Rg but (T 0 0)).length ≤ 5 := by
  unfold usL
  rw [len_fil]
  have := ct_le (okB T Rg but) (T 0 0)
  have := h1.1
  omega
/-- op 32: fix -/
theorem op_32 (X Y : Mem) (a1 : Int32) (hR : Rel X Y) : p_X10_fix a1 X (fun r X1 => p_X11_fix a1 Y (fun r1 Y1 => r = r1 ∧ Rel X1 Y1)) := by
  obtain ⟨T, w, h1, h2, h3, h4, h5, h6, h7, h8, h9, h10, h11, h12, h13⟩ := id hR
  obtain ⟨Rg, hRB, hRX, hRY⟩ := rg_of h9
  have h5' : TYr T (sI Y 40 0 2 0) := h5.ag h1 (AgYt.set rfl)
  have hb' : (sI Y 40 0 2 0).1 40 0 35 = 0 := by rw [sI_n (by omega)]; exact h6.1
  have hRY' : RgY Rg (sI Y 40 0 2 0) := fun b hb => by rw [sI_n (by omega)]; exact hRY b hb
  have ym : ∀ {Q : Int32 → Mem → Prop}, (¬ inL a1 0 5 → Q (-1) (sI Y 40 0 2 0)) → (inL a1 0 5 → (4 ≤ ct (rgd T Rg) (T 0 0) → (p_X11_layFix (-1) (sI Y 40 0 2 0) (fun M6 => (vp_in a1 5 ∧ (Q (M6.1 58 0 (a1 : Int32).toNatClampNeg) M6))))) ∧ (¬ 4 ≤ ct (rgd T Rg) (T 0 0) → Q (-2) (sI Y 40 0 2 0))) → p_X11_fix a1 Y Q := by
    intro Q q0 q1
    rintro M1 rfl
    refine e_isIn (lo := 0) (m := 4) (n := 5) (by decide) rfl (by decide) (fun z => ⟨fun y => absurd rfl y, fun _ => q0 z⟩) (fun g => ⟨fun _ => t11_ranged h1 hRB h5' hb' hRY' ?_, fun y => absurd y z1n⟩)
    have := ct_le (rgd T Rg) (T 0 0)
    have := h1.1
    rw [show (4 : Int32) = nI 4 from rfl, nI_leI (by decide) (by omega)]
    exact q1 g
  have no : ¬ inL a1 0 5 → p_X11_fix a1 Y (fun r1 Y1 => -1 = r1 ∧ Rel X Y1) := fun n => ym (fun _ => ⟨rfl, hR.th 0⟩) (fun g => absurd g n)
  refine ⟨fun z => no (inL_lo (by decide) z), fun z1 => ⟨fun z2 => ?_, fun z => no (inL_gt (m := 4) (by decide) rfl (Int32.not_le.mp z))⟩⟩
  have gg : inL a1 0 5 := inL_mk' (m := 4) (by decide) rfl z1 (Int32.not_lt.mpr z2) (by decide)
  have gg' := gg
  obtain ⟨j, _, hj, rfl⟩ := gg
  have hlen := us_none (T := T) (Rg := Rg) (T 0 0)
  have hl5 := us_5 (T := T) (Rg := Rg) (but := none) h1
  refine ⟨w, h2.2.1, h2.1, t10_gather (but := none) h1 (fun o e => by cases e) hRB ⟨h2, h3, h4⟩ hRX (fun Z hg hl => ?_)⟩
  rw [hl.1, show (4 : Int32) = nI 4 from rfl, nI_leI (by decide) (by omega)]
  refine ⟨fun y => ?_, fun y => ?_⟩
  · refine t10_solve (lim := 0) h1 hRB (by omega) hl5 us_lm (by decide) (hg.cw ⟨h2, h3, h4⟩) (h12.ag hg.ag.t) hl (fun Z' hF hS => t10_told hj hS ?_)
    refine ym (fun n => absurd gg' n) (fun _ => ⟨fun _ => ?_, fun x => absurd (by omega) x⟩)
    refine t11_layFix (but := none) h1 hRB (fun o e => by cases e) (by omega) h5' hb' hRY' h12 (fun V hV hSy => ⟨vp_in_nI (by omega) (by omega), ?_, ?_⟩)
    · rw [y_told hj hSy]
    · exact Rel.mk2 (hg.tr hF.gs).ag ((AgY.set rfl).tr hV.ag) h1 h2 h3 h4 h5 h6 h7 h8 h9 h10 h11 h12 (h13.ag (hg.tr hF.gs).c)
  · refine ym (fun n => absurd gg' n) (fun _ => ⟨fun x => absurd x (by omega), fun _ => ⟨rfl, Rel.ag hg.ag hg.c (AgY.rf _) (hR.th 0)⟩⟩)
theorem t10_hasBoth {T : Txt} {w b : Nat} {Rg : Nat → Option Nat} (h1 : TB T) (hb : b < T 0 0) (hRB : RgB Rg) {X : Mem} (hW : CW T w X) (hRX : RgX Rg X) {Q : Int32 → Mem → Prop} (h : Q (bitV (rgd T Rg b)) X) : p_X10_hasBoth (nI b) X Q := by
  have hnb := h1.1
  have hB := hW.2.1.2.2.2.2.2.2.2.2.2 b hb
  have t10 := (h1.2.2.2.2.2.2.2.2.2.2.2.2.1 b hb).2.2.2.2.2.2.2.2.2.2.1
  have ib : vp_in (nI b) 5 := vp_in_nI (by omega) (by omega)
  refine ⟨w, hW.1.2.1, hW.1.1, ib, ?_⟩
  rw [nI_clamp (by omega), hB.2.2.2.2.2.2.2.1, hRX b (by omega)]
  unfold rgd plB at h
  refine ⟨fun y => ?_, fun y => ⟨ib, fun x => ?_, fun x => ?_⟩⟩
  · have e0 := (nI_eq0 (by omega)).mp y
    rw [e0] at h; exact h
  · have e0 := (oI_m1 (hRB b)).mp x
    rw [e0, Bool.and_false] at h; exact h
  · have e1 : T (1 + b) 10 = 1 := by
      have : T (1 + b) 10 ≠ 0 := fun w => y (by rw [w]; rfl)
      omega
    have e2 : (Rg b).isSome = true := by
      cases q : (Rg b).isSome
      · exact absurd ((oI_m1 (hRB b)).mpr q) x
      · rfl
    rw [e1, e2] at h; exact h
theorem RgX.gs {Rg : Nat → Option Nat} {X Z : Mem} (h : GS X Z) (H : RgX Rg X) : RgX Rg Z := fun b hb => (h.1 29 0 b (by decide) (by decide)).trans (H b hb)
/-- op 33: fixWithout -/
theorem op_33 (X Y : Mem) (a1 a2 : Int32) (hR : Rel X Y) : p_X10_fixWithout a1 a2 X (fun r X1 => p_X11_fixWithout a1 a2 Y (fun r1 Y1 => r = r1 ∧ Rel X1 Y1)) := by
  obtain ⟨T, w, h1, h2, h3, h4, h5, h6, h7, h8, h9, h10, h11, h12, h13⟩ := id hR
  have hnb := h1.1
  obtain ⟨Rg, hRB, hRX, hRY⟩ := rg_of h9
  have hYb : (sI Y 40 0 2 0).1 40 0 11 = nI (T 0 0) := by rw [sI_n (by omega)]; exact h5.1
  have h5' : TYr T (sI Y 40 0 2 0) := h5.ag h1 (AgYt.set rfl)
  have hb' : (sI Y 40 0 2 0).1 40 0 35 = 0 := by rw [sI_n (by omega)]; exact h6.1
  have hRY' : RgY Rg (sI Y 40 0 2 0) := fun b hb => by rw [sI_n (by omega)]; exact hRY b hb
  have ym : ∀ {Q : Int32 → Mem → Prop}, (¬ (inL a1 0 (T 0 0) ∧ inL a2 0 5) → Q (-1) (sI Y 40 0 2 0)) → (∀ b, b < T 0 0 → a1 = nI b → inL a2 0 5 → (rgd T Rg b = true → 5 ≤ ct (rgd T Rg) (T 0 0) → (p_X11_layFix a1 (sI Y 40 0 2 0) (fun M10 => (vp_in a2 5 ∧ (Q (M10.1 58 0 (a2 : Int32).toNatClampNeg) M10))))) ∧ ((rgd T Rg b = false ∨ ¬ 5 ≤ ct (rgd T Rg) (T 0 0)) → Q (-2) (sI Y 40 0 2 0))) → p_X11_fixWithout a1 a2 Y Q := by
    intro Q q0 q1
    rintro M1 rfl
    refine e11_isBird hnb hYb (fun z => ⟨fun _ => q0 (fun g => z g.1), fun y => absurd rfl y⟩) (fun ga => ⟨fun y => absurd y z1n, fun _ => e_isIn (lo := 0) (m := 4) (n := 5) (by decide) rfl (by decide) (fun z => ⟨fun y => absurd rfl y, fun _ => q0 (fun g => z g.2)⟩) (fun g => ⟨fun _ => ?_, fun y => absurd y z1n⟩)⟩)
    obtain ⟨b, _, hb, rfl⟩ := ga
    refine t11_isRanged h1 hb hRB h5' hb' hRY' ?_
    obtain ⟨u1, u2⟩ := q1 b hb rfl g
    cases e : rgd T Rg b
    · exact ⟨fun _ => u2 (Or.inl e), fun y => absurd rfl y⟩
    · refine ⟨fun y => absurd y (by decide), fun _ => t11_ranged h1 hRB h5' hb' hRY' ?_⟩
      have := ct_le (rgd T Rg) (T 0 0)
      rw [show (5 : Int32) = nI 5 from rfl, nI_leI (by decide) (by omega)]
      exact ⟨fun y => u1 e y, fun y => u2 (Or.inr y)⟩
  have no : ¬ (inL a1 0 (T 0 0) ∧ inL a2 0 5) → p_X11_fixWithout a1 a2 Y (fun r1 Y1 => -1 = r1 ∧ Rel X Y1) := fun n => ym (fun _ => ⟨rfl, hR.th 0⟩) (fun b hb e g => absurd ⟨⟨b, Nat.zero_le _, hb, e⟩, g⟩ n)
  refine e10_isBird hnb h2 h3.1 (fun z => ⟨fun _ => no (fun g => z g.1), fun y => absurd rfl y⟩) (fun ga => ⟨fun y => absurd y z1n, fun _ => ⟨fun z => no (fun g => inL_lo (by decide) z g.2), fun z1 => ⟨fun z2 => ?_, fun z => no (fun g => inL_gt (m := 4) (by decide) rfl (Int32.not_le.mp z) g.2)⟩⟩⟩)
  have gb : inL a2 0 5 := inL_mk' (m := 4) (by decide) rfl z1 (Int32.not_lt.mpr z2) (by decide)
  have gg := And.intro ga gb
  obtain ⟨b, _, hb, rfl⟩ := ga
  obtain ⟨j, _, hj, rfl⟩ := gb
  have hl5 := us_5 (T := T) (Rg := Rg) (but := some b) h1
  have b5 : ∀ o, (some b : Option Nat) = some o → o < 5 := fun o e => by cases e; omega
  refine ⟨w, h2.2.1, h2.1, t10_gather (but := some b) h1 b5 hRB ⟨h2, h3, h4⟩ hRX (fun Z hg hl => ?_)⟩
  refine t10_hasBoth h1 hb hRB (hg.cw ⟨h2, h3, h4⟩) (hRX.gs hg) ?_
  have neg2 : (rgd T Rg b = false ∨ ¬ 5 ≤ ct (rgd T Rg) (T 0 0)) → p_X11_fixWithout (nI b) (nI j) Y (fun r1 Y1 => -2 = r1 ∧ Rel Z Y1) := fun hz => ym (fun n => absurd gg n) (fun b' hb' e g => by
    have : b' = b := (nI_eq (by omega) (by omega)).mp e.symm
    subst this
    exact ⟨fun e1 e2 => (hz.elim (fun q => Bool.noConfusion (q.symm.trans e1)) (fun q => absurd e2 q)), fun _ => ⟨rfl, Rel.ag hg.ag hg.c (AgY.rf _) (hR.th 0)⟩⟩)
  cases e : rgd T Rg b
  · exact ⟨fun _ => neg2 (Or.inl e), fun y => absurd rfl y⟩
  · have hlen := us_some hb e
    refine ⟨fun y => absurd y (by decide), fun _ => ?_⟩
    rw [hl.1, show (4 : Int32) = nI 4 from rfl, nI_leI (by decide) (by omega)]
    refine ⟨fun y => ?_, fun y => neg2 (Or.inr (by omega))⟩
    refine t10_solve (lim := 0) h1 hRB (by omega) hl5 us_lm (by decide) (hg.cw ⟨h2, h3, h4⟩) (h12.ag hg.ag.t) hl (fun Z' hF hS => t10_told hj hS ?_)
    refine ym (fun n => absurd gg n) (fun b' hb'' e' g => ?_)
    have : b' = b := (nI_eq (by omega) (by omega)).mp e'.symm
    subst this
    refine ⟨fun _ _ => ?_, fun x => (x.elim (fun q => Bool.noConfusion (q.symm.trans e)) (fun q => absurd (by omega) q))⟩
    refine t11_layFix (but := some b') h1 hRB b5 (by omega) h5' hb' hRY' h12 (fun V hV hSy => ⟨vp_in_nI (by omega) (by omega), ?_, ?_⟩)
    · rw [y_told hj hSy]
    · exact Rel.mk2 (hg.tr hF.gs).ag ((AgY.set rfl).tr hV.ag) h1 h2 h3 h4 h5 h6 h7 h8 h9 h10 h11 h12 (h13.ag (hg.tr hF.gs).c)
/-- op 35: spread -/
theorem op_35 (X Y : Mem) (a1 : Int32) (hR : Rel X Y) : p_X10_spread a1 X (fun r X1 => p_X11_spread a1 Y (fun r1 Y1 => r = r1 ∧ Rel X1 Y1)) := by
  obtain ⟨T, w, h1, h2, h3, h4, h5, h6, h7, h8, h9, h10, h11, h12, h13⟩ := id hR
  obtain ⟨Rg, hRB, hRX, hRY⟩ := rg_of h9
  have h5' : TYr T (sI Y 40 0 2 0) := h5.ag h1 (AgYt.set rfl)
  have hb' : (sI Y 40 0 2 0).1 40 0 35 = 0 := by rw [sI_n (by omega)]; exact h6.1
  have hRY' : RgY Rg (sI Y 40 0 2 0) := fun b hb => by rw [sI_n (by omega)]; exact hRY b hb
  have ym : ∀ {Q : Int32 → Mem → Prop}, (¬ inL a1 0 10000 → Q (-1) (sI Y 40 0 2 0)) → (inL a1 0 10000 → (4 ≤ ct (rgd T Rg) (T 0 0) → (∃ n33 : Nat, b_X11_spread_33 Q n33 a1 0 0 (sI Y 40 0 2 0))) ∧ (¬ 4 ≤ ct (rgd T Rg) (T 0 0) → Q (-2) (sI Y 40 0 2 0))) → p_X11_spread a1 Y Q := by
    intro Q q0 q1
    rintro M1 rfl
    refine e_isIn (lo := 0) (m := 9999) (n := 10000) (by decide) rfl (by decide) (fun z => ⟨fun y => absurd rfl y, fun _ => q0 z⟩) (fun g => ⟨fun _ => t11_ranged h1 hRB h5' hb' hRY' ?_, fun y => absurd y z1n⟩)
    have := ct_le (rgd T Rg) (T 0 0)
    have := h1.1
    rw [show (4 : Int32) = nI 4 from rfl, nI_leI (by decide) (by omega)]
    exact q1 g
  have no : ¬ inL a1 0 10000 → p_X11_spread a1 Y (fun r1 Y1 => -1 = r1 ∧ Rel X Y1) := fun n => ym (fun _ => ⟨rfl, hR.th 0⟩) (fun g => absurd g n)
  refine ⟨fun z => no (inL_lo (by decide) z), fun z1 => ⟨fun z2 => ?_, fun z => no (inL_gt (m := 9999) (by decide) rfl (Int32.not_le.mp z))⟩⟩
  have gg : inL a1 0 10000 := inL_mk' (m := 9999) (by decide) rfl z1 (Int32.not_lt.mpr z2) (by decide)
  have gg' := gg
  obtain ⟨lim, _, hlim, rfl⟩ := gg
  have hlen := us_none (T := T) (Rg := Rg) (T 0 0)
  have hl5 := us_5 (T := T) (Rg := Rg) (but := none) h1
  refine ⟨w, h2.2.1, h2.1, t10_gather (but := none) h1 (fun o e => by cases e) hRB ⟨h2, h3, h4⟩ hRX (fun Z hg hl => ?_)⟩
  rw [hl.1, show (4 : Int32) = nI 4 from rfl, nI_leI (by decide) (by omega)]
  refine ⟨fun y => ?_, fun y => ?_⟩
  · refine t10_solve (lim := lim) h1 hRB (by omega) hl5 us_lm hlim (hg.cw ⟨h2, h3, h4⟩) (h12.ag hg.ag.t) hl (fun Z' hF hS => ?_)
    rw [hS.2.2]
    refine ym (fun n => absurd gg' n) (fun _ => ⟨fun _ => ?_, fun x => absurd (by omega) x⟩)
    have hRb : ∀ k, k < 4096 → 0 ≤ pR T Rg (usL T Rg none (T 0 0)) k ∧ pR T Rg (usL T Rg none (T 0 0)) k < 5000000 := fun k hk => ⟨resZ_nn _ _, (resZ_lt hl5 (fun b hb => lf_b h1 (us_mem hb).1 (by omega) (by omega) (by omega) hRB h12)).2⟩
    have go : ∀ (d k : Nat) (V : Mem), k + d = 4096 → F44 (sI Y 40 0 2 0) V → b_X11_spread_33 (fun r1 Y1 => nI (ct (fun j => decide (pR T Rg (usL T Rg none (T 0 0)) j ≤ (lim : Int))) 4096) = r1 ∧ Rel Z' Y1) (d + 1) (nI lim) (nI (ct (fun j => decide (pR T Rg (usL T Rg none (T 0 0)) j ≤ (lim : Int))) k)) (nI k) V := by
      intro d
      induction d with
      | zero =>
        intro k V hk hV
        have : k = 4096 := by omega
        subst this
        exact ⟨fun _ => ⟨rfl, Rel.mk2 (hg.tr hF.gs).ag ((AgY.set rfl).tr hV.yt) h1 h2 h3 h4 h5 h6 h7 h8 h9 h10 h11 h12 (h13.ag (hg.tr hF.gs).c)⟩, fun z => absurd (by decide) z⟩
      | succ d ih =>
        intro k V hk hV
        obtain ⟨e1, e2, e3⟩ := pt_e (k := k) (by omega)
        refine ⟨fun z => absurd z (by rw [show (4096 : Int32) = nI 4096 from rfl]; exact nI_ge (by omega) (by omega)), fun _ => ?_⟩
        rw [e1, e2, e3]
        refine t11_rest (but := none) h1 hRB (fun o e => by cases e) (by omega) (by omega) (h5'.ag h1 hV.yt.t) ((hV 40 0 35 (by omega)).trans hb') (hRY'.fl hV.fl) h12 (fun V2 hV2 hc => ?_)
        have g := ih (k + 1) V2 (by omega) (fun f i j e => (hV2 f i j e).trans (hV f i j e))
        have ec : ct (fun j => decide (pR T Rg (usL T Rg none (T 0 0)) j ≤ (lim : Int))) (k + 1) = ct (fun j => decide (pR T Rg (usL T Rg none (T 0 0)) j ≤ (lim : Int))) k + (if decide (pR T Rg (usL T Rg none (T 0 0)) k ≤ (lim : Int)) = true then 1 else 0) := rfl
        rw [ec] at g
        have hk1 := hRb k (by omega)
        have cl : nI lim < iI (pR T Rg (usL T Rg none (T 0 0)) k) ↔ (lim : Int) < pR T Rg (usL T Rg none (T 0 0)) k := by rw [Int32.lt_iff_toInt_lt, iI_t (by omega) (by omega), nI_toInt (by omega)]
        refine ⟨fun y => ?_, fun y => ?_⟩
        · have y' := cl.mp y
          rintro x9 rfl x10 rfl
          rw [nI_1, Int32.add_zero]
          rw [decide_eq_false (by omega)] at g
          exact g
        · have y' : ¬ (lim : Int) < pR T Rg (usL T Rg none (T 0 0)) k := fun z => y (cl.mpr z)
          rintro x9 rfl x10 rfl
          rw [nI_1, nI_1]
          rw [decide_eq_true (by omega)] at g
          exact g
    exact ⟨4097, go 4096 0 _ rfl (fun _ _ _ _ => rfl)⟩
  · refine ym (fun n => absurd gg' n) (fun _ => ⟨fun x => absurd x (by omega), fun _ => ⟨rfl, Rel.ag hg.ag hg.c (AgY.rf _) (hR.th 0)⟩⟩)
/-- op 34: suspect -/
noncomputable def suR (T : Txt) (Rg : Nat → Option Nat) : Nat → Option (Nat × Int)
  | 0 => none
  | b + 1 => if rgd T Rg b then (match suR T Rg b with
      | none => some (b, pR T Rg (usL T Rg (some b) (T 0 0)) (bk (pR T Rg (usL T Rg (some b) (T 0 0))) 4096))
      | some (c, r) => if pR T Rg (usL T Rg (some b) (T 0 0)) (bk (pR T Rg (usL T Rg (some b) (T 0 0))) 4096) < r then some (b, pR T Rg (usL T Rg (some b) (T 0 0)) (bk (pR T Rg (usL T Rg (some b) (T 0 0))) 4096)) else some (c, r))
    else suR T Rg b
def suB : Option (Nat × Int) → Int32
  | none => -1
  | some (b, _) => nI b
def suL : Option (Nat × Int) → Int32
  | none => 0
  | some (_, r) => iI r
theorem su_b {T : Txt} {Rg : Nat → Option Nat} (hR : ∀ b, b < T 0 0 → 0 ≤ pR T Rg (usL T Rg (some b) (T 0 0)) (bk (pR T Rg (usL T Rg (some b) (T 0 0))) 4096) ∧ pR T Rg (usL T Rg (some b) (T 0 0)) (bk (pR T Rg (usL T Rg (some b) (T 0 0))) 4096) < 5000000) : ∀ n, n ≤ T 0 0 → ∀ c r, suR T Rg n = some (c, r) → c < n ∧ 0 ≤ r ∧ r < 5000000
  | 0, _, c, r, h => by cases h
  | n + 1, hn, c, r, h => by
    have ih := su_b hR n (by omega)
    have hb := hR n (by omega)
    rw [suR] at h
    split at h
    · split at h
      · cases h; exact ⟨Nat.lt_succ_self _, hb⟩
      · rename_i c' r' e
        obtain ⟨q1, q2⟩ := ih c' r' e
        split at h
        · cases h; exact ⟨Nat.lt_succ_self _, hb⟩
        · cases h; exact ⟨by omega, q2⟩
    · obtain ⟨q1, q2⟩ := ih c r h
      exact ⟨by omega, q2⟩
theorem op_34 (X Y : Mem) (hR : Rel X Y) : p_X10_suspect X (fun r X1 => p_X11_suspect Y (fun r1 Y1 => r = r1 ∧ Rel X1 Y1)) := by
  obtain ⟨T, w, h1, h2, h3, h4, h5, h6, h7, h8, h9, h10, h11, h12, h13⟩ := id hR
  have hnb := h1.1
  obtain ⟨Rg, hRB, hRX, hRY⟩ := rg_of h9
  have h5' : TYr T (sI Y 40 0 2 0) := h5.ag h1 (AgYt.set rfl)
  have hb' : (sI Y 40 0 2 0).1 40 0 35 = 0 := by rw [sI_n (by omega)]; exact h6.1
  have hRY' : RgY Rg (sI Y 40 0 2 0) := fun b hb => by rw [sI_n (by omega)]; exact hRY b hb
  have hct := ct_le (rgd T Rg) (T 0 0)
  have ym : ∀ {Q : Int32 → Mem → Prop}, (5 ≤ ct (rgd T Rg) (T 0 0) → (∃ n22 : Nat, b_X11_suspect_22 Q n22 (-1) 0 0 (sI Y 40 0 2 0))) → (¬ 5 ≤ ct (rgd T Rg) (T 0 0) → Q (-2) (sI Y 40 0 2 0)) → p_X11_suspect Y Q := by
    intro Q q0 q1
    rintro M1 rfl
    refine t11_ranged h1 hRB h5' hb' hRY' ?_
    rw [show (5 : Int32) = nI 5 from rfl, nI_leI (by decide) (by omega)]
    exact ⟨q0, q1⟩
  have hlen := us_none (T := T) (Rg := Rg) (T 0 0)
  have b5 : ∀ b, b < T 0 0 → ∀ o, (some b : Option Nat) = some o → o < 5 := fun b hb o e => by cases e; omega
  have hRb : ∀ b, b < T 0 0 → 0 ≤ pR T Rg (usL T Rg (some b) (T 0 0)) (bk (pR T Rg (usL T Rg (some b) (T 0 0))) 4096) ∧ pR T Rg (usL T Rg (some b) (T 0 0)) (bk (pR T Rg (usL T Rg (some b) (T 0 0))) 4096) < 5000000 := fun b hb => by
    have hbk := bk_lt (pR T Rg (usL T Rg (some b) (T 0 0))) 4096 (by decide)
    exact ⟨resZ_nn _ _, (resZ_lt (us_5 h1) (fun c hc => lf_b h1 (us_mem hc).1 (by omega) (by omega) (by omega) hRB h12)).2⟩
  have sb := su_b hRb
  refine ⟨w, h2.2.1, h2.1, t10_gather (but := none) h1 (fun o e => by cases e) hRB ⟨h2, h3, h4⟩ hRX (fun Z hg hl => ?_)⟩
  rw [hl.1, show (5 : Int32) = nI 5 from rfl, nI_leI (by decide) (by omega)]
  refine ⟨fun y => ?_, fun y => ym (fun x => absurd x (by omega)) (fun _ => ⟨rfl, Rel.ag hg.ag hg.c (AgY.rf _) (hR.th 0)⟩)⟩
  have h5r : 5 ≤ ct (rgd T Rg) (T 0 0) := by omega
  have st4 : ∀ (l : List Nat) (lim : Int) (V : Mem), SIx (pR T Rg l) (pC T Rg l) lim 4096 V → V.1 17 0 1 = iI (pR T Rg l (bk (pR T Rg l) 4096)) := fun l lim V h => by
    have := h.1
    rwa [if_neg (by decide)] at this
  have sy4 : ∀ (l : List Nat) (V : Mem), SIy (pR T Rg l) (pC T Rg l) 4096 V → V.1 58 0 4 = iI (pR T Rg l (bk (pR T Rg l) 4096)) := fun l V h => by
    have := h.1
    rwa [if_neg (by decide)] at this
  have er : ∀ b, suR T Rg (b + 1) = if rgd T Rg b then (match suR T Rg b with
      | none => some (b, pR T Rg (usL T Rg (some b) (T 0 0)) (bk (pR T Rg (usL T Rg (some b) (T 0 0))) 4096))
      | some (c, r) => if pR T Rg (usL T Rg (some b) (T 0 0)) (bk (pR T Rg (usL T Rg (some b) (T 0 0))) 4096) < r then some (b, pR T Rg (usL T Rg (some b) (T 0 0)) (bk (pR T Rg (usL T Rg (some b) (T 0 0))) 4096)) else some (c, r))
    else suR T Rg b := fun _ => rfl
  have goY : ∀ {Q : Int32 → Mem → Prop}, (∀ V, FL (sI Y 40 0 2 0) V → Q (suB (suR T Rg (T 0 0))) V) → ∀ (d b : Nat) (V : Mem), b + d = T 0 0 → FL (sI Y 40 0 2 0) V → b_X11_suspect_22 Q (d + 1) (suB (suR T Rg b)) (suL (suR T Rg b)) (nI b) V := by
    intro Q hq d
    induction d with
    | zero =>
      intro b V hb hV
      have : b = T 0 0 := by omega
      subst this
      exact ⟨fun _ => hq V hV, fun z => absurd (by rw [hV 40 0 11 (by omega) (by omega), h5'.1]; exact Int32.le_refl _) z⟩
    | succ d ih =>
      intro b V hb hV
      have hlt : b < T 0 0 := by omega
      have h5V := h5'.ag h1 hV.ag.t
      have bV := (hV 40 0 35 (by omega) (by omega)).trans hb'
      have rV := hRY'.fl hV
      refine ⟨fun z => absurd z (by rw [h5V.1]; exact nI_ge hlt (by omega)), fun _ => t11_isRanged h1 hlt hRB h5V bV rV ?_⟩
      cases e : rgd T Rg b
      · refine ⟨fun z => absurd rfl z, fun _ => ?_⟩
        rintro x11 rfl
        rw [nI_1]
        have g := ih (b + 1) V (by omega) hV
        rw [er, e] at g
        exact g
      · refine ⟨fun _ => ?_, fun z => absurd z (by decide)⟩
        have hsome := us_some hlt e
        refine t11_layFix (but := some b) h1 hRB (b5 b hlt) (by omega) h5V bV rV h12 (fun V2 hV2 hS2 => ?_)
        have g := ih (b + 1) V2 (by omega) (hV.tr hV2)
        rw [er, e, if_pos rfl] at g
        have v4 := sy4 _ _ hS2
        have hb2 := hRb b hlt
        have set : suR T Rg (b + 1) = some (b, pR T Rg (usL T Rg (some b) (T 0 0)) (bk (pR T Rg (usL T Rg (some b) (T 0 0))) 4096)) → b_X11_suspect_63 Q (fun v1 v2 v3 M => b_X11_suspect_72 Q (fun v1 v2 v3 M => b_X11_suspect_22 Q (d + 1) v1 v2 v3 M) v1 v2 v3 M) (nI b) V2 := by
          intro es
          refine ⟨vp_in_nI (n := 4) (N := 5) (by decide) (by decide), ?_⟩
          rw [show (4 : Int32).toNatClampNeg = 4 from by decide, v4]
          rintro x10 rfl x11 rfl
          rw [nI_1]
          have g2 := ih (b + 1) V2 (by omega) (hV.tr hV2)
          rw [es] at g2
          exact g2
        cases hs : suR T Rg b with
        | none =>
          refine ⟨fun _ => set (by rw [er, e, if_pos rfl, hs]), fun z => absurd (by decide) z⟩
        | some cr =>
          obtain ⟨c, r⟩ := cr
          obtain ⟨q1, q2, q3⟩ := sb b (by omega) c r hs
          refine ⟨fun z => absurd z (nI_pos (by omega)), fun _ => ⟨vp_in_nI (n := 4) (N := 5) (by decide) (by decide), ?_⟩⟩
          rw [show (4 : Int32).toNatClampNeg = 4 from by decide, v4]
          have hl2 : iI (pR T Rg (usL T Rg (some b) (T 0 0)) (bk (pR T Rg (usL T Rg (some b) (T 0 0))) 4096)) < suL (some (c, r)) ↔ pR T Rg (usL T Rg (some b) (T 0 0)) (bk (pR T Rg (usL T Rg (some b) (T 0 0))) 4096) < r := by
            show _ < iI r ↔ _
            rw [Int32.lt_iff_toInt_lt, iI_t (by omega) (by omega), iI_t (by omega) (by omega)]
          rw [hs] at g
          dsimp only at g
          refine ⟨fun z => set (by rw [er, e, if_pos rfl, hs]; dsimp only; rw [if_pos (hl2.mp z)]), fun z => ?_⟩
          rw [if_neg (fun w => z (hl2.mpr w))] at g
          rintro x11 rfl
          rw [nI_1]
          exact g
  have goX : ∀ (d b : Nat) (V : Mem), b + d = T 0 0 → GS X V → b_X10_suspect_36 (fun r X1 => p_X11_suspect Y (fun r1 Y1 => r = r1 ∧ Rel X1 Y1)) (d + 1) (suB (suR T Rg b)) (suL (suR T Rg b)) (nI b) V := by
    intro d
    induction d with
    | zero =>
      intro b V hb hV
      have : b = T 0 0 := by omega
      subst this
      have hW := hV.cw (T := T) (w := w) ⟨h2, h3, h4⟩
      refine ⟨w, hW.1.2.1, hW.1.1, fun _ => ym (fun _ => ⟨T 0 0 + 1, goY (fun V2 hV2 => ⟨rfl, ?_⟩) (T 0 0) 0 _ (by omega) (fun _ _ _ _ _ => rfl)⟩) (fun x => absurd h5r x), fun z => absurd (by rw [hW.2.1.1]; exact Int32.le_refl _) z⟩
      exact Rel.mk2 hV.ag ((AgY.set rfl).tr hV2.ag) h1 h2 h3 h4 h5 h6 h7 h8 h9 h10 h11 h12 (h13.ag hV.c)
    | succ d ih =>
      intro b V hb hV
      have hlt : b < T 0 0 := by omega
      have hW := hV.cw (T := T) (w := w) ⟨h2, h3, h4⟩
      refine ⟨w, hW.1.2.1, hW.1.1, fun z => absurd z (by rw [hW.2.1.1]; exact nI_ge hlt (by omega)), fun _ => t10_hasBoth h1 hlt hRB hW (hRX.gs hV) ?_⟩
      cases e : rgd T Rg b
      · refine ⟨fun _ => ?_, fun z => absurd rfl z⟩
        rintro x8 rfl
        rw [nI_1]
        have g := ih (b + 1) V (by omega) hV
        rw [er, e] at g
        exact g
      · refine ⟨fun z => absurd z (by decide), fun _ => ⟨w, hW.1.2.1, hW.1.1, ?_⟩⟩
        have hsome := us_some hlt e
        refine t10_gather (but := some b) h1 (b5 b hlt) hRB hW (hRX.gs hV) (fun V2 hg2 hl2' => ?_)
        refine t10_solve (lim := 0) h1 hRB (by omega) (us_5 h1) us_lm (by decide) (hg2.cw hW) (h12.ag (hV.tr hg2).ag.t) hl2' (fun V3 hF3 hS3 => ?_)
        have hall := hV.tr (hg2.tr hF3.gs)
        have g := ih (b + 1) V3 (by omega) hall
        have v4 := st4 _ _ _ hS3
        have hb2 := hRb b hlt
        have set : suR T Rg (b + 1) = some (b, pR T Rg (usL T Rg (some b) (T 0 0)) (bk (pR T Rg (usL T Rg (some b) (T 0 0))) 4096)) → b_X10_suspect_95 (fun r X1 => p_X11_suspect Y (fun r1 Y1 => r = r1 ∧ Rel X1 Y1)) (fun v1 v2 v3 M => b_X10_suspect_105 (fun r X1 => p_X11_suspect Y (fun r1 Y1 => r = r1 ∧ Rel X1 Y1)) (fun v1 v2 v3 M => b_X10_suspect_36 (fun r X1 => p_X11_suspect Y (fun r1 Y1 => r = r1 ∧ Rel X1 Y1)) (d + 1) v1 v2 v3 M) v1 v2 v3 M) (nI b) V3 := by
          intro es
          unfold b_X10_suspect_95
          rw [v4]
          rintro x13 rfl x8 rfl
          rw [nI_1]
          have g2 := g
          rw [es] at g2
          exact g2
        rw [er, e, if_pos rfl] at g
        cases hs : suR T Rg b with
        | none =>
          refine ⟨fun _ => set (by rw [er, e, if_pos rfl, hs]), fun z => absurd rfl z⟩
        | some cr =>
          obtain ⟨c, r⟩ := cr
          obtain ⟨q1, q2, q3⟩ := sb b (by omega) c r hs
          have hne : ¬ suB (some (c, r)) = -1 := by
            have : ∀ c, c < 5 → ¬ nI c = -1 := by decide
            exact this c (by omega)
          have hle : suL (some (c, r)) ≤ iI (pR T Rg (usL T Rg (some b) (T 0 0)) (bk (pR T Rg (usL T Rg (some b) (T 0 0))) 4096)) ↔ r ≤ pR T Rg (usL T Rg (some b) (T 0 0)) (bk (pR T Rg (usL T Rg (some b) (T 0 0))) 4096) := by
            show iI r ≤ _ ↔ _
            rw [Int32.le_iff_toInt_le, iI_t (by omega) (by omega), iI_t (by omega) (by omega)]
          rw [v4]
          rw [hs] at g
          dsimp only at g
          refine ⟨fun z => absurd z hne, fun _ => ⟨fun z => ?_, fun z => set ?_⟩⟩
          · have z' := hle.mp z
            rw [if_neg (by omega)] at g
            rintro x8 rfl
            rw [nI_1]
            exact g
          · have z' : ¬ r ≤ pR T Rg (usL T Rg (some b) (T 0 0)) (bk (pR T Rg (usL T Rg (some b) (T 0 0))) 4096) := fun w => z (hle.mpr w)
            rw [er, e, if_pos rfl, hs]
            dsimp only
            rw [if_pos (by omega)]
  exact ⟨T 0 0 + 1, goX (T 0 0) 0 Z (by omega) hg⟩
