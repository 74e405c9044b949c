/-! op 20: lock -/
theorem partsE {T : Txt} {w : Nat} {X Y Z V : Mem} (h1 : TB T) (h2 : RefR w X) (h3 : WXw T w X) (h4 : OutX T w X) (h5 : TYr T Y) (h6 : MYr T Y) (h7 : TapeR X Y) (h8 : FltR X Y) (h9 : StR (T 0 0) X 0 Y 0) (h10 : ImgR (T 0 0) X Y) (h11 : PastR (T 0 0) X Y) (h12 : WaysR X) (hx : AgX X Z) (hy : AgY Y V) : RefR w Z ∧ WXw T w Z ∧ OutX T w Z ∧ TYr T V ∧ MYr T V ∧ TapeR Z V ∧ FltR Z V ∧ StR (T 0 0) Z 0 V 0 ∧ ImgR (T 0 0) Z V ∧ PastR (T 0 0) Z V ∧ WaysR Z :=
  ⟨h2.ag hx.t, h3.ag hx.t, h4.ag hx.t, h5.ag h1 hy.t, h6.ag hy.t, h7.ag hx.t hy.t, h8.ag hx.t hy.t, h9.ag hx hy (by decide) (by decide), h10.ag hx hy, h11.ag hx hy, h12.ag hx.t⟩
theorem m_put {c k : Nat} (h : 73 * c + k < 298) {v : Int32} {Y : Mem} (hb : Y.1 40 0 35 = 0) {Q : Mem → Prop} (q : Q (sI Y 54 0 (73 * c + k) v)) : p_X11_put (nI c) (nI k) v Y Q := by
  unfold p_X11_put
  rw [show (73 : Int32) = nI 73 from rfl, pk_mul, nI_add]
  exact m_lay h hb q
theorem StR.new {nb n0 : Nat} {X Y X2 Y2 : Mem} (hn0 : n0 < 4) (hc : X.1 27 0 1 = nI n0) (H : StR nb X 0 Y 0) (x1 : X2.1 27 0 1 = nI (n0 + 1)) (y1 : Y2.1 54 0 292 = nI (n0 + 1)) (xk : ∀ j k, j < n0 → X2.1 30 j k = X.1 30 j k) (xl : ∀ j, j < n0 → X2.2.1 30 j 8 = X.2.1 30 j 8) (xr : ∀ b, b < 5 → X2.1 29 0 b = X.1 29 0 b) (yk : ∀ k, k < 73 * n0 → Y2.1 54 0 k = Y.1 54 0 k) (yr : ∀ b, b < 5 → Y2.1 54 0 (293 + b) = Y.1 54 0 (293 + b)) (hnew : ChR nb X2 n0 Y2 (73 * n0)) : StR nb X2 0 Y2 0 := by
  obtain ⟨n, h1, h2, h3, h4, h5⟩ := H
  have e : n = n0 := (nI_eq (by omega) (by omega)).mp (h2.symm.trans hc)
  subst e
  refine ⟨n + 1, by omega, x1, y1, fun j hj => ?_, fun b hb => ?_⟩
  · rcases Nat.lt_or_ge j n with y | y
    · have o := h4 j y
      simp only [Nat.mul_zero, Nat.zero_add] at o ⊢
      obtain ⟨c1, c2, c3, c4, c5, c6, c7, c8, m, hm, c9, c10, c11⟩ := o
      have yo : ∀ k, k < 73 → Y2.1 54 0 (73 * j + k) = Y.1 54 0 (73 * j + k) := fun k hk => yk _ (by omega)
      refine ⟨?_, ?_, ?_, ?_, ?_, ?_, ?_, ?_, m, hm, ?_, ?_, fun i hi => ?_⟩
      · have d0 := yo 0 (by decide); simp only [Nat.add_zero] at d0; rw [xk _ _ y, d0]; exact c1
      · rw [xk _ _ y, yo 1 (by decide)]; exact c2
      · rw [xk _ _ y, yo 2 (by decide)]; exact c3
      · rw [xk _ _ y, yo 3 (by decide)]; exact c4
      · rw [xk _ _ y, yo 4 (by decide)]; exact c5
      · rw [xk _ _ y, xk _ _ y, yo 5 (by decide)]; exact c6
      · rw [xk _ _ y, yo 6 (by decide), yo 7 (by decide)]; exact c7
      · rw [xk _ _ y, yo 7 (by decide)]; exact c8
      · rw [xk _ _ y]; exact c9
      · rw [yo 8 (by decide)]; exact c10
      · rw [xl _ y, Nat.add_assoc, yo (9 + i) (by omega), ← Nat.add_assoc]; exact c11 i hi
    · have : j = n := by omega
      subst this
      simp only [Nat.mul_zero, Nat.zero_add]
      exact hnew
  · rw [xr b hb, show 298 * 0 + 293 + b = 293 + b from by omega, yr b hb]
    have := h5 b hb
    rw [show 298 * 0 + 293 + b = 293 + b from by omega] at this
    exact this
theorem t11_lock_l {c : Nat} (hc : c < 4) {v1 v2 : Int32} {Y : Mem} (hb : Y.1 40 0 35 = 0) {Q : Int32 → Mem → Prop} (h : ∀ Z, Z.2 = Y.2 → (∀ a i j, ¬ (a = 54 ∧ i = 0 ∧ 73 * c ≤ j ∧ j < 73 * c + 73) → Z.1 a i j = Y.1 a i j) → (∀ j, j < 73 → Z.1 54 0 (73 * c + j) = 0) → b_X11_lock_87 Q v1 v2 (nI c) Z) : ∀ (d k : Nat) (Z : Mem), k + d = 73 → Z.2 = Y.2 → (∀ a i j, ¬ (a = 54 ∧ i = 0 ∧ 73 * c ≤ j ∧ j < 73 * c + 73) → Z.1 a i j = Y.1 a i j) → (∀ j, j < k → Z.1 54 0 (73 * c + j) = 0) → b_X11_lock_66 Q (d + 1) v1 v2 (nI c) (nI k) Z := by
  intro d
  induction d with
  | zero =>
    intro k Z hk h1 h2 h3
    have : k = 73 := by omega
    subst this
    exact ⟨fun _ => h Z h1 h2 h3, fun z => absurd (by decide) z⟩
  | succ d ih =>
    intro k Z hk h1 h2 h3
    refine ⟨fun z => absurd z (by rw [show (73 : Int32) = nI 73 from rfl]; exact nI_ge (by omega) (by omega)), fun _ => m_put (by omega) ((h2 40 0 35 (by omega)).trans hb) ?_⟩
    rintro x21 rfl
    rw [nI_1]
    refine ih (k + 1) _ (by omega) h1 (fun a i j e => by rw [sI_n (by omega)]; exact h2 a i j e) (fun j hj => ?_)
    by_cases hjk : j = k
    · rw [hjk, sI_s]
    · rw [sI_n (by omega)]; exact h3 j (by omega)
theorem op_20 (X Y : Mem) (a1 a2 : Int32) (hR : Rel X Y) : p_X10_lock a1 a2 X (fun r X1 => p_X11_lock a1 a2 Y (fun r1 Y1 => r = r1 ∧ Rel X1 Y1)) := by
  obtain ⟨T, w, h1, h2, h3, h4, h5, h6, h7, h8, h9, h10, h11, h12, h13⟩ := id hR
  have hnb := h1.1
  have hYb : (sI Y 40 0 2 0).1 40 0 11 = nI (T 0 0) := by rw [sI_n (by omega)]; exact h5.1
  have hra : T 0 6 < 100 := h1.2.2.2.2.2.2.1.2
  have ym : ∀ {Q : Int32 → Mem → Prop}, (¬ (inL a1 0 (T 0 0) ∧ inL a2 0 199) → Q (-1) (sI Y 40 0 2 0)) → (inL a1 0 (T 0 0) ∧ inL a2 0 199 → (p_X11_hunts a1 a2 1 (sI Y 40 0 2 0) (fun M6 => (p_X11_isAcquired  M6 (fun r7 M7 => ((¬ r7 = 0 → (p_X11_of 292 M7 (fun r9 M9 => ((¬ r9 = 4 → (p_X11_canUndo  M9 (fun M11 => (∃ n66 : Nat, b_X11_lock_66 Q n66 a1 a2 r9 0 M11)))) ∧ (r9 = 4 → (Q (-3) M9)))))) ∧ (r7 = 0 → (Q (-2) M7)))))))) → p_X11_lock a1 a2 Y Q := by
    intro Q q0 q1
    rintro M1 rfl
    exact e11_isBird hnb hYb (fun z => ⟨fun _ => q0 (fun g => z g.1), fun y => absurd rfl y⟩) (fun gb => ⟨fun y => absurd y z1n, fun _ => e_isIn (lo := 0) (m := 198) (n := 199) (by decide) rfl (by decide) (fun z => ⟨fun y => absurd rfl y, fun _ => q0 (fun g => z g.2)⟩) (fun g4 => ⟨fun _ => q1 ⟨gb, g4⟩, fun y => absurd y z1n⟩)⟩)
  have no : ¬ (inL a1 0 (T 0 0) ∧ inL a2 0 199) → p_X11_lock a1 a2 Y (fun r1 Y1 => -1 = r1 ∧ Rel X Y1) := fun n => ym (fun _ => ⟨rfl, hR.th 0⟩) (fun g => absurd g n)
  refine e10_isBird hnb h2 h3.1 (fun z => ⟨fun _ => no (fun g => z g.1), fun y => absurd rfl y⟩) (fun gb => ⟨fun y => absurd y z1n, fun _ => ⟨fun z => no (fun g => inL_lo (by decide) z g.2), fun z4 => ⟨fun z5 => ?_, fun z => no (fun g => inL_ge (n := 199) (by decide) (Int32.not_lt.mp z) g.2)⟩⟩⟩)
  have g2 : inL a2 0 199 := inL_mk (by decide) z4 (Int32.not_le.mpr z5) (by decide)
  have gg := And.intro gb g2
  obtain ⟨b, _, hb, rfl⟩ := gb
  obtain ⟨p, _, hp, rfl⟩ := g2
  have hC := cY_of h1 h5 h6
  have hf : ∀ c, c < 930 → hN T b (T 0 4) (T 0 5) none p 1 c < 2 ^ 30 := hN_lt h1 h1.2.2.2.2.1 (by decide)
  generalize hF : hN T b (T 0 4) (T 0 5) none p 1 = f at *
  have hlt := pkN_lt f (m := 930) (by decide) 930 (Nat.le_refl _)
  have hf28 : f (pkN f 930) < 2 ^ 29 := by
    rw [← hF]
    have := hN_le (b := b) (seed := T 0 5) (p := p) (only := none) h1 h1.2.2.2.2.1 1 (pkN (hN T b (T 0 4) (T 0 5) none p 1) 930)
    omega
  have hWX : CW T w X := ⟨h2, h3, h4⟩
  have yh : ∀ {Q : Mem → Prop}, (∀ V, EY (sI Y 40 0 2 0) V → HY f V → Q V) → p_X11_hunts (nI b) (nI p) 1 (sI Y 40 0 2 0) Q := fun {Q} h => by
    refine t11_hunts (noise := T 0 4) (seed := T 0 5) (only := none) (m := 1) h1 hb (by decide) (by omega) h1.2.2.2.2.1 (by have := h1.2.2.2.2.2.1; omega) (fun o e => by cases e) hC (nsY_of h6) (fun V a q => h V a ?_)
    rw [← hF]; exact q
  refine t10_huntOver (m := 1) h1 hb (by decide) (by omega) hWX h13 (fun Z hx hc hH => ?_)
  rw [hF] at hH
  have hW2 := hWX.ex hx
  refine ⟨w, hW2.1.2.1, hW2.1.1, ?_⟩
  rw [hW2.2.1.2.2.2.2.2.2.1]
  refine t10_acq hf hra hH ?_
  cases hq : acqB f (T 0 6)
  · refine ⟨fun y => absurd rfl y, fun _ => ym (fun n => absurd gg n) (fun _ => yh (fun V hV hY => t11_acq hf hra hY (ra_of (hC.ey h1 hV).1) ?_))⟩
    rw [hq]
    exact ⟨fun y => absurd rfl y, fun _ => ⟨rfl, relE h1 h2 h3 h4 h5 h6 h7 h8 h9 h10 h11 h12 hx hc hV⟩⟩
  refine ⟨fun _ => ?_, fun y => absurd y z1n⟩
  obtain ⟨n0, hn0, hc0, hd0, _, _⟩ := id h9
  have zc0 : Z.1 27 0 1 = nI n0 := (hx.1 27 0 1 (by omega)).trans hc0
  rw [zc0, show (4 : Int32) = nI 4 from rfl, nI_ltI (by omega) (by decide)]
  have v292 : ∀ V, EY (sI Y 40 0 2 0) V → V.1 40 0 35 = 0 ∧ V.1 54 0 292 = nI n0 := fun V hV => ⟨(hV 40 0 35 (by omega) (by omega)).trans (by rw [sI_n (by omega)]; exact h6.1), (hV 54 0 292 (by omega) (by omega)).trans (by rw [sI_n (by omega)]; exact hd0)⟩
  refine ⟨fun h4n => ?_, fun h4n => ?_⟩
  · obtain ⟨n, v, g1, g2', g3, g4, g5, g6⟩ := id h11
    refine t_push g1 g2' hn0 ((hx.1 21 0 1 (by omega)).trans g5) ((hx.1 21 0 2 (by omega)).trans g3) zc0 (fun Z2 hP => ?_)
    have p27 : Z2.1 27 0 1 = nI n0 := (hP.2.2.1 27 0 1 (by omega) (by omega) (by omega) (by omega)).trans zc0
    rw [p27]
    rintro x11 rfl
    refine ⟨vp_in_nI h4n (by decide), ?_⟩
    rw [nI_clamp (by omega), hP.2.2.1 11 0 1 (by omega) (by omega) (by omega) (by omega), hP.2.2.1 11 0 2 (by omega) (by omega) (by omega) (by omega), hH.1, hH.2.1, nI_1]
    have e62 : (nI (pkN f 930) - nI (pkN f 930) / 62 * 62 : Int32) = nI (pkN f 930 % 62) := pk_rem (d := 62) (by omega) (by decide) (by decide)
    have d62 : (nI (pkN f 930) / 62 : Int32) = nI (pkN f 930 / 62) := pk_div (d := 62) (by omega) (by decide) (by decide)
    unfold p_X1_begin
    rw [e62, d62, show (4 : Int32) = nI 4 from rfl, pk_mul]
    rintro M1 rfl M2 rfl M3 rfl M4 rfl M5 rfl M6 rfl M7 rfl M8 rfl M9 rfl M10 rfl M14 rfl
    rw [nI_1]
    refine ym (fun n => absurd gg n) (fun _ => yh (fun V hV hY => t11_acq hf hra hY (ra_of (hC.ey h1 hV).1) ?_))
    rw [hq]
    obtain ⟨v35, v292'⟩ := v292 V hV
    refine ⟨fun _ => m_of (u := 292) (by decide) v35 ?_, fun y => absurd y z1n⟩
    rw [v292']
    have ay : AgY Y V := (AgY.set rfl).tr hV.ag
    obtain ⟨k2, k3, k4, k5, k6, k7, k8, k9, k10, k11, k12⟩ := partsE h1 h2 h3 h4 h5 h6 h7 h8 h9 h10 h11 h12 hx.ag ay
    refine ⟨fun _ => t_canUndo (n := n) g1 ((hV 40 0 36 (by omega) (by omega)).trans (by rw [sI_n (by omega)]; exact g4)) (fun V2 hU => ?_), fun y => absurd ((nI_eq (a := n0) (b := 4) (by omega) (by decide)).mp y) (by omega)⟩
    have u35 : V2.1 40 0 35 = 0 := (hU.2.1 40 0 35 (by omega) (by omega)).trans v35
    have u32 : V2.1 40 0 32 = nI (pkN f 930) := (hU.2.1 40 0 32 (by omega) (by omega)).trans hY.1
    refine ⟨74, t11_lock_l (Y := V2) (c := n0) h4n u35 (fun V3 e1 e2 e3 => ?_) 73 0 V2 rfl rfl (fun _ _ _ _ => rfl) (fun j hj => absurd hj (by omega))⟩
    have w35 : V3.1 40 0 35 = 0 := (e2 40 0 35 (by omega)).trans u35
    have w32 : V3.1 40 0 32 = nI (pkN f 930) := (e2 40 0 32 (by omega)).trans u32
    have w53 : V3.2.1 53 0 (pkN f 930) = lN (f (pkN f 930)) := by rw [e1, hU.1]; exact hY.2.2 _ hlt
    refine m_put (k := 0) (by omega) w35 ?_
    rw [sI_n (by omega), w32, e62, show (4 : Int32) = nI 4 from rfl, pk_mul]
    refine m_put (k := 1) (by omega) (by rw [sI_n (by omega)]; exact w35) ?_
    rw [sI_n (by omega), sI_n (by omega), w32, d62]
    refine m_put (k := 2) (by omega) (by rw [sI_n (by omega), sI_n (by omega)]; exact w35) ?_
    rw [sI_n (by omega), sI_n (by omega), sI_n (by omega), w32, nI_clamp (by omega)]
    refine ⟨vp_in_nI hlt (by decide), ?_⟩
    have el : ((sI (sI (sI V3 54 0 (73 * n0 + 0) (nI b)) 54 0 (73 * n0 + 1) (nI (4 * (pkN f 930 % 62)))) 54 0 (73 * n0 + 2) (nI (pkN f 930 / 62))).2.1 53 0 (pkN f 930)).toInt32 = nI (f (pkN f 930)) := by
      show (V3.2.1 53 0 (pkN f 930)).toInt32 = _
      rw [w53, lN_i]
    rw [el]
    refine m_put (k := 4) (by omega) (by rw [sI_n (by omega), sI_n (by omega), sI_n (by omega)]; exact w35) ?_
    rw [nI_1]
    refine m_put (k := 5) (by omega) (by rw [sI_n (by omega), sI_n (by omega), sI_n (by omega), sI_n (by omega)]; exact w35) ?_
    refine m_lay (u := 292) (by omega) (by rw [sI_n (by omega), sI_n (by omega), sI_n (by omega), sI_n (by omega), sI_n (by omega)]; exact w35) ⟨rfl, ?_⟩
    rw [nI_1]
    have hs1 : StR (T 0 0) Z2 0 V2 0 := StR.push k9 hP hU
    refine rel_after h1 k2 k3 k4 k5 k6 k7 k8 k12 k9 k10 g1 g2' (fun i hi => StR.ag hx.ag ay (by omega) (by omega) (g6 i hi)) zc0 hn0 hP hU (fun a i k e => ?_) (fun i hi => ?_) rfl (fun a k e1' e2' => ?_) ?_ ?_
    · have h30 : ¬ (a = 30 ∧ i = 4 * 0 + n0) := by
        rintro ⟨rfl, rfl⟩
        simp [KS0, kXt] at e
        omega
      have h27 : ¬ (a = 27 ∧ i = 0) := by
        rintro ⟨rfl, rfl⟩
        simp [KS0, kXt] at e
      rw [sI_n (by omega), sI_n (by omega), sL_1, sI_n (by omega), sI_n (by omega), sI_n (by omega), sI_n (by omega), sI_n (by omega), sI_n (by omega), sI_n (by omega), sI_n (by omega)]
    · show (sL _ _ _ _ _).2.1 30 i 8 = _
      rw [sL_n (by omega)]; rfl
    · rw [sI_n (by omega), sI_n (by omega), sI_n (by omega), sI_n (by omega), sI_n (by omega), sI_n (by omega)]
      exact e2 a 0 k (by omega)
    · refine StR.new h4n p27 hs1 sI_s sI_s (fun j k hj => ?_) (fun j hj => ?_) (fun b hb => ?_) (fun k hk => ?_) (fun b hb => ?_) ⟨⟨b, hb, ?_, ?_⟩, ⟨4 * (pkN f 930 % 62), by omega, ?_, ?_⟩, ⟨pkN f 930 / 62, by omega, ?_, ?_⟩, ⟨0, by decide, ?_, ?_⟩, ⟨f (pkN f 930), hf28, ?_, ?_⟩, ⟨p + 1, by omega, ?_, ?_, 0, by omega, ?_⟩, ⟨0, by decide, ?_, ?_, fun _ => by decide⟩, Or.inl ⟨?_, ?_⟩, 0, by decide, ?_, ?_, fun i hi => absurd hi (by omega)⟩
      · rw [sI_n (by omega), sI_n (by omega), sL_1, sI_n (by omega), sI_n (by omega), sI_n (by omega), sI_n (by omega), sI_n (by omega), sI_n (by omega), sI_n (by omega), sI_n (by omega)]
      · show (sL _ _ _ _ _).2.1 30 j 8 = _
        rw [sL_n (by omega)]; rfl
      · rw [sI_n (by omega), sI_n (by omega), sL_1, sI_n (by omega), sI_n (by omega), sI_n (by omega), sI_n (by omega), sI_n (by omega), sI_n (by omega), sI_n (by omega), sI_n (by omega)]
      · rw [sI_n (by omega), sI_n (by omega), sI_n (by omega), sI_n (by omega), sI_n (by omega), sI_n (by omega)]
        exact e2 54 0 k (by omega)
      · rw [sI_n (by omega), sI_n (by omega), sI_n (by omega), sI_n (by omega), sI_n (by omega), sI_n (by omega)]
        exact e2 54 0 _ (by omega)
      · rw [sI_n (by omega), sI_n (by omega), sL_1, sI_n (by omega), sI_n (by omega), sI_n (by omega), sI_n (by omega), sI_n (by omega), sI_n (by omega), sI_n (by omega), Nat.mul_zero, Nat.zero_add, sI_s]
      · rw [sI_n (by omega), sI_n (by omega), sI_n (by omega), sI_n (by omega), sI_n (by omega)]; exact sI_s
      · rw [sI_n (by omega), sI_n (by omega), sL_1, sI_n (by omega), sI_n (by omega), sI_n (by omega), sI_n (by omega), sI_n (by omega), sI_n (by omega), Nat.mul_zero, Nat.zero_add, sI_s, Nat.mul_comm]
      · rw [sI_n (by omega), sI_n (by omega), sI_n (by omega), sI_n (by omega)]; exact sI_s
      · rw [sI_n (by omega), sI_n (by omega), sL_1, sI_n (by omega), sI_n (by omega), sI_n (by omega), sI_n (by omega), sI_n (by omega), Nat.mul_zero, Nat.zero_add, sI_s]
      · rw [sI_n (by omega), sI_n (by omega), sI_n (by omega)]; exact sI_s
      · rw [sI_n (by omega), sI_n (by omega), sL_1, sI_n (by omega), sI_n (by omega), sI_n (by omega), sI_n (by omega), Nat.mul_zero, Nat.zero_add, sI_s]; rfl
      · rw [sI_n (by omega), sI_n (by omega), sI_n (by omega), sI_n (by omega), sI_n (by omega), sI_n (by omega)]; exact e3 3 (by decide)
      · rw [sI_n (by omega), sI_n (by omega), sL_1, sI_n (by omega), sI_n (by omega), sI_n (by omega), Nat.mul_zero, Nat.zero_add, sI_s]
      · rw [sI_n (by omega), sI_n (by omega)]; exact sI_s
      · rw [sI_n (by omega), sI_n (by omega), sL_1, sI_n (by omega), sI_n (by omega), Nat.mul_zero, Nat.zero_add, sI_s]
      · rw [sI_n (by omega)]; exact sI_s
      · rw [sI_n (by omega), Nat.mul_zero, Nat.zero_add, sI_s]; rfl
      · rw [sI_n (by omega), sI_n (by omega), sL_1, sI_n (by omega), Nat.mul_zero, Nat.zero_add, sI_s]; rfl
      · rw [sI_n (by omega), sI_n (by omega), sI_n (by omega), sI_n (by omega), sI_n (by omega), sI_n (by omega)]; exact e3 6 (by decide)
      · rw [sI_n (by omega), sI_n (by omega), sL_1, Nat.mul_zero, Nat.zero_add, sI_s]
      · rw [sI_n (by omega), sI_n (by omega), sI_n (by omega), sI_n (by omega), sI_n (by omega), sI_n (by omega)]; exact e3 7 (by decide)
      · rw [sI_n (by omega), Nat.mul_zero, Nat.zero_add, sI_s]; rfl
      · rw [sI_n (by omega), sI_n (by omega), sI_n (by omega), sI_n (by omega), sI_n (by omega), sI_n (by omega)]; exact e3 8 (by decide)
    · refine (hc.ag hP.c).ag ⟨?_, fun k => ?_, fun k => ?_⟩
      · rw [sI_n (by omega), sI_n (by omega), sL_1, sI_n (by omega), sI_n (by omega), sI_n (by omega), sI_n (by omega), sI_n (by omega), sI_n (by omega), sI_n (by omega), sI_n (by omega)]
      · rw [sI_n (by omega), sI_n (by omega), sL_1, sI_n (by omega), sI_n (by omega), sI_n (by omega), sI_n (by omega), sI_n (by omega), sI_n (by omega), sI_n (by omega), sI_n (by omega)]
      · rw [sI_n (by omega), sI_n (by omega), sL_1, sI_n (by omega), sI_n (by omega), sI_n (by omega), sI_n (by omega), sI_n (by omega), sI_n (by omega), sI_n (by omega), sI_n (by omega)]
  · refine ym (fun n => absurd gg n) (fun _ => yh (fun V hV hY => t11_acq hf hra hY (ra_of (hC.ey h1 hV).1) ?_))
    rw [hq]
    obtain ⟨v35, v292'⟩ := v292 V hV
    refine ⟨fun _ => m_of (u := 292) (by decide) v35 ?_, fun y => absurd y z1n⟩
    rw [v292']
    have : n0 = 4 := by omega
    subst this
    exact ⟨fun y => absurd rfl y, fun _ => ⟨rfl, relE h1 h2 h3 h4 h5 h6 h7 h8 h9 h10 h11 h12 hx hc hV⟩⟩
