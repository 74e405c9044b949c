/-! the class's solve; the reference's rests -/
theorem t10_solve {T : Txt} {w : Nat} {Rg : Nat → Option Nat} {l : List Nat} {lim : Nat} (h1 : TB T) (hRB : RgB Rg) (hl0 : 0 < l.length) (hl5 : l.length ≤ 5) (hlm : ∀ b ∈ l, b < T 0 0 ∧ T (1 + b) 10 = 1) (hlim : lim < 10000) {X : Mem} (hW : CW T w X) (hw : WaysR X) (hG : GL w Rg l X) {Q : Mem → Prop} (h : ∀ Z', FS X Z' → SIx (pR T Rg l) (pC T Rg l) lim 4096 Z' → Q Z') : p_X7_solve (nI lim) X Q := by
  have l3 : ∀ {k20 : Int32 → Int32 → Int32 → Mem → Prop} (px py : Nat), px < 16 → py < 16 → (∀ Z, FS X Z → SIx (pR T Rg l) (pC T Rg l) lim (256 * px + 16 * (py + 1)) Z → k20 (nI lim) (nI px) (nI (py + 1)) Z) → ∀ (d pz : Nat) (Z : Mem), pz + d = 16 → FS X Z → SIx (pR T Rg l) (pC T Rg l) lim (256 * px + 16 * py + pz) Z → b_X7_solve_29 Q k20 (d + 1) (nI lim) (nI px) (nI py) (nI pz) Z := by
    intro k20 px py hpx hpy hk d
    induction d with
    | zero =>
      intro pz Z hz hF hS
      have : pz = 16 := by omega
      subst this
      refine ⟨fun _ => ?_, fun z => absurd (by decide) z⟩
      rintro x7 rfl
      rw [nI_1]
      exact hk Z hF hS
    | succ d ih =>
      intro pz Z hz hF hS
      refine ⟨fun z => absurd z (by rw [show (16 : Int32) = nI 16 from rfl]; exact nI_ge (by omega) (by omega)), fun _ => ?_⟩
      have t := t10_try (k := 256 * px + 16 * py + pz) h1 hRB hl0 hl5 hlm hlim (by omega) hW hw hG hF hS (Q := fun M8 => ∀ x9 : Int32, x9 = nI pz + 1 → b_X7_solve_29 Q k20 (d + 1) (nI lim) (nI px) (nI py) x9 M8) (fun Z' hF' hS' => by
        rintro x9 rfl
        rw [nI_1]
        exact ih (pz + 1) Z' (by omega) hF' hS')
      rw [show (256 * px + 16 * py + pz) / 256 = px from by omega, show (256 * px + 16 * py + pz) / 16 % 16 = py from by omega, show (256 * px + 16 * py + pz) % 16 = pz from by omega] at t
      exact t
  have l2 : ∀ {k12 : Int32 → Int32 → Mem → Prop} (px : Nat), px < 16 → (∀ Z, FS X Z → SIx (pR T Rg l) (pC T Rg l) lim (256 * (px + 1)) Z → k12 (nI lim) (nI (px + 1)) Z) → ∀ (d py : Nat) (Z : Mem), py + d = 16 → FS X Z → SIx (pR T Rg l) (pC T Rg l) lim (256 * px + 16 * py) Z → b_X7_solve_20 Q k12 (d + 1) (nI lim) (nI px) (nI py) Z := by
    intro k12 px hpx hk d
    induction d with
    | zero =>
      intro py Z hz hF hS
      have : py = 16 := by omega
      subst this
      refine ⟨fun _ => ?_, fun z => absurd (by decide) z⟩
      rintro x5 rfl
      rw [nI_1]
      exact hk Z hF hS
    | succ d ih =>
      intro py Z hz hF hS
      refine ⟨fun z => absurd z (by rw [show (16 : Int32) = nI 16 from rfl]; exact nI_ge (by omega) (by omega)), fun _ => ⟨17, l3 px py hpx (by omega) (fun Z' hF' hS' => ih (py + 1) Z' (by omega) hF' hS') 16 0 Z rfl hF hS⟩⟩
  have l1 : ∀ (d px : Nat) (Z : Mem), px + d = 16 → FS X Z → SIx (pR T Rg l) (pC T Rg l) lim (256 * px) Z → b_X7_solve_12 Q (d + 1) (nI lim) (nI px) Z := by
    intro d
    induction d with
    | zero =>
      intro px Z hz hF hS
      have : px = 16 := by omega
      subst this
      exact ⟨fun _ => h Z hF hS, fun z => absurd (by decide) z⟩
    | succ d ih =>
      intro px Z hz hF hS
      refine ⟨fun z => absurd z (by rw [show (16 : Int32) = nI 16 from rfl]; exact nI_ge (by omega) (by omega)), fun _ => ⟨17, l2 px (by omega) (fun Z' hF' hS' => ih (px + 1) Z' (by omega) hF' hS') 16 0 Z rfl hF hS⟩⟩
  rintro M1 rfl M2 rfl
  exact ⟨17, l1 16 0 _ rfl ⟨fun f i k e => by rw [sI_n (by omega), sI_n (by omega)], rfl⟩ ⟨by rw [sI_n (by omega), sI_s]; rfl, fun z => absurd z (by decide), by rw [sI_s]; rfl⟩⟩
/-! the reference -/
/-- the rest's frame: the clock alone -/
def F44 (Y Z : Mem) : Prop := ∀ f i k, ¬ (f = 40 ∧ i = 0 ∧ k = 44) → Z.1 f i k = Y.1 f i k
theorem F44.yt {Y Z : Mem} (h : F44 Y Z) : AgY Y Z := fun f k e => h f 0 k (by rintro ⟨rfl, _, rfl⟩; exact Bool.false_ne_true e)
theorem t11_isRanged {T : Txt} {Rg : Nat → Option Nat} {b : Nat} (h1 : TB T) (hb : b < T 0 0) (hRB : RgB Rg) {Y : Mem} (h5 : TYr T Y) (hb0 : Y.1 40 0 35 = 0) (hRY : RgY Rg Y) {Q : Int32 → Mem → Prop} (h : Q (bitV (rgd T Rg b)) Y) : p_X11_isRanged (nI b) Y Q := by
  have hnb := h1.1
  have t10 := (h1.2.2.2.2.2.2.2.2.2.2.2.2.1 b hb).2.2.2.2.2.2.2.2.2.2.1
  refine t11_birdOf (k := 10) (by omega) (by decide) (by omega) ?_
  rw [h5.2.2.1 b 10 hb (by decide)]
  unfold rgd plB at h
  refine ⟨fun z => ?_, fun z => ?_⟩
  · have e : T (1 + b) 10 ≠ 1 := fun y => z (by rw [y]; rfl)
    rw [show (T (1 + b) 10 == 1) = false from by rw [beq_eq_false_iff_ne]; exact e] at h
    exact h
  · have e : T (1 + b) 10 = 1 := (nI_eq (by omega) (by decide)).mp z
    rw [show (T (1 + b) 10 == 1) = true from by rw [e]; rfl, Bool.true_and] at h
    rw [show (293 : Int32) + nI b = nI (293 + b) from nI_add 293 b]
    refine m_of (u := 293 + b) (by omega) hb0 ?_
    rw [hRY b (by omega)]
    cases q : Rg b with
    | none =>
      rw [q] at h
      exact ⟨fun _ => h, fun y => absurd (by decide) y⟩
    | some r =>
      have := hRB b r q
      rw [q] at h
      exact ⟨fun y => absurd y (nI_pos (by omega)), fun _ => h⟩
theorem t11_ranged {T : Txt} {Rg : Nat → Option Nat} (h1 : TB T) (hRB : RgB Rg) {Y : Mem} (h5 : TYr T Y) (hb0 : Y.1 40 0 35 = 0) (hRY : RgY Rg Y) {Q : Int32 → Mem → Prop} (h : Q (nI (ct (rgd T Rg) (T 0 0))) Y) : p_X11_ranged Y Q := by
  have hnb := h1.1
  have go : ∀ (d b : Nat), b + d = T 0 0 → b_X11_ranged_4 Q (d + 1) (nI (ct (rgd T Rg) b)) (nI b) Y := by
    intro d
    induction d with
    | zero =>
      intro b hb
      have : b = T 0 0 := by omega
      subst this
      exact ⟨fun _ => h, fun z => absurd (by rw [h5.1]; exact Int32.le_refl _) z⟩
    | succ d ih =>
      intro b hb
      have hlt : b < T 0 0 := by omega
      have ec : ct (rgd T Rg) (b + 1) = ct (rgd T Rg) b + (if rgd T Rg b then 1 else 0) := rfl
      have g := ih (b + 1) (by omega)
      rw [ec] at g
      refine ⟨fun z => absurd z (by rw [h5.1]; exact nI_ge hlt (by omega)), fun _ => t11_isRanged h1 hlt hRB h5 hb0 hRY ?_⟩
      cases e : rgd T Rg b
      · refine ⟨fun _ => ?_, fun z => absurd rfl z⟩
        rintro x4 rfl x5 rfl
        rw [nI_1, Int32.add_zero]
        rw [e] at g
        exact g
      · refine ⟨fun z => absurd z (by decide), fun _ => ?_⟩
        rintro x4 rfl x5 rfl
        rw [nI_1, nI_1]
        rw [e] at g
        exact g
  exact ⟨T 0 0 + 1, go (T 0 0) 0 (by omega)⟩
theorem t11_rest {T : Txt} {Rg : Nat → Option Nat} {but : Option Nat} {k : Nat} (h1 : TB T) (hRB : RgB Rg) (ho : ∀ o, but = some o → o < 5) (hl0 : 0 < (usL T Rg but (T 0 0)).length) (hk : k < 4096) {Y X : Mem} (h5 : TYr T Y) (hb0 : Y.1 40 0 35 = 0) (hRY : RgY Rg Y) (hw : WaysR X) {Q : Int32 → Mem → Prop} (h : ∀ Z, F44 Y Z → Z.1 40 0 44 = nI (pC T Rg (usL T Rg but (T 0 0)) k) → Q (iI (pR T Rg (usL T Rg but (T 0 0)) k)) Z) : p_X11_restAt (nI (k / 256)) (nI (k / 16 % 16)) (nI (k % 16)) (oI but) Y Q := by
  have hnb := h1.1
  have hx : k / 256 < 16 := by omega
  have hy : k / 16 % 16 < 16 := by omega
  have hz : k % 16 < 16 := by omega
  have hl5 : (usL T Rg but (T 0 0)).length ≤ 5 := by
    unfold usL
    rw [len_fil]
    have := ct_le (okB T Rg but) (T 0 0)
    omega
  have hgl : ∀ b ∈ usL T Rg but (T 0 0), -600 ≤ lf T Rg (k / 256) (k / 16 % 16) (k % 16) b ∧ lf T Rg (k / 256) (k / 16 % 16) (k % 16) b ≤ 600 := fun b hb => lf_b h1 (us_mem hb).1 hx hy hz hRB hw
  obtain ⟨sb, rb⟩ := resZ_lt hl5 hgl
  have fin : b_X11_restAt_88 Q (nI (usL T Rg but (T 0 0)).length) (iI (lsum (lf T Rg (k / 256) (k / 16 % 16) (k % 16)) (usL T Rg but (T 0 0)))) (iI (lsum (fun b => lf T Rg (k / 256) (k / 16 % 16) (k % 16) b * lf T Rg (k / 256) (k / 16 % 16) (k % 16) b) (usL T Rg but (T 0 0)))) Y := by
    have e1 : nI (usL T Rg but (T 0 0)).length - (2 : Int32) * iI (lsum (lf T Rg (k / 256) (k / 16 % 16) (k % 16)) (usL T Rg but (T 0 0))) = iI (((usL T Rg but (T 0 0)).length : Int) - 2 * lsum (lf T Rg (k / 256) (k / 16 % 16) (k % 16)) (usL T Rg but (T 0 0))) := by rw [show (2 : Int32) = iI 2 from rfl, iI_mul, ← iI_n, iI_sub]
    have e2 : (2 : Int32) * nI (usL T Rg but (T 0 0)).length = nI (2 * (usL T Rg but (T 0 0)).length) := by rw [show (2 : Int32) = nI 2 from rfl, pk_mul]
    unfold b_X11_restAt_88
    rw [e1, e2]
    refine t11_qu (by omega) (by omega) (by rw [iI_t (by omega) (by omega)]; omega) ?_
    rw [iI_t (by omega) (by omega)]
    have e3 : -(Int32.ofInt ((((usL T Rg but (T 0 0)).length : Int) - 2 * lsum (lf T Rg (k / 256) (k / 16 % 16) (k % 16)) (usL T Rg but (T 0 0))) / ((2 * (usL T Rg but (T 0 0)).length : Nat) : Int))) = iI (cZ (usL T Rg but (T 0 0)).length (lsum (lf T Rg (k / 256) (k / 16 % 16) (k % 16)) (usL T Rg but (T 0 0)))) := iI_neg _
    have hb : -100000 < cZ (usL T Rg but (T 0 0)).length (lsum (lf T Rg (k / 256) (k / 16 % 16) (k % 16)) (usL T Rg but (T 0 0))) ∧ cZ (usL T Rg but (T 0 0)).length (lsum (lf T Rg (k / 256) (k / 16 % 16) (k % 16)) (usL T Rg but (T 0 0))) < 100000 := by
      generalize hn : (usL T Rg but (T 0 0)).length = n at *
      generalize lsum (lf T Rg (k / 256) (k / 16 % 16) (k % 16)) (usL T Rg but (T 0 0)) = s at *
      unfold cZ
      have hd : (1 : Int) ≤ ((2 * n : Nat) : Int) := by omega
      rcases Int.le_total 0 ((n : Int) - 2 * s) with z | z
      · have := Int.ediv_le_self ((2 * n : Nat) : Int) z
        have := Int.ediv_nonneg z (show (0 : Int) ≤ ((2 * n : Nat) : Int) by omega)
        omega
      · have e := Int.mul_ediv_add_emod ((n : Int) - 2 * s) ((2 * n : Nat) : Int)
        have r0 := Int.emod_nonneg ((n : Int) - 2 * s) (show ((2 * n : Nat) : Int) ≠ 0 by omega)
        have r1 := Int.emod_lt_of_pos ((n : Int) - 2 * s) (show (0 : Int) < ((2 * n : Nat) : Int) by omega)
        have n1 : ((n : Int) - 2 * s) / ((2 * n : Nat) : Int) ≤ 0 := Int.ediv_nonpos_of_nonpos_of_neg z (by omega)
        have n2 : ((2 * n : Nat) : Int) * (((n : Int) - 2 * s) / ((2 * n : Nat) : Int)) ≤ 1 * (((n : Int) - 2 * s) / ((2 * n : Nat) : Int)) := Int.mul_le_mul_of_nonpos_right hd n1
        omega
    rw [e3]
    rintro M3 rfl
    rw [sI_s]
    have ek : clkN (usL T Rg but (T 0 0)).length (lsum (lf T Rg (k / 256) (k / 16 % 16) (k % 16)) (usL T Rg but (T 0 0))) = if cZ (usL T Rg but (T 0 0)).length (lsum (lf T Rg (k / 256) (k / 16 % 16) (k % 16)) (usL T Rg but (T 0 0))) < 0 then 0 else if ((99 : Nat) : Int) < cZ (usL T Rg but (T 0 0)).length (lsum (lf T Rg (k / 256) (k / 16 % 16) (k % 16)) (usL T Rg but (T 0 0))) then 99 else (cZ (usL T Rg but (T 0 0)).length (lsum (lf T Rg (k / 256) (k / 16 % 16) (k % 16)) (usL T Rg but (T 0 0)))).toNat := rfl
    have key : ∀ s1, s1 = nI (clkN (usL T Rg but (T 0 0)).length (lsum (lf T Rg (k / 256) (k / 16 % 16) (k % 16)) (usL T Rg but (T 0 0)))) → b_X11_restAt_137 Q (nI (usL T Rg but (T 0 0)).length) (iI (lsum (lf T Rg (k / 256) (k / 16 % 16) (k % 16)) (usL T Rg but (T 0 0)))) (iI (lsum (fun b => lf T Rg (k / 256) (k / 16 % 16) (k % 16) b * lf T Rg (k / 256) (k / 16 % 16) (k % 16) b) (usL T Rg but (T 0 0)))) s1 (sI Y 40 0 44 (iI (cZ (usL T Rg but (T 0 0)).length (lsum (lf T Rg (k / 256) (k / 16 % 16) (k % 16)) (usL T Rg but (T 0 0)))))) := by
      rintro s1 rfl M6 rfl
      rw [sI_s]
      have e4 : (iI (lsum (fun b => lf T Rg (k / 256) (k / 16 % 16) (k % 16) b * lf T Rg (k / 256) (k / 16 % 16) (k % 16) b) (usL T Rg but (T 0 0))) - (((2 : Int32) * nI (clkN (usL T Rg but (T 0 0)).length (lsum (lf T Rg (k / 256) (k / 16 % 16) (k % 16)) (usL T Rg but (T 0 0))))) * iI (lsum (lf T Rg (k / 256) (k / 16 % 16) (k % 16)) (usL T Rg but (T 0 0))))) + ((nI (usL T Rg but (T 0 0)).length * nI (clkN (usL T Rg but (T 0 0)).length (lsum (lf T Rg (k / 256) (k / 16 % 16) (k % 16)) (usL T Rg but (T 0 0))))) * nI (clkN (usL T Rg but (T 0 0)).length (lsum (lf T Rg (k / 256) (k / 16 % 16) (k % 16)) (usL T Rg but (T 0 0))))) = iI (pR T Rg (usL T Rg but (T 0 0)) k) := by
        rw [← iI_n, ← iI_n, show (2 : Int32) = iI 2 from rfl, iI_mul, iI_mul, iI_mul, iI_mul, iI_sub, iI_add]
        rfl
      rw [e4]
      exact h _ (fun f i j e => by rw [sI_n (by omega), sI_n (by omega)]) sI_s
    have c99 : iI (cZ (usL T Rg but (T 0 0)).length (lsum (lf T Rg (k / 256) (k / 16 % 16) (k % 16)) (usL T Rg but (T 0 0)))) ≤ 99 ↔ cZ (usL T Rg but (T 0 0)).length (lsum (lf T Rg (k / 256) (k / 16 % 16) (k % 16)) (usL T Rg but (T 0 0))) ≤ 99 := by rw [Int32.le_iff_toInt_le, iI_t (by omega) (by omega), show (99 : Int32).toInt = 99 from by decide]
    rw [iI_ge0 (by omega) (by omega), c99]
    refine ⟨fun y => ⟨fun x => key _ ?_, fun x => key _ ?_⟩, fun y => key _ ?_⟩
    · rw [ek, if_neg (by omega), if_neg (by omega), ← iI_n]; congr 1; omega
    · rw [ek, if_neg (by omega), if_pos (by omega)]; rfl
    · rw [ek, if_pos (by omega)]; rfl
  have go : ∀ (d b : Nat), b + d = T 0 0 → b_X11_restAt_12 Q (d + 1) (nI (k / 256)) (nI (k / 16 % 16)) (nI (k % 16)) (oI but) (nI (usL T Rg but b).length) (iI (lsum (lf T Rg (k / 256) (k / 16 % 16) (k % 16)) (usL T Rg but b))) (iI (lsum (fun b => lf T Rg (k / 256) (k / 16 % 16) (k % 16) b * lf T Rg (k / 256) (k / 16 % 16) (k % 16) b) (usL T Rg but b))) (nI b) Y := by
    intro d
    induction d with
    | zero =>
      intro b hb
      have : b = T 0 0 := by omega
      subst this
      exact ⟨fun _ => fin, fun z => absurd (by rw [h5.1]; exact Int32.le_refl _) z⟩
    | succ d ih =>
      intro b hb
      have hlt : b < T 0 0 := by omega
      have hs : usL T Rg but (b + 1) = usL T Rg but b ++ (if okB T Rg but b then [b] else []) := by
        unfold usL
        rw [List.range_succ, List.filter_append]
        congr 1
        cases e : okB T Rg but b <;> simp [List.filter, e]
      have g := ih (b + 1) (by omega)
      rw [hs] at g
      have skip : okB T Rg but b = false → b_X11_restAt_82 Q (fun v1 v2 v3 v4 v5 v6 v7 v8 M => b_X11_restAt_12 Q (d + 1) v1 v2 v3 v4 v5 v6 v7 v8 M) (nI (k / 256)) (nI (k / 16 % 16)) (nI (k % 16)) (oI but) (nI (usL T Rg but b).length) (iI (lsum (lf T Rg (k / 256) (k / 16 % 16) (k % 16)) (usL T Rg but b))) (iI (lsum (fun b => lf T Rg (k / 256) (k / 16 % 16) (k % 16) b * lf T Rg (k / 256) (k / 16 % 16) (k % 16) b) (usL T Rg but b))) (nI b) Y := by
        rintro e x8 rfl
        rw [nI_1]
        rw [e, if_neg (by decide), List.append_nil] at g
        exact g
      refine ⟨fun z => absurd z (by rw [h5.1]; exact nI_ge hlt (by omega)), fun _ => ⟨fun z => skip ?_, fun z => t11_isRanged h1 hlt hRB h5 hb0 hRY ?_⟩⟩
      · have e := (oI_eq (by omega) ho).mp z
        unfold okB; rw [e]; simp
      · have e : ¬ but = some b := fun y => z ((oI_eq (by omega) ho).mpr y)
        have eo : okB T Rg but b = rgd T Rg b := by
          unfold okB
          rw [show (but == some b) = false from by rw [beq_eq_false_iff_ne]; exact e]
          exact Bool.and_true _
        rw [← eo]
        cases q : okB T Rg but b
        · exact ⟨fun y => absurd rfl y, fun _ => skip q⟩
        · refine ⟨fun _ => ?_, fun y => absurd y (by decide)⟩
          have hsome : Rg b = some (rv Rg b) := by
            have q2 := eo.symm.trans q
            unfold rgd at q2
            rw [Bool.and_eq_true] at q2
            unfold rv
            cases r : Rg b with
            | none => rw [r] at q2; cases q2.2
            | some r => rfl
          rw [show (293 : Int32) + nI b = nI (293 + b) from nI_add 293 b]
          refine m_of (u := 293 + b) (by omega) hb0 ?_
          rw [hRY b (by omega), hsome]
          refine t11_farFrom h1 h5 hlt hx hy hz (rtN_is hw (sq_lt h1 hlt hx hy hz)) ?_
          have el : oI (some (rv Rg b)) - nI (rtN (sqB T b (k / 256) (k / 16 % 16) (k % 16))) = iI (lf T Rg (k / 256) (k / 16 % 16) (k % 16) b) := by
            show nI (rv Rg b) - _ = _
            rw [← iI_n, ← iI_n, iI_sub]; rfl
          show ∀ x13, x13 = oI (some (rv Rg b)) - nI (rtN (sqB T b (k / 256) (k / 16 % 16) (k % 16))) → _
          rw [el]
          rintro x13 rfl x14 rfl x15 rfl x16 rfl x8 rfl
          rw [iI_mul, iI_add, iI_add, nI_1, nI_1]
          rw [q, if_pos rfl, List.length_append, lsum_app, lsum_app] at g
          have e1 : lsum (lf T Rg (k / 256) (k / 16 % 16) (k % 16)) [b] = lf T Rg (k / 256) (k / 16 % 16) (k % 16) b := Int.add_zero _
          have e2 : lsum (fun b => lf T Rg (k / 256) (k / 16 % 16) (k % 16) b * lf T Rg (k / 256) (k / 16 % 16) (k % 16) b) [b] = lf T Rg (k / 256) (k / 16 % 16) (k % 16) b * lf T Rg (k / 256) (k / 16 % 16) (k % 16) b := Int.add_zero _
          rw [e1, e2] at g
          exact g
  exact ⟨T 0 0 + 1, go (T 0 0) 0 (by omega)⟩
theorem pt_e {k : Nat} (hk : k < 4096) : (nI k / 256 : Int32) = nI (k / 256) ∧ ((nI k / 16) - (nI k / 16) / 16 * 16 : Int32) = nI (k / 16 % 16) ∧ (nI k - nI k / 16 * 16 : Int32) = nI (k % 16) := by
  have e16 : (nI k / 16 : Int32) = nI (k / 16) := pk_div (d := 16) (by omega) (by decide) (by decide)
  refine ⟨pk_div (d := 256) (by omega) (by decide) (by decide), ?_, pk_rem (d := 16) (by omega) (by decide) (by decide)⟩
  rw [e16]
  exact pk_rem (d := 16) (by omega) (by decide) (by decide)
/-- frame of layFix -/
def FL (Y Z : Mem) : Prop := ∀ f i k, ¬ (f = 40 ∧ i = 0 ∧ k = 44) → f ≠ 58 → Z.1 f i k = Y.1 f i k
theorem FL.ag {Y Z : Mem} (h : FL Y Z) : AgY Y Z := fun f k e => h f 0 k (by rintro ⟨rfl, _, rfl⟩; exact Bool.false_ne_true e) (by rintro rfl; exact Bool.false_ne_true e)
theorem FL.tr {Y Z V : Mem} (h : FL Y Z) (h2 : FL Z V) : FL Y V := fun f i k a b => (h2 f i k a b).trans (h f i k a b)
theorem F44.fl {Y Z : Mem} (h : F44 Y Z) : FL Y Z := fun f i k a _ => h f i k a
def SIy (R : Nat → Int) (C : Nat → Nat) (k : Nat) (Z : Mem) : Prop := Z.1 58 0 4 = (if k = 0 then -1 else iI (R (bk R k))) ∧ (0 < k → Z.1 58 0 0 = nI (bk R k / 256) ∧ Z.1 58 0 1 = nI (bk R k / 16 % 16) ∧ Z.1 58 0 2 = nI (bk R k % 16) ∧ Z.1 58 0 3 = nI (C (bk R k)))
theorem RgY.fl {Rg : Nat → Option Nat} {Y Z : Mem} (h : FL Y Z) (H : RgY Rg Y) : RgY Rg Z := fun b hb => (h 54 0 _ (by omega) (by omega)).trans (H b hb)
theorem t11_layFix {T : Txt} {Rg : Nat → Option Nat} {but : Option Nat} (h1 : TB T) (hRB : RgB Rg) (ho : ∀ o, but = some o → o < 5) (hl0 : 0 < (usL T Rg but (T 0 0)).length) {Y X : Mem} (h5 : TYr T Y) (hb0 : Y.1 40 0 35 = 0) (hRY : RgY Rg Y) (hw : WaysR X) {Q : Mem → Prop} (h : ∀ Z, FL Y Z → SIy (pR T Rg (usL T Rg but (T 0 0))) (pC T Rg (usL T Rg but (T 0 0))) 4096 Z → Q Z) : p_X11_layFix (oI but) Y Q := by
  have hl5 : (usL T Rg but (T 0 0)).length ≤ 5 := by
    unfold usL
    rw [len_fil]
    have := ct_le (okB T Rg but) (T 0 0)
    have := h1.1
    omega
  have hRb : ∀ k, k < 4096 → 0 ≤ pR T Rg (usL T Rg but (T 0 0)) k ∧ pR T Rg (usL T Rg but (T 0 0)) k < 5000000 := fun k hk => ⟨resZ_nn _ _, (resZ_lt hl5 (fun b hb => lf_b h1 (us_mem hb).1 (by omega) (by omega) (by omega) hRB hw)).2⟩
  have i4 : vp_in 4 5 := vp_in_nI (n := 4) (N := 5) (by decide) (by decide)
  have c4 : (4 : Int32).toNatClampNeg = 4 := by decide
  have go : ∀ (d k : Nat) (Z : Mem), k + d = 4096 → FL Y Z → SIy (pR T Rg (usL T Rg but (T 0 0))) (pC T Rg (usL T Rg but (T 0 0))) k Z → b_X11_layFix_9 Q (d + 1) (oI but) (nI k) Z := by
    intro d
    induction d with
    | zero =>
      intro k Z hk hF hS
      have : k = 4096 := by omega
      subst this
      exact ⟨fun _ => h Z hF hS, fun z => absurd (by decide) z⟩
    | succ d ih =>
      intro k Z hk hF hS
      obtain ⟨e1, e2, e3⟩ := pt_e (k := k) (by omega)
      refine ⟨fun z => absurd z (by rw [show (4096 : Int32) = nI 4096 from rfl]; exact nI_ge (by omega) (by omega)), fun _ => ?_⟩
      rw [e1, e2, e3]
      refine t11_rest h1 hRB ho hl0 (by omega) (h5.ag h1 hF.ag.t) ((hF 40 0 35 (by omega) (by omega)).trans hb0) (hRY.fl hF) hw (fun V hV hc => ⟨i4, ?_⟩)
      have eb : bk (pR T Rg (usL T Rg but (T 0 0))) (k + 1) = if k = 0 then 0 else if pR T Rg (usL T Rg but (T 0 0)) k < pR T Rg (usL T Rg but (T 0 0)) (bk (pR T Rg (usL T Rg but (T 0 0))) k) then k else bk (pR T Rg (usL T Rg but (T 0 0))) k := rfl
      have hk1 := hRb k (by omega)
      have set : bk (pR T Rg (usL T Rg but (T 0 0))) (k + 1) = k → b_X11_layFix_60 Q (fun v1 v2 M => b_X11_layFix_111 Q (fun v1 v2 M => b_X11_layFix_9 Q (d + 1) v1 v2 M) v1 v2 M) (oI but) (nI k) (iI (pR T Rg (usL T Rg but (T 0 0)) k)) V := by
        intro e
        unfold b_X11_layFix_60
        rw [e1, e2, e3, show (0 : Int32).toNatClampNeg = 0 from by decide, show (1 : Int32).toNatClampNeg = 1 from by decide, show (2 : Int32).toNatClampNeg = 2 from by decide, show (3 : Int32).toNatClampNeg = 3 from by decide, c4]
        refine ⟨vp_in_nI (n := 0) (N := 5) (by decide) (by decide), ?_⟩
        rintro M6 rfl
        refine ⟨vp_in_nI (n := 1) (N := 5) (by decide) (by decide), ?_⟩
        rintro M7 rfl
        refine ⟨vp_in_nI (n := 2) (N := 5) (by decide) (by decide), ?_⟩
        rintro M8 rfl
        refine ⟨vp_in_nI (n := 3) (N := 5) (by decide) (by decide), ?_⟩
        rintro M9 rfl
        refine ⟨i4, ?_⟩
        rintro M10 rfl x11 rfl
        rw [nI_1, sI_n (by omega), sI_n (by omega), sI_n (by omega), hc]
        refine ih (k + 1) _ (by omega) (hF.tr (hV.fl.tr (fun f i j a b => by rw [sI_n (by omega), sI_n (by omega), sI_n (by omega), sI_n (by omega), sI_n (by omega)]))) ⟨?_, fun _ => ⟨?_, ?_, ?_, ?_⟩⟩
        · rw [sI_s, if_neg (by omega), e]
        · rw [sI_n (by omega), sI_n (by omega), sI_n (by omega), sI_n (by omega), sI_s, e]
        · rw [sI_n (by omega), sI_n (by omega), sI_n (by omega), sI_s, e]
        · rw [sI_n (by omega), sI_n (by omega), sI_s, e]
        · rw [sI_n (by omega), sI_s, e]
      rw [c4, hV 58 0 4 (by omega), hS.1]
      by_cases k0 : k = 0
      · rw [if_pos k0]
        exact ⟨fun _ => set (by rw [eb, if_pos k0, k0]), fun y => absurd (by decide) y⟩
      · have hbl := bk_lt (pR T Rg (usL T Rg but (T 0 0))) k (by omega)
        have h2 := hRb (bk (pR T Rg (usL T Rg but (T 0 0))) k) (by omega)
        have hlt : iI (pR T Rg (usL T Rg but (T 0 0)) k) < iI (pR T Rg (usL T Rg but (T 0 0)) (bk (pR T Rg (usL T Rg but (T 0 0))) k)) ↔ pR T Rg (usL T Rg but (T 0 0)) k < pR T Rg (usL T Rg but (T 0 0)) (bk (pR T Rg (usL T Rg but (T 0 0))) k) := by rw [Int32.lt_iff_toInt_lt, iI_t (by omega) (by omega), iI_t (by omega) (by omega)]
        have h0 : ¬ iI (pR T Rg (usL T Rg but (T 0 0)) (bk (pR T Rg (usL T Rg but (T 0 0))) k)) < 0 := by
          rw [Int32.lt_iff_toInt_lt, iI_t (by omega) (by omega), show (0 : Int32).toInt = 0 from by decide]; omega
        rw [if_neg k0]
        refine ⟨fun y => absurd y h0, fun _ => ⟨i4, fun y => set ?_, fun y => ?_⟩⟩
        · have y' := hlt.mp y
          rw [eb, if_neg k0, if_pos y']
        · have y' : ¬ pR T Rg (usL T Rg but (T 0 0)) k < pR T Rg (usL T Rg but (T 0 0)) (bk (pR T Rg (usL T Rg but (T 0 0))) k) := fun z => y (hlt.mpr z)
          have e : bk (pR T Rg (usL T Rg but (T 0 0))) (k + 1) = bk (pR T Rg (usL T Rg but (T 0 0))) k := by rw [eb, if_neg k0, if_neg y']
          have s := hS.2 (by omega)
          rintro x11 rfl
          rw [nI_1]
          refine ih (k + 1) V (by omega) (hF.tr hV.fl) ⟨?_, fun _ => ⟨?_, ?_, ?_, ?_⟩⟩
          · rw [hV 58 0 4 (by omega), hS.1, if_neg k0, if_neg (by omega), e]
          · rw [hV 58 0 0 (by omega), e]; exact s.1
          · rw [hV 58 0 1 (by omega), e]; exact s.2.1
          · rw [hV 58 0 2 (by omega), e]; exact s.2.2.1
          · rw [hV 58 0 3 (by omega), e]; exact s.2.2.2
  refine ⟨i4, ?_⟩
  rintro M1 rfl
  rw [c4]
  exact ⟨4097, go 4096 0 _ rfl (fun f i k a b => sI_n (by omega)) ⟨by rw [sI_s]; rfl, fun z => absurd z (by decide)⟩⟩
