/-! the reference's tokens -/
def kdY (K W : Nat) : Nat := if K = 0 then 0 else if K = 1 then (if wI W < 12 then 1 else 2) else K + 1
def TokY (B : Nat → Nat) (N p : Nat) (Z : Mem) : Prop := Z.1 40 0 10 = nI (tkP B N p) ∧ Z.1 40 0 7 = nI (tkE B N p) ∧ Z.1 40 0 8 = nI (kdY (tkK B N p) (tkW B N p)) ∧ (tkK B N p = 1 → Z.1 40 0 9 = nI (if wI (tkW B N p) < 12 then wI (tkW B N p) else tkW B N p)) ∧ (tkK B N p = 2 → Z.1 40 0 9 = nI (nv nY B (N - tkP B N p) (tkP B N p) 0))
theorem rn_max {q : Nat → Bool} {B : Nat → Nat} : ∀ d p, rn q B d p < p + d → q (B (rn q B d p)) = false
  | 0, p, h => absurd h (by rw [rn]; omega)
  | d + 1, p, h => by
    rw [rn] at h ⊢
    cases e : q (B p)
    · rw [if_neg (by decide)]; exact e
    · rw [e, if_pos rfl] at h
      rw [if_pos rfl]
      exact rn_max d (p + 1) (by omega)
theorem t11_num_l {B : Nat → Nat} {N : Nat} (hN : N ≤ 700) (hB : ∀ k, k < N → B k < 256) {Y : Mem} (hR : RdY B N Y) {Q : Mem → Prop} : ∀ (d p v : Nat) (Z : Mem), p + d = N → v < 1000000 → KY Y Z → Z.1 40 0 7 = nI p → Z.1 40 0 9 = nI v → (∀ Z', KY Y Z' → Z'.1 40 0 7 = nI (rn isDb B d p) → Z'.1 40 0 9 = nI (nv nY B d p v) → Z'.1 40 0 10 = Z.1 40 0 10 → Z'.1 40 0 8 = Z.1 40 0 8 → Q Z') → b_X11_token_212 Q (d + 1) Z := by
  intro d
  induction d with
  | zero =>
    intro p v Z hp hv hk h7 h9 h
    unfold b_X11_token_212
    rw [h7]
    exact t_digYE hN (by omega) (by omega) (hR.k hk) ⟨fun _ => h _ hk h7 h9 rfl rfl, fun z => absurd rfl z⟩
  | succ d ih =>
    intro p v Z hp hv hk h7 h9 h
    have hRZ := hR.k hk
    have hbp := hB p (by omega)
    unfold b_X11_token_212
    rw [h7]
    refine t_digY hN hB (by omega) hRZ ?_
    rw [rn, nv] at h
    cases e : isDb (B p)
    · rw [e] at h
      exact ⟨fun _ => h _ hk h7 h9 rfl rfl, fun z => absurd rfl z⟩
    · rw [e] at h
      obtain ⟨d1, d2⟩ := isDb_b e
      refine ⟨fun z => absurd z (by decide), fun _ => ?_⟩
      have nx : ∀ s1, s1 = nI (nY v (B p - 48)) → b_X11_token_260 Q (fun M => b_X11_token_212 Q (d + 1) M) s1 Z := by
        rintro s1 rfl M18 rfl M19 rfl
        rw [sI_n (by omega), h7, nI_1]
        refine ih (p + 1) (nY v (B p - 48)) _ (by omega) (by unfold nY; split <;> omega) (hk.tr ((KY.set (by omega)).tr (KY.set (by omega)))) sI_s (by rw [sI_n (by omega), sI_s]) (fun Z' a b c e' f => h Z' a b c (e'.trans (by rw [sI_n (by omega), sI_n (by omega)])) (f.trans (by rw [sI_n (by omega), sI_n (by omega)])))
      rw [h9, h7, show (99999 : Int32) = nI 99999 from rfl]
      refine ⟨fun y => ⟨vp_in_nI (by omega) (by decide), nx _ ?_⟩, fun y => nx _ ?_⟩
      · have hv2 : v ≤ 99999 := Nat.le_of_not_lt (fun z => nI_ge z (by omega) y)
        rw [nI_clamp (by omega), hRZ.2 p (by omega), show (10 : Int32) = nI 10 from rfl, pk_mul, nI_add, show (48 : Int32) = nI 48 from rfl, pk_sub (by omega)]
        unfold nY; rw [if_neg (by omega)]; congr 1; omega
      · have hv2 : 99999 < v := Nat.lt_of_not_le (fun z => y (nI_le z (by decide)))
        unfold nY; rw [if_pos hv2]
theorem t11_word_l {B : Nat → Nat} {N q : Nat} (hN : N ≤ 700) (hB : ∀ k, k < N → B k < 256) {Y : Mem} (hR : RdY B N Y) {Q : Mem → Prop} : ∀ (d p : Nat) (Z : Mem), p + d = N → KY Y Z → Z.1 40 0 7 = nI p → (∀ Z', KY Y Z' → Z'.1 40 0 7 = nI (rn isLb B d p) → Z'.1 40 0 10 = Z.1 40 0 10 → b_X11_token_114 Q Z') → b_X11_token_90 Q (d + 1) Z := by
  intro d
  induction d with
  | zero =>
    intro p Z hp hk h7 h
    unfold b_X11_token_90
    rw [h7]
    exact t_smallE hN (by omega) (by omega) (hR.k hk) ⟨fun _ => h _ hk h7 rfl, fun z => absurd rfl z⟩
  | succ d ih =>
    intro p Z hp hk h7 h
    have hRZ := hR.k hk
    have hbp := hB p (by omega)
    unfold b_X11_token_90
    rw [h7]
    refine t_small hN hB (by omega) hRZ ?_
    rw [rn] at h
    cases e : isLb (B p)
    · rw [e] at h
      exact ⟨fun _ => h _ hk h7 rfl, fun z => absurd rfl z⟩
    · rw [e] at h
      refine ⟨fun z => absurd z (by decide), fun _ => ?_⟩
      rintro M30 rfl
      rw [h7, nI_1]
      exact ih (p + 1) _ (by omega) (hk.tr (KY.set (by omega))) sI_s (fun Z' a b c => h Z' a b (c.trans (sI_n (by omega))))
theorem t11_tok {B : Nat → Nat} {N p : Nat} (hN : N ≤ 700) (hB : ∀ k, k < N → B k < 256) (hp : p ≤ N) {Y : Mem} (hR : RdY B N Y) (hW : WdY Y) (h7 : Y.1 40 0 7 = nI p) {Q : Mem → Prop} (h : ∀ Z, KY Y Z → TokY B N p Z → Q Z) : p_X11_token Y Q := by
  have hle := tkP_le (B := B) hp
  have k52 : ∀ Z, KY Y Z → Z.1 40 0 7 = nI (tkP B N p) → b_X11_token_52 Q Z := by
    intro Z hk hz
    rintro M2 rfl
    rw [hz]
    have hk2 : KY Y (sI Z 40 0 10 (nI (tkP B N p))) := hk.tr (KY.set (by omega))
    have hR2 := hR.k hk2
    have hz2 : (sI Z 40 0 10 (nI (tkP B N p))).1 40 0 7 = nI (tkP B N p) := by rw [sI_n (by omega)]; exact hz
    rcases Nat.lt_or_ge (tkP B N p) N with y | y
    · have hb := hB _ y
      have hnot : ¬ N ≤ tkP B N p := by omega
      rw [hz2, hR2.1]
      refine ⟨fun _ => t_small hN hB y hR2 ?_, fun z => absurd ((nI_eq (by omega) (by omega)).mp z) (by omega)⟩
      cases e : isLb (B (tkP B N p))
      · refine ⟨fun _ => ?_, fun z => absurd rfl z⟩
        rw [hz2]
        refine t_digY hN hB y hR2 ?_
        cases e2 : isDb (B (tkP B N p))
        · refine ⟨fun _ => ?_, fun z => absurd rfl z⟩
          have kE : tkE B N p = tkP B N p + 1 := by unfold tkE; rw [if_neg hnot, e, e2, if_neg (by decide), if_neg (by decide)]
          have kK : tkK B N p = if B (tkP B N p) = 59 then 3 else 4 := by unfold tkK; rw [if_neg hnot, e, e2, if_neg (by decide), if_neg (by decide)]
          have key : ∀ s1, s1 = nI (tkK B N p + 1) → b_X11_token_296 Q s1 (sI Z 40 0 10 (nI (tkP B N p))) := by
            rintro s1 rfl M10 rfl M11 rfl
            rw [sI_n (by omega), hz2, nI_1]
            refine h _ (hk2.tr ((KY.set (by omega)).tr (KY.set (by omega)))) ⟨?_, ?_, ?_, fun q => ?_, fun q => ?_⟩
            · rw [sI_n (by omega), sI_n (by omega), sI_s]
            · rw [sI_s, kE]
            · rw [sI_n (by omega), sI_s]
              unfold kdY
              rw [if_neg (by rw [kK]; split <;> omega), if_neg (by rw [kK]; split <;> omega)]
            · rw [kK] at q; split at q <;> omega
            · rw [kK] at q; split at q <;> omega
          rw [hz2, nI_clamp (by omega), hR2.2 _ y]
          refine ⟨vp_in_nI (by omega) (by decide), fun n => key _ ?_, fun n => key _ ?_⟩
          · have : B (tkP B N p) ≠ 59 := fun w => n (by rw [w]; rfl)
            rw [kK, if_neg this]; rfl
          · have : B (tkP B N p) = 59 := (nI_eq (a := B (tkP B N p)) (b := 59) (by omega) (by decide)).mp n
            rw [kK, if_pos this]; rfl
        · refine ⟨fun z => absurd z (by decide), fun _ => ?_⟩
          have kE : tkE B N p = rn isDb B (N - tkP B N p) (tkP B N p) := by unfold tkE; rw [if_neg hnot, e, e2, if_neg (by decide), if_pos rfl]
          have kK : tkK B N p = 2 := by unfold tkK; rw [if_neg hnot, e, e2, if_neg (by decide), if_pos rfl]
          rintro M12 rfl M13 rfl
          refine ⟨N - tkP B N p + 1, t11_num_l hN hB hR (N - tkP B N p) (tkP B N p) 0 _ (by omega) (by decide) (hk2.tr ((KY.set (by omega)).tr (KY.set (by omega)))) (by rw [sI_n (by omega), sI_n (by omega)]; exact hz2) sI_s (fun Z' a b c e' f => h Z' a ⟨?_, by rw [kE]; exact b, ?_, fun q => by omega, fun _ => c⟩)⟩
          · rw [e', sI_n (by omega), sI_n (by omega), sI_s]
          · rw [f, sI_n (by omega), sI_s, kK]; rfl
      · refine ⟨fun z => absurd z (by decide), fun _ => ?_⟩
        have kE : tkE B N p = rn isLb B (N - tkP B N p) (tkP B N p) := by unfold tkE; rw [if_neg hnot, e, if_pos rfl]
        have kK : tkK B N p = if rn isLb B (N - tkP B N p) (tkP B N p) - tkP B N p ≤ 6 then 1 else 4 := by unfold tkK; rw [if_neg hnot, e, if_pos rfl]
        refine ⟨N - tkP B N p + 1, t11_word_l (q := tkP B N p) hN hB hR (N - tkP B N p) (tkP B N p) _ (by omega) hk2 hz2 (fun Z' a b c => ?_)⟩
        have rl := rn_le isLb B (N - tkP B N p) (tkP B N p)
        have al := fun j hj => rn_all (q := isLb) (B := B) (N - tkP B N p) (tkP B N p) j hj
        obtain ⟨L, hL⟩ : ∃ L, rn isLb B (N - tkP B N p) (tkP B N p) = tkP B N p + L := ⟨_, (Nat.add_sub_of_le rl.1).symm⟩
        have kW : tkW B N p = pkR B (tkP B N p) L := by unfold tkW; rw [hL, Nat.add_sub_cancel_left]
        rw [hL, Nat.add_sub_cancel_left] at kK
        rw [hL] at kE b rl
        have al2 : ∀ j, j < L → isLb (B (tkP B N p + j)) = true := fun j hj => al _ (by omega) (by omega)
        have c2 : Z'.1 40 0 10 = nI (tkP B N p) := c.trans sI_s
        unfold b_X11_token_114
        rw [c2, b]
        refine t11_wordAt hN hB (by omega) al2 (hR.k a) (hW.k a) ?_
        rintro M23 rfl
        rw [sI_s]
        have k23 := fun v => a.tr (KY.set (Y := Z') (k := 9) (v := v) (by omega))
        have done1 : L ≤ 6 → wI (tkW B N p) < 12 → ∀ v, v = nI (wI (tkW B N p)) → b_X11_token_161 Q 1 (sI Z' 40 0 9 v) := by
          rintro y y2 v rfl M26 rfl
          rw [if_pos y] at kK
          rw [sI_s]
          refine ⟨fun _ => h _ ((k23 _).tr (KY.set (by omega))) ⟨?_, ?_, ?_, fun _ => ?_, fun q => by omega⟩, fun z => absurd z (by decide)⟩
          · rw [sI_n (by omega), sI_n (by omega)]; exact c2
          · rw [sI_n (by omega), sI_n (by omega), kE]; exact b
          · rw [sI_s, kK]; unfold kdY; rw [if_neg (by decide), if_pos rfl, if_pos y2]; rfl
          · rw [sI_n (by omega), sI_s, if_pos y2]
        have ev : (sI Z' 40 0 9 (-1)).1 40 0 7 - (sI Z' 40 0 9 (-1)).1 40 0 10 = nI L := by
          rw [sI_n (by omega), sI_n (by omega), b, c2, pk_sub (by omega), Nat.add_sub_cancel_left]
        have done2 : ¬ (L ≤ 6 ∧ wI (tkW B N p) < 12) → (((sI Z' 40 0 9 (-1)).1 40 0 7 - (sI Z' 40 0 9 (-1)).1 40 0 10 ≤ 6 → b_X11_token_161 Q 2 (sI Z' 40 0 9 (-1))) ∧ (¬ (sI Z' 40 0 9 (-1)).1 40 0 7 - (sI Z' 40 0 9 (-1)).1 40 0 10 ≤ 6 → b_X11_token_161 Q 5 (sI Z' 40 0 9 (-1)))) := by
          intro nn
          rw [ev, show (6 : Int32) = nI 6 from rfl]
          refine ⟨fun z => ?_, fun z => ?_⟩
          · have y : L ≤ 6 := Nat.le_of_not_lt (fun w => nI_ge w (by omega) z)
            have y2 : ¬ wI (tkW B N p) < 12 := fun w => nn ⟨y, w⟩
            rw [if_pos y] at kK
            rintro M26 rfl
            rw [sI_s]
            refine ⟨fun z => absurd rfl z, fun _ => ?_⟩
            have e10 : (sI (sI Z' 40 0 9 (-1)) 40 0 8 2).1 40 0 10 = nI (tkP B N p) := by rw [sI_n (by omega), sI_n (by omega)]; exact c2
            have e7 : (sI (sI Z' 40 0 9 (-1)) 40 0 8 2).1 40 0 7 = nI (tkP B N p + L) := by rw [sI_n (by omega), sI_n (by omega)]; exact b
            rw [e10, e7]
            refine t11_packed hN (by omega) y al2 (hR.k ((k23 _).tr (KY.set (by omega)))) ?_
            rintro M29 rfl
            refine h _ (((k23 _).tr (KY.set (by omega))).tr (KY.set (by omega))) ⟨?_, ?_, ?_, fun _ => ?_, fun q => by omega⟩
            · rw [sI_n (by omega)]; exact e10
            · rw [sI_n (by omega), kE]; exact e7
            · rw [sI_n (by omega), sI_s, kK]; unfold kdY; rw [if_neg (by decide), if_pos rfl, if_neg y2]; rfl
            · rw [sI_s, if_neg y2, kW]
          · have y : ¬ L ≤ 6 := fun w => z (nI_le w (by decide))
            rw [if_neg y] at kK
            rintro M26 rfl
            rw [sI_s]
            refine ⟨fun _ => h _ ((k23 _).tr (KY.set (by omega))) ⟨?_, ?_, ?_, fun q => by omega, fun q => by omega⟩, fun z => absurd z (by decide)⟩
            · rw [sI_n (by omega), sI_n (by omega)]; exact c2
            · rw [sI_n (by omega), sI_n (by omega), kE]; exact b
            · rw [sI_s, kK]; rfl
        by_cases y : L ≤ 6
        · rw [if_pos y, ← kW]
          by_cases y2 : wI (tkW B N p) < 12
          · unfold wR; rw [if_pos y2]
            exact ⟨fun z => absurd z (nI_pos (by omega)), fun _ => done1 y y2 _ rfl⟩
          · unfold wR; rw [if_neg y2]
            exact ⟨fun _ => done2 (fun w => y2 w.2), fun z => absurd (by decide) z⟩
        · rw [if_neg y]
          exact ⟨fun _ => done2 (fun w => y w.1), fun z => absurd (by decide) z⟩
    · have kE : tkE B N p = tkP B N p := by unfold tkE; rw [if_pos y]
      have kK : tkK B N p = 0 := by unfold tkK; rw [if_pos y]
      have eN : tkP B N p = N := by omega
      rw [hz2, hR2.1]
      refine ⟨fun z => absurd (by rw [eN]) z, fun _ => ?_⟩
      rintro M31 rfl
      refine h _ (hk2.tr (KY.set (by omega))) ⟨by rw [sI_n (by omega), sI_s], by rw [sI_n (by omega), kE]; exact hz2, by rw [sI_s, kK]; rfl, fun q => by omega, fun q => by omega⟩
  have go : ∀ (d p' : Nat) (Z : Mem), p' + d = N → rn isBb B d p' = tkP B N p → KY Y Z → Z.1 40 0 7 = nI p' → b_X11_token_0 Q (d + 1) Z := by
    intro d
    induction d with
    | zero =>
      intro p' Z hd he hk hz
      rw [rn] at he
      exact ⟨fun _ => k52 Z hk (by rw [hz, he]), fun z => absurd (by rw [(hR.k hk).1, hz]; exact nI_le (by omega) (by omega)) z⟩
    | succ d ih =>
      intro p' Z hd he hk hz
      have hRZ := hR.k hk
      have hb := hB p' (by omega)
      rw [rn] at he
      have nx : isBb (B p') = true → b_X11_token_39 Q (fun M => b_X11_token_0 Q (d + 1) M) Z := by
        rintro e M34 rfl
        rw [e, if_pos rfl] at he
        rw [hz, nI_1]
        exact ih (p' + 1) _ (by omega) he (hk.tr (KY.set (by omega))) sI_s
      unfold b_X11_token_0
      rw [hz, hRZ.1, nI_clamp (by omega), hRZ.2 p' (by omega)]
      refine ⟨fun z => absurd z (nI_ge (by omega) (by omega)), fun _ => ⟨vp_in_nI (by omega) (by decide), fun n => nx ?_, fun n => ⟨vp_in_nI (by omega) (by decide), fun n2 => ?_, fun n2 => nx ?_⟩⟩⟩
      · have : B p' = 10 := (nI_eq (a := B p') (b := 10) (by omega) (by decide)).mp n
        unfold isBb; rw [this]; rfl
      · have h1 : B p' ≠ 10 := fun w => n (by rw [w]; rfl)
        have h2 : B p' ≠ 32 := fun w => n2 (by rw [w]; rfl)
        have e : isBb (B p') = false := by unfold isBb; simp [h1, h2]
        rw [e, if_neg (by decide)] at he
        exact k52 Z hk (by rw [hz, he])
      · have : B p' = 32 := (nI_eq (a := B p') (b := 32) (by omega) (by decide)).mp n2
        unfold isBb; rw [this]; rfl
  exact ⟨N - p + 1, go (N - p) p Y (by omega) rfl (KY.rf Y) h7⟩
