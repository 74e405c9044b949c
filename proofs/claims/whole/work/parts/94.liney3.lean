theorem LcY.cell {U : Txt} {O : Nat → Bool} {B : Nat → Nat} {N c : Nat} {v : Int32} (hc : 30 + 3 * U 0 1 ≤ c) {Y : Mem} (H : LcY U O B N Y) : LcY U O B N (sI Y 44 0 c v) := by
  obtain ⟨a, b', ⟨c, d⟩, ⟨e1, e2, e3, e4, e5⟩, f⟩ := H
  exact ⟨⟨(sI_n (by omega)).trans a.1, fun k hk => (sI_n (by omega)).trans (a.2 k hk)⟩, fun k hk => (sI_n (by omega)).trans (b' k hk), ⟨(sI_n (by omega)).trans c, (sI_n (by omega)).trans d⟩, ⟨(sI_n (by omega)).trans e1, (sI_n (by omega)).trans e2, fun b k x y => (sI_n (by omega)).trans (e3 b k x y), fun i j x y => (sI_n (by omega)).trans (e4 i j x y), fun k x => (sI_n (by omega)).trans (e5 k x)⟩, fun k x y => (sI_n (by omega)).trans (f k x y)⟩
theorem LcY.row {U : Txt} {O : Nat → Bool} {B : Nat → Nat} {N j : Nat} {v : Int32} {Y : Mem} (hj : j < 14) (H : LcY U O B N Y) : LcY U O B N (sI Y 43 0 (70 + 14 * U 0 0 + j) v) := by
  obtain ⟨a, b', ⟨c, d⟩, ⟨e1, e2, e3, e4, e5⟩, f⟩ := H
  exact ⟨⟨(sI_n (by omega)).trans a.1, fun k hk => (sI_n (by omega)).trans (a.2 k hk)⟩, fun k hk => (sI_n (by omega)).trans (b' k hk), ⟨(sI_n (by omega)).trans c, (sI_n (by omega)).trans d⟩, ⟨(sI_n (by omega)).trans e1, (sI_n (by omega)).trans e2, fun b k x y => (sI_n (by omega)).trans (e3 b k x y), fun i j x y => (sI_n (by omega)).trans (e4 i j x y), fun k x => (sI_n (by omega)).trans (e5 k x)⟩, fun k x y => (sI_n (by omega)).trans (f k x y)⟩
theorem LcY.send {U : Txt} {O : Nat → Bool} {B : Nat → Nat} {N b a c : Nat} {Y : Mem} (h5 : U 0 0 ≤ 5) (hb : b < U 0 0) (H : LcY U O B N Y) (c0 : Y.1 44 0 (30 + 3 * U 0 1) = nI b) (c1 : Y.1 44 0 (30 + 3 * U 0 1 + 1) = nI a) (c2 : Y.1 44 0 (30 + 3 * U 0 1 + 2) = nI c) : LcY (uSend U b a c) O B N (sI (sI Y 40 0 15 (nI (U 0 1 + 1))) 43 0 (70 + 14 * b + 9) (nI (U (1 + b) 9 + 1))) := by
  have u01 : uSend U b a c 0 1 = U 0 1 + 1 := by unfold uSend; rw [pO (by omega), pS]
  have u0 : ∀ k, k ≠ 1 → uSend U b a c 0 k = U 0 k := fun k hk => by unfold uSend; rw [pO (by omega), pO (by omega), pO (by omega), pO (by omega), pO (by omega)]
  have ub9 : uSend U b a c (1 + b) 9 = U (1 + b) 9 + 1 := by unfold uSend; exact pS
  obtain ⟨A, b', ⟨C, d⟩, ⟨e1, e2, e3, e4, e5⟩, f⟩ := H
  refine ⟨⟨(sI_n (by omega)).trans ((sI_n (by omega)).trans A.1), fun k hk => (sI_n (by omega)).trans ((sI_n (by omega)).trans (A.2 k hk))⟩, fun k hk => (sI_n (by omega)).trans ((sI_n (by omega)).trans (b' k hk)), ⟨(sI_n (by omega)).trans ((sI_n (by omega)).trans C), (sI_n (by omega)).trans ((sI_n (by omega)).trans d)⟩, ⟨?_, ?_, fun b2 k x y => ?_, fun i j x y => ?_, fun k x => ?_⟩, fun k x y => (sI_n (by omega)).trans ((sI_n (by omega)).trans (f k x y))⟩
  · rw [u0 0 (by decide)]; exact (sI_n (by omega)).trans ((sI_n (by omega)).trans e1)
  · rw [u01, sI_n (by omega), sI_s]
  · rw [u0 0 (by decide)] at x
    by_cases z : b2 = b ∧ k = 9
    · rw [z.1, z.2, sI_s, ub9]
    · rw [sI_n (by omega), sI_n (by omega)]
      have : uSend U b a c (1 + b2) k = U (1 + b2) k := by unfold uSend; rw [pO (by omega), pO (by omega), pO (by omega), pO (by omega), pO (by omega)]
      rw [this]; exact e3 b2 k x y
  · rw [u01] at x
    rw [sI_n (by omega), sI_n (by omega)]
    rcases Nat.lt_or_ge i (U 0 1) with z | z
    · rw [snd_6 z (by omega) j y]; exact e4 i j z y
    · have e : i = U 0 1 := by omega
      subst e
      have : j = 0 ∨ j = 1 ∨ j = 2 := by omega
      rcases this with rfl | rfl | rfl
      · have v0 : uSend U b a c 6 (3 * U 0 1 + 0) = b := by unfold uSend; rw [pO (by omega), pO (by omega), pO (by omega), pO (by omega)]; exact pS
        rw [v0]; exact c0
      · have v0 : uSend U b a c 6 (3 * U 0 1 + 1) = a := by unfold uSend; rw [pO (by omega), pO (by omega), pO (by omega)]; exact pS
        rw [v0]; exact c1
      · have v0 : uSend U b a c 6 (3 * U 0 1 + 2) = c := by unfold uSend; rw [pO (by omega), pO (by omega)]; exact pS
        rw [v0]; exact c2
  · rw [u0 (2 + k) (by omega)]; exact (sI_n (by omega)).trans ((sI_n (by omega)).trans (e5 k x))
theorem LcY.bird {U : Txt} {O : Nat → Bool} {B : Nat → Nat} {N b a : Nat} {Y : Mem} (hn : U 0 0 < 5) (H : LcY U O B N Y) (hc : ∀ k, k < 14 → Y.1 43 0 (70 + 14 * U 0 0 + k) = nI (if k = 0 then b else if k = 1 then a else 0)) : LcY (uBird U b a) O B N (sI Y 40 0 12 (nI (U 0 0 + 1))) := by
  have e00 : uBird U b a 0 0 = U 0 0 + 1 := pS
  have e0k : ∀ k, k ≠ 0 → uBird U b a 0 k = U 0 k := fun k hk => by unfold uBird; rw [pO (by omega)]; exact if_neg (by omega)
  have e6 : uBird U b a 6 = U 6 := by funext c; unfold uBird; rw [pO (by omega)]; exact if_neg (by omega)
  have er : ∀ b', b' ≠ U 0 0 → uBird U b a (1 + b') = U (1 + b') := fun b' hb' => by funext c; unfold uBird; rw [pO (by omega)]; exact if_neg (by omega)
  have en : ∀ c, uBird U b a (1 + U 0 0) c = (if c = 0 then b else if c = 1 then a else 0) := fun c => by unfold uBird; rw [pO (by omega)]; exact if_pos rfl
  obtain ⟨A, b', ⟨C, d⟩, ⟨e1, e2, e3, e4, e5⟩, f⟩ := H
  refine ⟨⟨(sI_n (by omega)).trans A.1, fun k hk => (sI_n (by omega)).trans (A.2 k hk)⟩, fun k hk => (sI_n (by omega)).trans (b' k hk), ⟨(sI_n (by omega)).trans C, (sI_n (by omega)).trans d⟩, ⟨?_, ?_, fun b2 k x y => ?_, fun i j x y => ?_, fun k x => ?_⟩, fun k x y => (sI_n (by omega)).trans (f k x y)⟩
  · rw [e00, sI_s]
  · rw [e0k 1 (by decide)]; exact (sI_n (by omega)).trans e2
  · rw [e00] at x
    rw [sI_n (by omega)]
    by_cases z : b2 = U 0 0
    · rw [z, en]; exact hc k y
    · rw [er b2 z]; exact e3 b2 k (by omega) y
  · rw [e0k 1 (by decide)] at x
    rw [e6]; exact (sI_n (by omega)).trans (e4 i j x y)
  · rw [e0k (2 + k) (by omega)]; exact (sI_n (by omega)).trans (e5 k x)
theorem t11_sendL {U : Txt} {O : Nat → Bool} {B : Nat → Nat} {N p : Nat} (hB : TxB B N) (hU : TB U) (hp : p ≤ N) {Y : Mem} (hS : LnY U O B N p Y) {Q : Int32 → Mem → Prop} (h : LineY B N (midS B N U O 4 p) Y Q) : p_X11_sendLine Y Q := by
  have p1 := (tkE_le (B := B) hp).2
  have p2 := (tkE_le (B := B) p1).2
  have h5 := hU.1
  have h10 := hU.2.1
  unfold p_X11_sendLine
  rw [hS.1.2.2.2.1.2.1]
  refine ⟨fun zn => ?_, fun z => ?_⟩
  · have hn : ¬ 10 ≤ U 0 1 := fun y => zn (by rw [show U 0 1 = 10 from by omega]; rfl)
    rw [mid_name (by decide) (by decide) (by omega)] at h
    refine t11_birdRead (k := 4) hB hU (by decide) (by decide) (Or.inl ⟨rfl, rfl⟩) hp hS (fun e he Z hZ => ⟨fun z => absurd rfl z, fun _ => h.1 e (by simp only [he]) Z hZ⟩) (fun b he Z f1 f2 f3 f4 => ⟨fun _ => ?_, fun z => absurd z z1n⟩)
    have hb := ((nmS_ok he).2 (by decide)).1
    simp only [he] at h
    have hE : ∀ e, rd B N (rg 4) (tkE B N (tkE B N p)) = .inl e → ∀ Z, ErY Y e Z → Q 0 Z := fun e he => h.1 e (by unfold tailM; simp only [he])
    rintro x4 rfl
    have ex : (30 : Int32) + (3 : Int32) * Z.1 40 0 15 = nI (30 + 3 * U 0 1) := by rw [f3.1.2.2.2.1.2.1, show (3 : Int32) = nI 3 from rfl, pk_mul, show (30 : Int32) = nI 30 from rfl, nI_add]
    rw [ex, nI_clamp (by omega), f4]
    refine ⟨vp_in_nI (by omega) (by decide), ?_⟩
    rintro M5 rfl
    have pr : Pre B N (rg 4) (tkE B N (tkE B N p)) [] [(0, 3), (0, 63)] (tkE B N (tkE B N p)) := Pre.rf
    refine t11_number (lo := 0) (hi := 3) hB p2 (by decide) (by decide) ⟨f3.1.cell (by omega), f3.2.set (by decide)⟩ (fun e he Z2 hZ => ⟨fun z => absurd rfl z, fun _ => hE e (pr.err he) Z2 ⟨(f1.tr (FwY.set (by omega))).tr hZ.1, hZ.2⟩⟩) (fun v1 he1 Z1 a1 a2 a3 a4 => ⟨fun _ => ?_, fun z => absurd z z1n⟩)
    have q3 := (tkE_le (B := B) p2).2
    rw [nI_1, nI_clamp (by omega), a4]
    refine ⟨vp_in_nI (by omega) (by decide), ?_⟩
    rintro M8 rfl
    have F1 : FwY Y (sI Z1 44 0 (30 + 3 * U 0 1 + 1) (nI v1)) := ((f1.tr (FwY.set (by omega))).tr a1).tr (FwY.set (by omega))
    refine t11_number (lo := 0) (hi := 63) hB q3 (by decide) (by decide) ⟨a3.1.cell (by omega), a3.2.set (by decide)⟩ (fun e he Z2 hZ => ⟨fun z => absurd rfl z, fun _ => hE e ((pr.step he1).err he) Z2 ⟨F1.tr hZ.1, hZ.2⟩⟩) (fun v2 he2 Z2 b1 b2 b3 b4 => ⟨fun _ => ?_, fun z => absurd z z1n⟩)
    rw [show (2 : Int32) = nI 2 from rfl, nI_add, nI_clamp (by omega), b4]
    refine ⟨vp_in_nI (by omega) (by decide), ?_⟩
    rintro M11 rfl M12 rfl
    have hL := b3.1.cell (c := 30 + 3 * U 0 1 + 2) (v := nI v2) (by omega)
    have c0 : (sI Z2 44 0 (30 + 3 * U 0 1 + 2) (nI v2)).1 44 0 (30 + 3 * U 0 1) = nI b := by
      rw [sI_n (by omega), b2 44 0 _ (by decide), sI_n (by omega), a2 44 0 _ (by decide), sI_s]
    have c1 : (sI Z2 44 0 (30 + 3 * U 0 1 + 2) (nI v2)).1 44 0 (30 + 3 * U 0 1 + 1) = nI v1 := by
      rw [sI_n (by omega), b2 44 0 _ (by decide), sI_s]
    have F2 : FwY Y (sI Z2 44 0 (30 + 3 * U 0 1 + 2) (nI v2)) := (F1.tr b1).tr (FwY.set (by omega))
    have T2 : TokY B N _ (sI Z2 44 0 (30 + 3 * U 0 1 + 2) (nI v2)) := b3.2.set (by decide)
    have c2 : (sI Z2 44 0 (30 + 3 * U 0 1 + 2) (nI v2)).1 44 0 (30 + 3 * U 0 1 + 2) = nI v2 := sI_s
    revert hL c0 c1 c2 F2 T2
    generalize sI Z2 44 0 (30 + 3 * U 0 1 + 2) (nI v2) = W2
    intro hL c0 c1 F2 T2 c2
    rw [hL.2.2.2.1.2.1, nI_1, sI_n (by omega), c0]
    refine ⟨vp_in_nI (by omega) (by decide), vp_in_nI (by omega) (by decide), ?_⟩
    unfold p_X11_readOf
    rw [show (70 : Int32) = nI 70 from rfl, show (14 : Int32) = nI 14 from rfl, show (9 : Int32) = nI 9 from rfl, pk_mul, nI_add, nI_add]
    refine ⟨vp_in_nI (by omega) (by decide), ?_⟩
    have hlen := (hU.2.2.2.2.2.2.2.2.2.2.2.2.1 b hb).2.2.2.2.2.2.2.2.2.1
    rw [nI_clamp (by omega), sI_n (by omega), hL.2.2.2.1.2.2.1 b 9 hb (by decide)]
    show p_X11_read (nI b) (nI 9) (nI (U (1 + b) 9) + 1) _ _
    rw [nI_1]
    refine t11_readP (by omega) (by decide) ?_
    refine h.2 (updU U 4 b [v1, v2], (fun j => O j || j == 4), _) ?_ _ ((F2.tr (FwY.set (by omega))).tr (FwY.set (by omega))) ⟨(hL.send h5 hb c0 c1 c2).low (by decide), (T2.set2 (by omega)).set (by decide)⟩
    unfold tailM; simp only [((pr.step he1).step he2).fin]; rfl
  · have hn : U 0 1 = 10 := (nI_eq (b := 10) (by omega) (by decide)).mp z
    refine t_wrong hS.2.1 2 (fun Z g => h.1 _ ?_ Z g)
    unfold midS; rw [if_pos (Or.inr ⟨rfl, by omega⟩)]
theorem t11_birdL {U : Txt} {O : Nat → Bool} {B : Nat → Nat} {N p : Nat} (hB : TxB B N) (hU : TB U) (hp : p ≤ N) {Y : Mem} (hS : LnY U O B N p Y) {Q : Int32 → Mem → Prop} (h : LineY B N (midS B N U O 0 p) Y Q) : p_X11_birdLine Y Q := by
  have p1 := (tkE_le (B := B) hp).2
  have p2 := (tkE_le (B := B) p1).2
  have h5 := hU.1
  unfold p_X11_birdLine
  rw [hS.1.2.2.2.1.1]
  refine ⟨fun zn => ?_, fun z => ?_⟩
  · have hn : ¬ 5 ≤ U 0 0 := fun y => zn (by rw [show U 0 0 = 5 from by omega]; rfl)
    have em : midS B N U O 0 p = (match nmS B N U 0 (tkE B N p) with | .inl e => .inl e | .inr b => tailM B N U O 0 b (tkE B N (tkE B N p))) := by
      unfold midS; rw [if_neg (by omega), if_neg (by omega), if_pos (by decide)]; cases nmS B N U 0 (tkE B N p) <;> rfl
    rw [em] at h
    refine hS.1.adv hB hp hS.2.2.1 (fun Y1 g1 g2 => ?_)
    have hKl := kd_le (B := B) (N := N) (p := tkE B N p) (W := tkW B N (tkE B N p))
    have hW := tkW_lt (B := B) (N := N) (p := tkE B N p)
    rw [g2.2.2.2.1]
    refine ⟨fun z => ?_, fun z => ?_⟩
    · have kK := kd_2.mp ((nI_eq (b := 2) (by omega) (by decide)).mp z)
      have h9 : ∀ Z, TokY B N (tkE B N p) Z → Z.1 40 0 9 = nI (tkW B N (tkE B N p)) := fun Z hT => by have := hT.2.2.2.1 kK.1; rw [if_neg kK.2] at this; exact this
      rw [h9 _ g2.2]
      refine t11_nameIn hU (by omega) g2.1.2.2.2.1 ⟨fun y => ?_, fun y => ?_⟩
      · have fl : ¬ fiB U (tkW B N (tkE B N p)) < U 0 0 := fun c => by
          unfold fiR at y; rw [if_pos c] at y; exact nI_pos (by omega) y
        have nO : nmS B N U 0 (tkE B N p) = .inr (tkW B N (tkE B N p)) := by unfold nmS; rw [if_pos kK, if_pos rfl, if_neg fl]
        simp only [nO] at h
        have pr : Pre B N (rg 0) (tkE B N (tkE B N p)) [] [(0, 30)] (tkE B N (tkE B N p)) := Pre.rf
        have b74 : ∀ Z, FwY Y Z → LnY U O B N (tkE B N p) Z → (∀ i, i < 14 → Z.1 43 0 (70 + 14 * U 0 0 + i) = 0) → b_X11_birdLine_74 Q Z := by
          intro Z hF hL hz
          unfold b_X11_birdLine_74
          rw [hL.1.2.2.2.1.1, h9 _ hL.2]
          refine t11_readP (j := 0) (by omega) (by decide) ?_
          have hL1 := hL.1.row (j := 0) (v := nI (tkW B N (tkE B N p))) (by decide)
          refine hL1.adv hB p1 ((sI_n (by omega)).trans hL.2.2.1) (fun Z1 a1 a2 => ?_)
          have F1 : FwY Y Z1 := (hF.tr (FwY.set (by omega))).tr a1.fy
          refine t11_number (lo := 0) (hi := 30) hB p2 (by decide) (by decide) a2 (fun e he Z2 hZ => ⟨fun z => absurd rfl z, fun _ => h.1 e ?_ Z2 ⟨F1.tr hZ.1, hZ.2⟩⟩) (fun v he Z2 b1 b2 b3 b4 => ⟨fun _ => ?_, fun z => absurd z z1n⟩)
          · unfold tailM; simp only [pr.err he]
          · rw [b3.1.2.2.2.1.1, b4]
            refine t11_readP (j := 1) (by omega) (by decide) ?_
            have hL3 := b3.1.row (j := 1) (v := nI v) (by decide)
            rintro M12 rfl
            rw [hL3.2.2.2.1.1, nI_1]
            refine h.2 (updU U 0 (tkW B N (tkE B N p)) [v], (fun j => O j || j == 0), _) ?_ _ (((F1.tr b1).tr (FwY.set (by omega))).tr (FwY.set (by omega))) ⟨(hL3.bird (b := tkW B N (tkE B N p)) (a := v) (by omega) (fun k hk => ?_)).low (by decide), (b3.2.set (by decide)).set2 (by omega)⟩
            · unfold tailM; simp only [(pr.step he).fin]; rfl
            · by_cases k1 : k = 1
              · rw [k1, sI_s]; rfl
              · rw [sI_n (by omega), b2 43 0 _ (by decide), a1.no 43 0 _ (by decide)]
                by_cases k0 : k = 0
                · rw [k0, sI_s]; rfl
                · rw [sI_n (by omega), hz k hk, if_neg k0, if_neg k1]; rfl
        have lp : ∀ d j Z, j + d = 14 → FwY Y Z → LnY U O B N (tkE B N p) Z → (∀ i, i < j → Z.1 43 0 (70 + 14 * U 0 0 + i) = 0) → b_X11_birdLine_52 Q (d + 1) (nI j) Z := by
          intro d
          induction d with
          | zero =>
            intro j Z hj hF hL hz
            exact ⟨fun _ => b74 Z hF hL (fun i hi => hz i (by omega)), fun z => absurd (nI_le (a := 14) (b := j) (by omega) (by omega)) z⟩
          | succ d ih =>
            intro j Z hj hF hL hz
            refine ⟨fun z => absurd z (nI_ge (a := j) (b := 14) (by omega) (by decide)), fun _ => ?_⟩
            rw [hL.1.2.2.2.1.1]
            refine t11_readP (by omega) (by omega) ?_
            rintro x14 rfl
            rw [nI_1]
            refine ih (j + 1) _ (by omega) (hF.tr (FwY.set (by omega))) ⟨hL.1.row (by omega), hL.2.set (by decide)⟩ (fun i hi => ?_)
            by_cases e : i = j
            · rw [e, sI_s]
            · rw [sI_n (by omega)]; exact hz i (by omega)
        exact ⟨15, lp 14 0 Y1 rfl g1.fy g2 (fun i hi => absurd hi (by omega))⟩
      · have fl : fiB U (tkW B N (tkE B N p)) < U 0 0 := Classical.byContradiction (fun c => y (by rw [(fiR_n hU).mpr c]; decide))
        refine t_wrong g2.2.1 3 (fun Z e => h.1 (3, tkP B N (tkE B N p)) ?_ Z ⟨g1.fy.tr e.1, e.2⟩)
        have nO : nmS B N U 0 (tkE B N p) = .inl (3, tkP B N (tkE B N p)) := by unfold nmS; rw [if_pos kK, if_pos rfl, if_pos fl]
        simp only [nO]
    · have kK : ¬ (tkK B N (tkE B N p) = 1 ∧ ¬ wI (tkW B N (tkE B N p)) < 12) := fun y => z (by rw [kd_2.mpr y]; rfl)
      refine t_wrong g2.2.1 1 (fun Z e => h.1 (1, tkP B N (tkE B N p)) ?_ Z ⟨g1.fy.tr e.1, e.2⟩)
      have nO : nmS B N U 0 (tkE B N p) = .inl (1, tkP B N (tkE B N p)) := by unfold nmS; rw [if_neg kK]
      simp only [nO]
  · have hn : U 0 0 = 5 := (nI_eq (b := 5) (by omega) (by decide)).mp z
    refine t_wrong hS.2.1 2 (fun Z g => h.1 _ ?_ Z g)
    unfold midS; rw [if_pos (Or.inl ⟨rfl, by omega⟩)]
theorem t11_130 {U : Txt} {O : Nat → Bool} {B : Nat → Nat} {N k p : Nat} (hB : TxB B N) (hk : k < 12) (hU : TB U) (hp : p ≤ N) {Y : Mem} {Q : Int32 → Mem → Prop} (hN : ∀ R, midS B N U O k p = .inr R → R.2.2 ≤ N) (h : LineY B N (bodyS B N U O k p) Y Q) : LineY B N (midS B N U O k p) Y (fun r M => b_X11_lineRead_130 Q r M) := by
  rw [body_stop] at h
  refine ⟨fun e he Z hZ => ⟨fun z => absurd rfl z, fun _ => h.1 e (by rw [he]; rfl) Z hZ⟩, fun R he Z hF hL => ⟨fun _ => ?_, fun z => absurd z z1n⟩⟩
  have hr := hN R he
  have hKl := kd_le (B := B) (N := N) (p := R.2.2) (W := tkW B N R.2.2)
  rw [hL.2.2.2.1]
  refine ⟨fun z => ?_, fun z => ?_⟩
  · have kK := kd_4.mp ((nI_eq (b := 4) (by omega) (by decide)).mp z)
    refine hL.1.adv hB hr hL.2.2.1 (fun Z2 a1 a2 => h.2 (R.1, R.2.1, tkE B N R.2.2) ?_ Z2 (hF.tr a1.fy) a2)
    rw [he]; exact if_pos kK
  · have kK : ¬ tkK B N R.2.2 = 3 := fun y => z (by rw [kd_4.mpr y]; rfl)
    refine t_wrong hL.2.1 1 (fun Z2 g => h.1 (1, tkP B N R.2.2) ?_ Z2 ⟨hF.tr g.1, g.2⟩)
    rw [he]; exact if_neg kK
