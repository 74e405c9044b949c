/-! the name behind a line's first word -/
theorem tkW_lt {B : Nat → Nat} {N p : Nat} : tkW B N p < 2 ^ 30 := by
  unfold tkW
  refine pkR_lt (fun j hj => ?_)
  have := rn_all (q := isLb) (B := B) (N - tkP B N p) (tkP B N p) (tkP B N p + j) (by omega) (by omega)
  exact (isLb_b this).2
def colk (k : Nat) : Nat := ([0, 2, 7, 8, 0, 10] : List Nat).getD k 0
def toldB (U : Txt) (k b : Nat) : Bool := decide (k ≠ 0 ∧ k ≠ 4 ∧ 0 < U (1 + b) (colk k))
def nmS (B : Nat → Nat) (N : Nat) (U : Txt) (k p : Nat) : Sum (Nat × Nat) Nat :=
  if tkK B N p = 1 ∧ ¬ wI (tkW B N p) < 12 then (if k = 0 then (if fiB U (tkW B N p) < U 0 0 then .inl (3, tkP B N p) else .inr (tkW B N p)) else if fiB U (tkW B N p) < U 0 0 then (if toldB U k (fiB U (tkW B N p)) = true then .inl (3, tkP B N p) else .inr (fiB U (tkW B N p))) else .inl (4, tkP B N p)) else .inl (1, tkP B N p)
theorem nmS_ok {B : Nat → Nat} {N : Nat} {U : Txt} {k p b : Nat} (h : nmS B N U k p = .inr b) : (k = 0 → b < 2 ^ 30) ∧ (0 < k → b < U 0 0 ∧ toldB U k b = false) := by
  unfold nmS at h
  split at h
  · split at h
    · split at h
      · exact absurd h (fun z => nomatch z)
      · have e : tkW B N p = b := Sum.inr.inj h
        exact ⟨fun _ => by rw [← e]; exact tkW_lt, fun z => by omega⟩
    · split at h
      · split at h
        · exact absurd h (fun z => nomatch z)
        · rename_i y1 y2 y3
          have e : fiB U (tkW B N p) = b := Sum.inr.inj h
          rw [← e]
          exact ⟨fun z => by omega, fun _ => ⟨y2, by simpa using y3⟩⟩
      · exact absurd h (fun z => nomatch z)
  · exact absurd h (fun z => nomatch z)
theorem LcX.ref {U : Txt} {O : Nat → Bool} {w : Nat} {B : Nat → Nat} {N : Nat} {X : Mem} {v : Option Nat} (H : LcX U O w B N X) : LcX U O w B N (sR X 2 0 10 v) := by
  obtain ⟨⟨a1, a2, a3⟩, b, c, e, f⟩ := H
  exact ⟨⟨a1, (sR_n (by omega)).trans a2, a3⟩, (sR_n (by omega)).trans b, c, e, f⟩
theorem LcX.nm {U : Txt} {O : Nat → Bool} {w : Nat} {B : Nat → Nat} {N : Nat} {X : Mem} {v : Int32} (H : LcX U O w B N X) : LcX U O w B N (sI X 2 0 9 v) := by
  obtain ⟨⟨a1, a2, a3⟩, b, ⟨c, d⟩, ⟨e1, e2, e3, e4, e5, e6, e7, e8, e9, e10⟩, v, f1, f2, f3⟩ := H
  refine ⟨⟨(sI_n (by omega)).trans a1, a2, fun k hk => (sI_n (by omega)).trans (a3 k hk)⟩, b, ⟨(sI_n (by omega)).trans c, (sI_n (by omega)).trans d⟩, ⟨(sI_n (by omega)).trans e1, (sI_n (by omega)).trans e2, (sI_n (by omega)).trans e3, (sI_n (by omega)).trans e4, (sI_n (by omega)).trans e5, (sI_n (by omega)).trans e6, (sI_n (by omega)).trans e7, (sI_n (by omega)).trans e8, fun e => ?_, fun q hq => ?_⟩, v, f1, (sI_n (by omega)).trans f2, f3⟩
  · obtain ⟨g1, g2, g3, g4⟩ := e9 e
    exact ⟨(sI_n (by omega)).trans g1, (sI_n (by omega)).trans g2, (sI_n (by omega)).trans g3, (sI_n (by omega)).trans g4⟩
  · obtain ⟨h1, h2, h3, h4, h5, h6, h7, h8, h9, h10⟩ := e10 q hq
    exact ⟨(sI_n (by omega)).trans h1, (sI_n (by omega)).trans h2, (sI_n (by omega)).trans h3, fun e => ⟨(sI_n (by omega)).trans (h4 e).1, (sI_n (by omega)).trans (h4 e).2.1, (sI_n (by omega)).trans (h4 e).2.2⟩, (sI_n (by omega)).trans h5, (sI_n (by omega)).trans h6, (sI_n (by omega)).trans h7, (sI_n (by omega)).trans h8, fun e => ⟨(sI_n (by omega)).trans (h9 e).1, (sI_n (by omega)).trans (h9 e).2.1, (sI_n (by omega)).trans (h9 e).2.2⟩, fun k i e => (sI_n (by omega)).trans (h10 k i e)⟩
theorem FwX.ref {w : Nat} {X : Mem} {v : Option Nat} : FwX w X (sR X 2 0 10 v) := ⟨rfl, fun _ _ _ e => sR_n e, fun _ _ _ _ => rfl⟩
theorem t10_isTold {U : Txt} {w k b : Nat} (hU : TB U) (hw : w < 2) (hk : 0 < k) (hk6 : k < 6) (hb : b < U 0 0) {X : Mem} (hX : WXw U w X) (hr : X.2.2 2 0 10 = some (27 + (5 * w + b))) {Q : Int32 → Mem → Prop} (h : Q (bitV (toldB U k b)) X) : p_X6_isToldOfBird (nI k) X Q := by
  have h5 := hU.1
  obtain ⟨b1, b2, b3, b4, b5, b6, b7, b8, b9, b10⟩ := hX.2.2.2.2.2.2.2.2.2 b hb
  obtain ⟨c1, c2, c3, c4, c5, c6, c7, c8, c9, c10, c11, c12, c13, c14, c15⟩ := hU.2.2.2.2.2.2.2.2.2.2.2.2.1 b hb
  have lz : ∀ (v : Nat) (A C : Prop), v < 2 ^ 31 → (¬ 0 < v → A) → (0 < v → C) → ((nI v : Int32) ≤ 0 → A) ∧ (¬ (nI v : Int32) ≤ 0 → C) := by
    intro v A C hv ha hc
    rw [show (0 : Int32) = nI 0 from rfl, nI_leI hv (by decide)]
    exact ⟨fun z => ha (by omega), fun z => hc (by omega)⟩
  refine ⟨fun z => absurd (z.symm.trans hr) (fun z => nomatch z), fun q1 _ => ?_⟩
  unfold toldB at h
  have : k = 1 ∨ k = 2 ∨ k = 3 ∨ k = 4 ∨ k = 5 := by omega
  rcases this with rfl | rfl | rfl | rfl | rfl
  · refine ⟨fun _ => ⟨5 * w + b, hr, by omega, ?_⟩, fun z => absurd z (by decide), fun z => absurd z (by decide), fun z => absurd z (by decide), fun z => absurd rfl z⟩
    unfold p_X0_isHeard
    rw [b3]
    refine lz _ _ _ (by omega) (fun z => ?_) (fun z => ?_)
    · rw [decide_eq_false (by rintro ⟨_, _, y⟩; have y : 0 < U (1 + b) 2 := y; omega)] at h; exact h
    · rw [decide_eq_true (by refine ⟨by decide, by decide, ?_⟩; show 0 < U (1 + b) 2; omega)] at h; exact h
  · refine ⟨fun z => absurd z (by decide), fun _ => ⟨5 * w + b, hr, by omega, ?_⟩, fun z => absurd z (by decide), fun z => absurd z (by decide), fun _ z => absurd rfl z⟩
    rw [b5]
    refine lz _ _ _ (by omega) (fun z => ?_) (fun z => ?_)
    · rw [decide_eq_false (by rintro ⟨_, _, y⟩; exact z y)] at h; exact h
    · rw [decide_eq_true ⟨by decide, by decide, z⟩] at h; exact h
  · refine ⟨fun z => absurd z (by decide), fun z => absurd z (by decide), fun _ => ⟨5 * w + b, hr, by omega, ?_⟩, fun z => absurd z (by decide), fun _ _ z => absurd rfl z⟩
    rw [b6]
    refine lz _ _ _ (by omega) (fun z => ?_) (fun z => ?_)
    · rw [decide_eq_false (by rintro ⟨_, _, y⟩; exact z y)] at h; exact h
    · rw [decide_eq_true ⟨by decide, by decide, z⟩] at h; exact h
  · refine ⟨fun z => absurd z (by decide), fun z => absurd z (by decide), fun z => absurd z (by decide), fun z => absurd z (by decide), fun _ _ _ _ => ?_⟩
    rw [decide_eq_false (by rintro ⟨_, y, _⟩; exact y rfl)] at h; exact h
  · refine ⟨fun z => absurd z (by decide), fun z => absurd z (by decide), fun z => absurd z (by decide), fun _ => ⟨5 * w + b, hr, by omega, ?_⟩, fun _ _ _ z => absurd rfl z⟩
    rw [b8]
    have c : U (1 + b) 10 = 0 ∨ U (1 + b) 10 = 1 := by omega
    rcases c with c | c
    · rw [c]
      rw [decide_eq_false (by rintro ⟨_, _, y⟩; have y : 0 < U (1 + b) 10 := y; omega)] at h
      exact ⟨by decide, h⟩
    · rw [c]
      rw [decide_eq_true (by refine ⟨by decide, by decide, ?_⟩; show 0 < U (1 + b) 10; omega)] at h
      exact ⟨by decide, h⟩
theorem wR_n {v : Nat} : wR v = -1 ↔ ¬ wI v < 12 := by
  have := wI_le v
  unfold wR
  constructor
  · intro z y
    rw [if_pos y] at z
    exact (by decide : ∀ a, a < 12 → ¬ (nI a : Int32) = -1) _ y z
  · intro y; rw [if_neg y]
theorem fiR_n {U : Txt} {v : Nat} (hU : TB U) : fiR U v = -1 ↔ ¬ fiB U v < U 0 0 := by
  have := fiB_le U v
  have h5 := hU.1
  unfold fiR
  constructor
  · intro z y
    rw [if_pos y] at z
    exact (by decide : ∀ a, a < 6 → ¬ (nI a : Int32) = -1) _ (by omega) z
  · intro y; rw [if_neg y]
theorem t10_name {U : Txt} {O : Nat → Bool} {w : Nat} {B : Nat → Nat} {N k p : Nat} (hB : TxB B N) (hU : TB U) (hw : w < 2) (hk : k < 6) (hp : p ≤ N) {X : Mem} {Q : Int32 → Mem → Prop} (hS : LnX U O w B N p X) (hE : ∀ e, nmS B N U k p = .inl e → ∀ Z, ErX w X e Z → Q 0 Z) (hO : ∀ b, nmS B N U k p = .inr b → ∀ Z, FwX w X Z → LnX U O w B N (tkE B N p) Z → (k = 0 → Z.1 2 0 9 = nI b) → (0 < k → Z.2.2 2 0 10 = some (27 + (5 * w + b))) → Q 1 Z) : p_X6_readName (nI k) X Q := by
  have h5 := hU.1
  obtain ⟨hC, hT⟩ := hS
  have hKl := tkK_le (B := B) (N := N) (p := p)
  have hW := tkW_lt (B := B) (N := N) (p := p)
  have hfi := fiB_le U (tkW B N p)
  have b19 : ¬ (tkK B N p = 1 ∧ ¬ wI (tkW B N p) < 12) → b_X6_readName_19 Q X := fun y =>
    t_refuse hT.1 1 (fun Z e => hE _ (by unfold nmS; rw [if_neg y]) Z e)
  refine ⟨fun z => b19 (fun y => z (by rw [hT.2.2.1, y.1]; rfl)), fun z => ?_⟩
  rw [hT.2.2.1] at z
  have kK : tkK B N p = 1 := (nI_eq (b := 1) (by omega) (by decide)).mp z
  rw [hT.2.2.2.1 kK]
  refine t10_wordNum (by omega) ⟨fun y => ?_, fun y => b19 (fun c => y (wR_n.mpr c.2))⟩
  have nw := wR_n.mp y
  have c1 : tkK B N p = 1 ∧ ¬ wI (tkW B N p) < 12 := ⟨kK, nw⟩
  refine ⟨w, hC.2.1, hw, ?_⟩
  rw [hT.2.2.2.1 kK]
  refine t10_numOf (v := tkW B N p) hU hw (by omega) hC.2.2.2.1 ⟨fun k0 => ⟨fun y2 => ?_, fun y2 => ?_⟩, fun k0 => ⟨fun y2 => ?_, fun y2 => ?_⟩⟩
  · have kk : 0 < k := Nat.pos_of_ne_zero (fun c => k0 (by rw [c]; rfl))
    have fl : fiB U (tkW B N p) < U 0 0 := Classical.byContradiction (fun c => y2 ((fiR_n hU).mpr c))
    have fe : fiR U (tkW B N p) = nI (fiB U (tkW B N p)) := by unfold fiR; rw [if_pos fl]
    rw [fe, nI_clamp (by omega)]
    refine ⟨w, hC.2.1, hw, vp_in_nI (by omega) (by decide), ?_⟩
    rintro M11 rfl
    refine t10_isTold hU hw kk hk fl (hC.ref (v := some (27 + (5 * w + fiB U (tkW B N p))))).2.2.2.1 sR_s ?_
    cases e : toldB U k (fiB U (tkW B N p))
    · refine ⟨fun _ => ?_, fun z => absurd rfl z⟩
      rintro M14 rfl
      refine (LcX.nm (LcX.ref hC)).adv hB hp ((sI_n (by omega)).trans hT.2.1) (fun Z g1 g2 => hO (fiB U (tkW B N p)) ?_ Z (FwX.ref.tr ((FwX.set (Or.inl rfl)).tr g1.fx)) g2 (fun z => by omega) (fun _ => ?_))
      · unfold nmS; rw [if_pos c1, if_neg (by omega), if_pos fl, e, if_neg (by decide)]
      · rw [g1.1]; show (sR X 2 0 10 (some (27 + (5 * w + fiB U (tkW B N p))))).2.2 2 0 10 = _; exact sR_s
    · refine ⟨fun z => absurd z (by decide), fun _ => t_refuse (X := sR X 2 0 10 _) (p := p) hT.1 3 (fun Z g => hE _ ?_ Z ⟨FwX.ref.tr g.1, g.2⟩)⟩
      unfold nmS; rw [if_pos c1, if_neg (by omega), if_pos fl, e, if_pos rfl]
  · have kk : ¬ k = 0 := fun c => k0 (by rw [c]; rfl)
    have fl := (fiR_n hU).mp y2
    refine t_refuse hT.1 4 (fun Z g => hE _ ?_ Z g)
    unfold nmS; rw [if_pos c1, if_neg kk, if_neg fl]
  · have kk : k = 0 := (nI_eq (b := 0) (by omega) (by decide)).mp k0
    have fl := (fiR_n hU).mp y2
    rintro M14 rfl
    rw [hT.2.2.2.1 kK]
    refine (LcX.nm hC).adv hB hp ((sI_n (by omega)).trans hT.2.1) (fun Z g1 g2 => hO (tkW B N p) ?_ Z ((FwX.set (Or.inl rfl)).tr g1.fx) g2 (fun _ => ?_) (fun z => by omega))
    · unfold nmS; rw [if_pos c1, if_pos kk, if_neg fl]
    · exact (g1.2 2 0 9 (by omega)).trans sI_s
  · have kk : k = 0 := (nI_eq (b := 0) (by omega) (by decide)).mp k0
    have fl : fiB U (tkW B N p) < U 0 0 := Classical.byContradiction (fun c => y2 ((fiR_n hU).mpr c))
    refine t_refuse hT.1 3 (fun Z g => hE _ ?_ Z g)
    unfold nmS; rw [if_pos c1, if_pos kk, if_pos fl]
theorem t11_birdRead {U : Txt} {O : Nat → Bool} {B : Nat → Nat} {N k p : Nat} {cl : Int32} (hB : TxB B N) (hU : TB U) (hk : 0 < k) (hk6 : k < 6) (hcl : (k = 4 ∧ cl = -1) ∨ (k ≠ 4 ∧ cl = nI (colk k))) (hp : p ≤ N) {Y : Mem} {Q : Int32 → Mem → Prop} (hS : LnY U O B N p Y) (hE : ∀ e, nmS B N U k (tkE B N p) = .inl e → ∀ Z, ErY Y e Z → Q 0 Z) (hO : ∀ b, nmS B N U k (tkE B N p) = .inr b → ∀ Z, FwY Y Z → NoY Y Z → LnY U O B N (tkE B N (tkE B N p)) Z → Z.1 40 0 19 = nI b → Q 1 Z) : p_X11_birdRead cl Y Q := by
  have h5 := hU.1
  have hp2 := (tkE_le (B := B) hp).2
  refine hS.1.adv hB hp hS.2.2.1 (fun Y1 g1 g2 => ?_)
  obtain ⟨hC, hT⟩ := g2
  revert hE hO hT
  generalize tkE B N p = p1 at hp2 ⊢
  intro hE hO hT
  have hKl := kd_le (B := B) (N := N) (p := p1) (W := tkW B N p1)
  have hW := tkW_lt (B := B) (N := N) (p := p1)
  have hfi := fiB_le U (tkW B N p1)
  rw [hT.2.2.1]
  refine ⟨fun z => ?_, fun z => ?_⟩
  · have kK := kd_2.mp ((nI_eq (b := 2) (by omega) (by decide)).mp z)
    have h9 : Y1.1 40 0 9 = nI (tkW B N p1) := by have := hT.2.2.2.1 kK.1; rw [if_neg kK.2] at this; exact this
    rw [h9]
    refine t11_nameIn hU (by omega) hC.2.2.2.1 ?_
    rintro M4 rfl
    have hC4 := hC.num (v := fiR U (tkW B N p1))
    rw [sI_s]
    have f4 : FwY Y (sI Y1 40 0 19 (fiR U (tkW B N p1))) := g1.fy.tr (FwY.set (by omega))
    have h10 : (sI Y1 40 0 19 (fiR U (tkW B N p1))).1 40 0 10 = nI (tkP B N p1) := (sI_n (by omega)).trans hT.1
    by_cases fl : fiB U (tkW B N p1) < U 0 0
    · have fe : fiR U (tkW B N p1) = nI (fiB U (tkW B N p1)) := by unfold fiR; rw [if_pos fl]
      have go : toldB U k (fiB U (tkW B N p1)) = false → b_X11_birdRead_66 Q (sI Y1 40 0 19 (fiR U (tkW B N p1))) := by
        intro e
        refine hC4.adv hB hp2 ((sI_n (by omega)).trans hT.2.1) (fun Z q1 q2 => hO (fiB U (tkW B N p1)) ?_ Z (f4.tr q1.fy) ((g1.no.tr NoY.set).tr q1.no) q2 ?_)
        · unfold nmS; rw [if_pos kK, if_neg (by omega), if_pos fl, e, if_neg (by decide)]
        · rw [q1.2 40 0 19 (by omega), sI_s, fe]
      refine ⟨fun _ => ⟨fun y => ?_, fun y => ?_⟩, fun y => absurd (by rw [fe]; exact nI_le (a := 0) (by omega) (by omega)) y⟩
      · rcases hcl with ⟨k4, rfl⟩ | ⟨k4, rfl⟩
        · refine go ?_
          unfold toldB; rw [decide_eq_false]; rintro ⟨_, y, _⟩; exact y k4
        · exact absurd y (nI_pos (by have : colk k ≤ 10 := (by decide : ∀ k, k < 6 → colk k ≤ 10) k hk6; omega))
      · rcases hcl with ⟨k4, rfl⟩ | ⟨k4, rfl⟩
        · exact absurd (by decide) y
        · have hck : colk k < 14 := by have : colk k ≤ 10 := (by decide : ∀ k, k < 6 → colk k ≤ 10) k hk6; omega
          obtain ⟨c1, c2, c3, c4, c5, c6, c7, c8, c9, c10, c11, c12, c13, c14, c15⟩ := hU.2.2.2.2.2.2.2.2.2.2.2.2.1 _ fl
          have cb : U (1 + fiB U (tkW B N p1)) (colk k) < 2 ^ 31 := by
            have : k = 1 ∨ k = 2 ∨ k = 3 ∨ k = 5 := by omega
            rcases this with rfl | rfl | rfl | rfl
            · show U (1 + fiB U (tkW B N p1)) 2 < _; omega
            · show U (1 + fiB U (tkW B N p1)) 7 < _; omega
            · show U (1 + fiB U (tkW B N p1)) 8 < _; omega
            · show U (1 + fiB U (tkW B N p1)) 10 < _; omega
          rw [fe] at hC4 ⊢
          refine t11_readOf hU hC4.2.2.2.1 fl hck ?_
          rw [show (0 : Int32) = nI 0 from rfl, nI_leI cb (by decide), ← fe]
          refine ⟨fun y => go ?_, fun y => t_wrong h10 3 (fun Z e => hE _ ?_ Z ⟨f4.tr e.1, e.2⟩)⟩
          · unfold toldB; rw [decide_eq_false]; rintro ⟨_, _, y⟩; omega
          · unfold nmS; rw [if_pos kK, if_neg (by omega), if_pos fl, if_pos]
            unfold toldB; rw [decide_eq_true]; exact ⟨by omega, k4, by omega⟩
    · have fe : fiR U (tkW B N p1) = -1 := (fiR_n hU).mpr fl
      refine ⟨fun y => absurd y (by rw [fe]; decide), fun _ => t_wrong h10 4 (fun Z e => hE _ ?_ Z ⟨f4.tr e.1, e.2⟩)⟩
      unfold nmS; rw [if_pos kK, if_neg (by omega), if_neg fl]
  · have kK : ¬ (tkK B N p1 = 1 ∧ ¬ wI (tkW B N p1) < 12) := fun y => z (by rw [kd_2.mpr y]; rfl)
    refine t_wrong hT.1 1 (fun Z e => hE _ ?_ Z ⟨g1.fy.tr e.1, e.2⟩)
    unfold nmS; rw [if_neg kK]
