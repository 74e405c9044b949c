/-! a line in the reference -/
def tailM (B : Nat → Nat) (N : Nat) (U : Txt) (O : Nat → Bool) (k b q : Nat) : Sum (Nat × Nat) (Txt × (Nat → Bool) × Nat) :=
  match rd B N (rg k) q with
  | .inl e => .inl e
  | .inr r => .inr (updU U k b r.1, (fun j => O j || j == k), r.2)
def midS (B : Nat → Nat) (N : Nat) (U : Txt) (O : Nat → Bool) (k p : Nat) : Sum (Nat × Nat) (Txt × (Nat → Bool) × Nat) :=
  if (k = 0 ∧ 5 ≤ U 0 0) ∨ (k = 4 ∧ 10 ≤ U 0 1) then .inl (2, tkP B N p) else if 6 ≤ k ∧ O k = true then .inl (3, tkP B N p) else if k < 6 then
    match nmS B N U k (tkE B N p) with
    | .inl e => .inl e
    | .inr b => tailM B N U O k b (tkE B N (tkE B N p))
  else tailM B N U O k 0 (tkE B N p)
def stopS (B : Nat → Nat) (N : Nat) (s : Sum (Nat × Nat) (Txt × (Nat → Bool) × Nat)) : Sum (Nat × Nat) (Txt × (Nat → Bool) × Nat) :=
  match s with
  | .inl e => .inl e
  | .inr R => if tkK B N R.2.2 = 3 then .inr (R.1, R.2.1, tkE B N R.2.2) else .inl (1, tkP B N R.2.2)
theorem tail_stop {B : Nat → Nat} {N : Nat} {U : Txt} {O : Nat → Bool} {k b q : Nat} : tailS B N U O k b q = stopS B N (tailM B N U O k b q) := by
  unfold tailS tailM
  cases rd B N (rg k) q <;> rfl
theorem body_stop {B : Nat → Nat} {N : Nat} {U : Txt} {O : Nat → Bool} {k p : Nat} : bodyS B N U O k p = stopS B N (midS B N U O k p) := by
  unfold bodyS midS
  split
  · rfl
  · split
    · rfl
    · split
      · cases nmS B N U k (tkE B N p) with
        | inl e => rfl
        | inr b => exact tail_stop
      · exact tail_stop
/-- the numbers read so far, and what is left -/
def Pre (B : Nat → Nat) (N : Nat) (l0 : List (Nat × Nat)) (q0 : Nat) (pre : List Nat) (l : List (Nat × Nat)) (q : Nat) : Prop := (∀ e, rd B N l q = .inl e → rd B N l0 q0 = .inl e) ∧ ∀ vs r, rd B N l q = .inr (vs, r) → rd B N l0 q0 = .inr (pre ++ vs, r)
theorem Pre.rf {B : Nat → Nat} {N : Nat} {l : List (Nat × Nat)} {q : Nat} : Pre B N l q [] l q := ⟨fun _ h => h, fun _ _ h => h⟩
theorem Pre.step {B : Nat → Nat} {N : Nat} {l0 t : List (Nat × Nat)} {q0 q lo hi v : Nat} {pre : List Nat} (h : Pre B N l0 q0 pre ((lo, hi) :: t) q) (e : numS B N q lo hi = .inr v) : Pre B N l0 q0 (pre ++ [v]) t (tkE B N q) := by
  refine ⟨fun x hx => h.1 x ?_, fun vs r hx => ?_⟩
  · rw [rd]; simp only [e, hx]
  · have := h.2 (v :: vs) r (by rw [rd]; simp only [e, hx])
    rw [List.append_assoc]; exact this
theorem Pre.err {B : Nat → Nat} {N : Nat} {l0 t : List (Nat × Nat)} {q0 q lo hi : Nat} {pre : List Nat} {x : Nat × Nat} (h : Pre B N l0 q0 pre ((lo, hi) :: t) q) (e : numS B N q lo hi = .inl x) : rd B N l0 q0 = .inl x := h.1 x (by rw [rd]; simp only [e])
theorem Pre.fin {B : Nat → Nat} {N : Nat} {l0 : List (Nat × Nat)} {q0 q : Nat} {pre : List Nat} (h : Pre B N l0 q0 pre [] q) : rd B N l0 q0 = .inr (pre, q) := by
  have := h.2 [] q rfl
  rwa [List.append_nil] at this
theorem TokY.set {B : Nat → Nat} {N p : Nat} {Y : Mem} {f i k : Nat} {v : Int32} (hf : f ≠ 40) (H : TokY B N p Y) : TokY B N p (sI Y f i k v) := by
  obtain ⟨a, b, c, d, e⟩ := H
  exact ⟨(sI_n (by omega)).trans a, (sI_n (by omega)).trans b, (sI_n (by omega)).trans c, fun z => (sI_n (by omega)).trans (d z), fun z => (sI_n (by omega)).trans (e z)⟩
theorem TokY.set2 {B : Nat → Nat} {N p : Nat} {Y : Mem} {k : Nat} {v : Int32} (hk : k = 12 ∨ k = 15 ∨ k = 19) (H : TokY B N p Y) : TokY B N p (sI Y 40 0 k v) := by
  obtain ⟨a, b, c, d, e⟩ := H
  exact ⟨(sI_n (by omega)).trans a, (sI_n (by omega)).trans b, (sI_n (by omega)).trans c, fun z => (sI_n (by omega)).trans (d z), fun z => (sI_n (by omega)).trans (e z)⟩
theorem LcY.read {U : Txt} {O : Nat → Bool} {B : Nat → Nat} {N b j v : Nat} (hU : U 0 0 ≤ 5) (hb : b < U 0 0) (hj : j < 14) {Y : Mem} (H : LcY U O B N Y) : LcY (put U (1 + b) j v) O B N (sI Y 43 0 (70 + 14 * b + j) (nI v)) := by
  obtain ⟨a, b', ⟨c, d⟩, ⟨e1, e2, e3, e4, e5⟩, f⟩ := H
  refine ⟨⟨(sI_n (by omega)).trans a.1, fun k hk => (sI_n (by omega)).trans (a.2 k hk)⟩, fun k hk => (sI_n (by omega)).trans (b' k hk), ⟨(sI_n (by omega)).trans c, (sI_n (by omega)).trans d⟩, ⟨?_, ?_, fun b2 k x y => ?_, fun i j x y => ?_, fun k x => ?_⟩, fun k x y => (sI_n (by omega)).trans (f k x y)⟩
  · rw [pO (by omega)]; exact (sI_n (by omega)).trans e1
  · rw [pO (by omega)]; exact (sI_n (by omega)).trans e2
  · rw [pO (by omega)] at x
    by_cases z : b2 = b ∧ k = j
    · rw [z.1, z.2, sI_s, pS]
    · rw [sI_n (by omega), pO (by omega)]; exact e3 b2 k x y
  · rw [pO (by omega)] at x
    rw [sI_n (by omega), pO (by omega)]; exact e4 i j x y
  · rw [sI_n (by omega), pO (by omega)]; exact e5 k x
theorem LcY.word {U : Txt} {O : Nat → Bool} {B : Nat → Nat} {N i v : Nat} (hi : i < 10) {Y : Mem} (H : LcY U O B N Y) : LcY (put U 0 (2 + i) v) O B N (sI Y 45 0 (24 + i) (nI v)) := by
  obtain ⟨a, b', ⟨c, d⟩, ⟨e1, e2, e3, e4, e5⟩, f⟩ := H
  refine ⟨⟨(sI_n (by omega)).trans a.1, fun k hk => (sI_n (by omega)).trans (a.2 k hk)⟩, fun k hk => (sI_n (by omega)).trans (b' k hk), ⟨(sI_n (by omega)).trans c, (sI_n (by omega)).trans d⟩, ⟨?_, ?_, fun b2 k x y => ?_, fun i j x y => ?_, fun k x => ?_⟩, fun k x y => (sI_n (by omega)).trans (f k x y)⟩
  · rw [pO (by omega)]; exact (sI_n (by omega)).trans e1
  · rw [pO (by omega)]; exact (sI_n (by omega)).trans e2
  · rw [pO (by omega)] at x
    rw [sI_n (by omega), pO (by omega)]; exact e3 b2 k x y
  · rw [pO (by omega)] at x
    rw [sI_n (by omega), pO (by omega)]; exact e4 i j x y
  · by_cases z : k = i
    · rw [z, sI_s, pS]
    · rw [sI_n (by omega), pO (by omega)]; exact e5 k x
theorem LcY.mark {U : Txt} {O : Nat → Bool} {B : Nat → Nat} {N k : Nat} {Y : Mem} (H : LcY U O B N Y) : LcY U (fun j => O j || j == k) B N (sI Y 46 0 k (vp_nar .boolean 1)) := by
  obtain ⟨a, b', ⟨c, d⟩, ⟨e1, e2, e3, e4, e5⟩, f⟩ := H
  refine ⟨⟨(sI_n (by omega)).trans a.1, fun k hk => (sI_n (by omega)).trans (a.2 k hk)⟩, fun k hk => (sI_n (by omega)).trans (b' k hk), ⟨(sI_n (by omega)).trans c, (sI_n (by omega)).trans d⟩, ⟨(sI_n (by omega)).trans e1, (sI_n (by omega)).trans e2, fun b k x y => (sI_n (by omega)).trans (e3 b k x y), fun i j x y => (sI_n (by omega)).trans (e4 i j x y), fun k x => (sI_n (by omega)).trans (e5 k x)⟩, fun j x y => ?_⟩
  by_cases z : j = k
  · rw [z, sI_s]
    show _ = bitV (O k || k == k)
    rw [beq_self_eq_true, Bool.or_true]; rfl
  · rw [sI_n (by omega)]
    show _ = bitV (O j || j == k)
    have : (j == k) = false := by simpa using z
    rw [this, Bool.or_false]; exact f j x y
theorem LcY.low {U : Txt} {O : Nat → Bool} {B : Nat → Nat} {N k : Nat} (hk : k < 6) {Y : Mem} (H : LcY U O B N Y) : LcY U (fun j => O j || j == k) B N Y := by
  obtain ⟨a, b, c, d, f⟩ := H
  refine ⟨a, b, c, d, fun j x y => ?_⟩
  show _ = bitV (O j || j == k)
  have : (j == k) = false := by simp; omega
  rw [this, Bool.or_false]; exact f j x y
theorem t11_readP {b j : Nat} (hb : b < 5) (hj : j < 14) {v : Int32} {Y : Mem} {Q : Mem → Prop} (h : Q (sI Y 43 0 (70 + 14 * b + j) v)) : p_X11_read (nI b) (nI j) v Y Q := by
  unfold p_X11_read
  rw [show (70 : Int32) = nI 70 from rfl, show (14 : Int32) = nI 14 from rfl, pk_mul, nI_add, nI_add]
  refine ⟨vp_in_nI (by omega) (by decide), ?_⟩
  rw [nI_clamp (by omega)]
  rintro M1 rfl
  exact h
/-- how a line's lemma looks: a refusal, or all read up to the stop -/
def LineY (B : Nat → Nat) (N : Nat) (s : Sum (Nat × Nat) (Txt × (Nat → Bool) × Nat)) (Y : Mem) (Q : Int32 → Mem → Prop) : Prop := (∀ e, s = .inl e → ∀ Z, ErY Y e Z → Q 0 Z) ∧ ∀ R, s = .inr R → ∀ Z, FwY Y Z → LnY R.1 R.2.1 B N R.2.2 Z → Q 1 Z
theorem t11_wordK {U : Txt} {O : Nat → Bool} {B : Nat → Nat} {N k lo hi p : Nat} (hB : TxB B N) (hk6 : 6 ≤ k) (hk : k < 12) (hk7 : k ≠ 6) (hg : rg k = [(lo, hi)]) (hlo : lo ≤ 10) (hhi : hi ≤ 99999) (hp : p ≤ N) (hO : ¬ O k = true) {Y Y1 : Mem} (hF : FwY Y Y1) (hS : LnY U (fun j => O j || j == k) B N (tkE B N p) Y1) {Q : Int32 → Mem → Prop} (h : LineY B N (midS B N U O k p) Y Q) : p_X11_number (nI lo) (nI hi) Y1 (fun r M => b_X11_wordLine_93 Q (nI k) r M) := by
  have p1 := (tkE_le (B := B) hp).2
  have em : midS B N U O k p = tailM B N U O k 0 (tkE B N p) := by unfold midS; rw [if_neg (by omega), if_neg (by rintro ⟨_, z⟩; exact hO z), if_neg (by omega)]
  rw [em] at h
  have pr : Pre B N (rg k) (tkE B N p) [] [(lo, hi)] (tkE B N p) := by rw [← hg]; exact Pre.rf
  refine t11_number hB p1 hlo hhi hS (fun e he Z hZ => ⟨fun z => absurd rfl z, fun _ => h.1 e ?_ Z ⟨hF.tr hZ.1, hZ.2⟩⟩) (fun v he Z f1 f2 f3 f4 => ⟨fun _ => ⟨?_, ?_⟩, fun z => absurd z z1n⟩)
  · unfold tailM; simp only [pr.err he]
  · rw [show (17 : Int32) = nI 17 from rfl, nI_add]; exact vp_in_nI (by omega) (by decide)
  · rw [show (17 : Int32) = nI 17 from rfl, nI_add, nI_clamp (by omega), f4]
    rintro M9 rfl
    refine h.2 (updU U k 0 [v], (fun j => O j || j == k), tkE B N (tkE B N p)) ?_ _ ((hF.tr f1).tr (FwY.set (by omega))) ⟨?_, f3.2.set (by decide)⟩
    · unfold tailM; simp only [(pr.step he).fin]; rfl
    · have e1 : updU U k 0 [v] = put U 0 (2 + (k - 7)) v := by
        have : k = 7 ∨ k = 8 ∨ k = 9 ∨ k = 10 ∨ k = 11 := by omega
        rcases this with rfl | rfl | rfl | rfl | rfl <;> rfl
      show LcY (updU U k 0 [v]) _ B N _
      rw [e1, show 17 + k = 24 + (k - 7) from by omega]
      exact f3.1.word (by omega)
theorem t11_wordL {U : Txt} {O : Nat → Bool} {B : Nat → Nat} {N k p : Nat} (hB : TxB B N) (hk : 6 < k) (hk2 : k < 12) (hp : p ≤ N) {Y : Mem} (hS : LnY U O B N p Y) (h9 : Y.1 40 0 9 = nI k) {Q : Int32 → Mem → Prop} (h : LineY B N (midS B N U O k p) Y Q) : p_X11_wordLine Y Q := by
  rintro x1 rfl
  rw [h9, nI_clamp (by omega), hS.1.2.2.2.2 k (by omega) hk2]
  refine ⟨vp_in_nI hk2 (by decide), ?_⟩
  cases eo : O k
  · refine ⟨fun _ => ⟨vp_in_nI hk2 (by decide), ?_⟩, fun z => absurd rfl z⟩
    rintro M4 rfl
    refine (hS.1.mark (k := k)).adv hB hp ((sI_n (by omega)).trans hS.2.2.1) (fun Y1 g1 g2 => ?_)
    have f1 : FwY Y Y1 := (FwY.set (by omega)).tr g1.fy
    have no : ¬ O k = true := by rw [eo]; exact Bool.false_ne_true
    have : k = 7 ∨ k = 8 ∨ k = 9 ∨ k = 10 ∨ k = 11 := by omega
    rcases this with rfl | rfl | rfl | rfl | rfl
    · exact ⟨fun _ => t11_wordK (lo := 1) (hi := 31) hB (by decide) (by decide) (by decide) rfl (by decide) (by decide) hp no f1 g2 h, fun z => absurd rfl z⟩
    · exact ⟨fun z => absurd z (by decide), fun _ => ⟨fun z => absurd rfl z, fun _ => t11_wordK (lo := 1) (hi := 31) hB (by decide) (by decide) (by decide) rfl (by decide) (by decide) hp no f1 g2 h⟩⟩
    · exact ⟨fun z => absurd z (by decide), fun _ => ⟨fun _ => ⟨fun z => absurd rfl z, fun _ => t11_wordK (lo := 0) (hi := 99) hB (by decide) (by decide) (by decide) rfl (by decide) (by decide) hp no f1 g2 h⟩, fun z => absurd z (by decide)⟩⟩
    · exact ⟨fun z => absurd z (by decide), fun _ => ⟨fun _ => ⟨fun _ => ⟨fun z => absurd rfl z, fun _ => t11_wordK (lo := 0) (hi := 99999) hB (by decide) (by decide) (by decide) rfl (by decide) (by decide) hp no f1 g2 h⟩, fun z => absurd z (by decide)⟩, fun z => absurd z (by decide)⟩⟩
    · exact ⟨fun z => absurd z (by decide), fun _ => ⟨fun _ => ⟨fun _ => ⟨fun _ => t11_wordK (lo := 10) (hi := 99) hB (by decide) (by decide) (by decide) rfl (by decide) (by decide) hp no f1 g2 h, fun z => absurd z (by decide)⟩, fun z => absurd z (by decide)⟩, fun z => absurd z (by decide)⟩⟩
  · refine ⟨fun z => absurd z (by decide), fun _ => t_wrong hS.2.1 3 (fun Z g => h.1 _ ?_ Z g)⟩
    unfold midS; rw [if_neg (by omega), if_pos ⟨by omega, eo⟩]
theorem t11_oneL {U : Txt} {O : Nat → Bool} {B : Nat → Nat} {N k hi p : Nat} (hB : TxB B N) (hU : TB U) (hk : (k = 2 ∧ hi = 20) ∨ (k = 3 ∧ hi = 199)) (hp : p ≤ N) {Y : Mem} (hS : LnY U O B N p Y) {Q : Int32 → Mem → Prop} (h : LineY B N (midS B N U O k p) Y Q) : p_X11_oneLine (nI (colk k)) (nI hi) Y Q := by
  have p1 := (tkE_le (B := B) hp).2
  have p2 := (tkE_le (B := B) p1).2
  have h5 := hU.1
  have hg : rg k = [(1, hi)] := by rcases hk with ⟨rfl, rfl⟩ | ⟨rfl, rfl⟩ <;> rfl
  have hc : colk k = 5 + k := by rcases hk with ⟨rfl, rfl⟩ | ⟨rfl, rfl⟩ <;> rfl
  have em : midS B N U O k p = (match nmS B N U k (tkE B N p) with | .inl e => .inl e | .inr b => tailM B N U O k b (tkE B N (tkE B N p))) := by unfold midS; rw [if_neg (by omega), if_neg (by omega), if_pos (by omega)]
  rw [em] at h
  refine t11_birdRead (k := k) hB hU (by omega) (by omega) (Or.inr ⟨by omega, rfl⟩) hp hS (fun e he Z hZ => ⟨fun z => absurd rfl z, fun _ => h.1 e (by simp only [he]) Z hZ⟩) (fun b he Z f1 f2 f3 f4 => ⟨fun _ => ?_, fun z => absurd z z1n⟩)
  have hb := ((nmS_ok he).2 (by omega)).1
  simp only [he] at h
  rintro x3 rfl
  rw [f4]
  have pr : Pre B N (rg k) (tkE B N (tkE B N p)) [] [(1, hi)] (tkE B N (tkE B N p)) := by rw [← hg]; exact Pre.rf
  refine t11_number (lo := 1) hB p2 (by decide) (by omega) f3 (fun e he Z2 hZ => ⟨fun z => absurd rfl z, fun _ => h.1 e ?_ Z2 ⟨f1.tr hZ.1, hZ.2⟩⟩) (fun v he Z2 q1 q2 q3 q4 => ⟨fun _ => ?_, fun z => absurd z z1n⟩)
  · unfold tailM; simp only [pr.err he]
  · rw [q4, hc]
    refine t11_readP (by omega) (by omega) ?_
    refine h.2 (updU U k b [v], (fun j => O j || j == k), _) ?_ _ ((f1.tr q1).tr (FwY.set (by omega))) ⟨?_, q3.2.set (by decide)⟩
    · unfold tailM; simp only [(pr.step he).fin]; rfl
    · have e1 : updU U k b [v] = put U (1 + b) (5 + k) v := by rcases hk with ⟨rfl, rfl⟩ | ⟨rfl, rfl⟩ <;> rfl
      show LcY (updU U k b [v]) _ B N _
      rw [e1]
      exact (q3.1.read h5 hb (by omega)).low (by omega)
