/-! the class's solver -/
theorem sR_s {M : Mem} {f i k : Nat} {v : Option Nat} : (sR M f i k v).2.2 f i k = v := by simp [sR]
theorem sR_n {M : Mem} {f i k f' i' k' : Nat} {v : Option Nat} (h : ¬ (f' = f ∧ i' = i ∧ k' = k)) : (sR M f i k v).2.2 f' i' k' = M.2.2 f' i' k' := if_neg h
theorem sR_1 {M : Mem} {f i k : Nat} {v : Option Nat} : (sR M f i k v).1 = M.1 := rfl
theorem cl_m {d : Int} {m : Nat} (hm0 : 0 < m) (hm : m < 1000) (h1 : -100000 < d) (h2 : d < 100000) : (if 0 < (if iI d < nI m then iI d else nI m) then (if iI d < nI m then iI d else nI m) else 0) = nI (if d < 0 then 0 else if (m : Int) < d then m else d.toNat) := by
  have cm : iI d < nI m ↔ d < m := by rw [Int32.lt_iff_toInt_lt, iI_t (by omega) (by omega), nI_toInt (by omega)]
  have c0 : 0 < iI d ↔ 0 < d := by rw [Int32.lt_iff_toInt_lt, iI_t (by omega) (by omega), show (0 : Int32).toInt = 0 from by decide]
  by_cases a : d < m
  · rw [if_pos (cm.mpr a)]
    by_cases b : 0 < d
    · rw [if_pos (c0.mpr b), if_neg (by omega), if_neg (by omega), ← iI_n]; congr 1; omega
    · rw [if_neg (fun z => b (c0.mp z))]
      by_cases e : d < 0
      · rw [if_pos e]; rfl
      · rw [if_neg e, if_neg (by omega), show d.toNat = 0 from by omega]; rfl
  · rw [if_neg (fun z => a (cm.mp z)), if_pos (show (0 : Int32) < nI m from nI_lt (a := 0) hm0 (by omega)), if_neg (by omega)]
    by_cases e : (m : Int) < d
    · rw [if_pos e]
    · rw [if_neg e, show d.toNat = m from by omega]
def rgd (T : Txt) (Rg : Nat → Option Nat) (b : Nat) : Bool := plB T b && (Rg b).isSome
def okB (T : Txt) (Rg : Nat → Option Nat) (but : Option Nat) (b : Nat) : Bool := rgd T Rg b && !(but == some b)
def usL (T : Txt) (Rg : Nat → Option Nat) (but : Option Nat) (n : Nat) : List Nat := (List.range n).filter (okB T Rg but)
theorem len_fil (q : Nat → Bool) : ∀ n, ((List.range n).filter q).length = ct q n
  | 0 => rfl
  | n + 1 => by
    rw [List.range_succ, List.filter_append, List.length_append, len_fil q n, ct]
    congr 1
    cases h : q n <;> simp [List.filter, h]
def RgB (Rg : Nat → Option Nat) : Prop := ∀ b r, Rg b = some r → r < 401
def RgX (Rg : Nat → Option Nat) (X : Mem) : Prop := ∀ b, b < 5 → X.1 29 0 b = oI (Rg b)
def RgY (Rg : Nat → Option Nat) (Y : Mem) : Prop := ∀ b, b < 5 → Y.1 54 0 (293 + b) = oI (Rg b)
def rv (Rg : Nat → Option Nat) (b : Nat) : Nat := (Rg b).getD 0
/-- frame of the solver -/
def GS (X Z : Mem) : Prop := (∀ f i k, f ≠ 17 → f ≠ 19 → Z.1 f i k = X.1 f i k) ∧ Z.2.1 = X.2.1 ∧ ∀ f i k, f ≠ 18 → Z.2.2 f i k = X.2.2 f i k
theorem GS.rf (X : Mem) : GS X X := ⟨fun _ _ _ _ _ => rfl, rfl, fun _ _ _ _ => rfl⟩
theorem GS.tr {X Z V : Mem} (h : GS X Z) (h2 : GS Z V) : GS X V := ⟨fun f i k a b => (h2.1 f i k a b).trans (h.1 f i k a b), h2.2.1.trans h.2.1, fun f i k a => (h2.2.2 f i k a).trans (h.2.2 f i k a)⟩
theorem GS.ag {X Z : Mem} (h : GS X Z) : AgX X Z := by
  refine ⟨fun f i k e => h.1 f i k ?_ ?_, fun i _ => by rw [h.2.1], fun k => h.2.2 0 0 k (by decide)⟩
  · rintro rfl; exact Bool.false_ne_true e
  · rintro rfl; exact Bool.false_ne_true e
theorem GS.c {X Z : Mem} (h : GS X Z) : AgC X Z := ⟨h.1 5 0 4 (by decide) (by decide), fun k => h.1 6 0 k (by decide) (by decide), fun k => h.1 7 0 k (by decide) (by decide)⟩
theorem GS.cw {T : Txt} {w : Nat} {X Z : Mem} (h : GS X Z) (H : CW T w X) : CW T w Z := ⟨H.1.ag h.ag.t, H.2.1.ag h.ag.t, H.2.2.ag h.ag.t⟩
def GL (w : Nat) (Rg : Nat → Option Nat) (l : List Nat) (Z : Mem) : Prop := Z.1 17 0 0 = nI l.length ∧ ∀ j b, l[j]? = some b → Z.2.2 18 0 j = some (27 + (5 * w + b)) ∧ Z.1 19 0 j = nI (rv Rg b)
theorem oI_eq {but : Option Nat} {b : Nat} (hb : b < 5) (ho : ∀ o, but = some o → o < 5) : nI b = oI but ↔ but = some b := by
  cases but with
  | none =>
    refine ⟨fun z => absurd z ?_, fun z => by cases z⟩
    have : ∀ b, b < 5 → ¬ nI b = -1 := by decide
    exact this b hb
  | some o =>
    have := ho o rfl
    show nI b = nI o ↔ _
    rw [nI_eq (by omega) (by omega)]
    exact ⟨fun z => by rw [z], fun z => by cases z; rfl⟩
theorem oI_m1 {o : Option Nat} (h : ∀ r, o = some r → r < 401) : oI o = -1 ↔ o.isSome = false := by
  cases o with
  | none => exact ⟨fun _ => rfl, fun _ => rfl⟩
  | some r =>
    have hr := h r rfl
    refine ⟨fun z => absurd z ?_, fun z => by cases z⟩
    have : ∀ r, r < 401 → ¬ nI r = -1 := by decide +kernel
    exact this r hr
theorem t10_gather_l {T : Txt} {w : Nat} {Rg : Nat → Option Nat} {but : Option Nat} (h1 : TB T) (ho : ∀ o, but = some o → o < 5) (hRB : RgB Rg) {X : Mem} (hW : CW T w X) (hRX : RgX Rg X) {Q : Mem → Prop} (h : ∀ Z, GS X Z → GL w Rg (usL T Rg but (T 0 0)) Z → Q Z) : ∀ (d b : Nat) (Z : Mem), b + d = T 0 0 → GS X Z → GL w Rg (usL T Rg but b) Z → b_X7_gather_8 Q (d + 1) w 0 (oI but) (nI b) Z := by
  have hnb := h1.1
  intro d
  induction d with
  | zero =>
    intro b Z hb hg hl
    have : b = T 0 0 := by omega
    subst this
    have hWZ := hg.cw hW
    exact ⟨fun _ => h Z hg hl, fun z => absurd (by rw [hWZ.2.1.1]; exact Int32.le_refl _) z⟩
  | succ d ih =>
    intro b Z hb hg hl
    have hlt : b < T 0 0 := by omega
    have hWZ := hg.cw hW
    have hB := hWZ.2.1.2.2.2.2.2.2.2.2.2 b hlt
    have t10 := (h1.2.2.2.2.2.2.2.2.2.2.2.2.1 b hlt).2.2.2.2.2.2.2.2.2.2.1
    have hs : usL T Rg but (b + 1) = usL T Rg but b ++ (if okB T Rg but b then [b] else []) := by
      unfold usL
      rw [List.range_succ, List.filter_append]
      congr 1
      cases e : okB T Rg but b <;> simp [List.filter, e]
    have skip : okB T Rg but b = false → b_X7_gather_89 Q (fun v1 v2 v3 v4 M => b_X7_gather_8 Q (d + 1) v1 v2 v3 v4 M) w 0 (oI but) (nI b) Z := by
      rintro e x4 rfl
      rw [nI_1]
      refine ih (b + 1) Z (by omega) hg ?_
      rw [hs, e]
      show GL w Rg (usL T Rg but b ++ []) Z
      rw [List.append_nil]
      exact hl
    have ib : vp_in (nI b) 5 := vp_in_nI (by omega) (by omega)
    refine ⟨fun z => absurd z (by rw [hWZ.2.1.1]; exact nI_ge hlt (by omega)), fun _ => ⟨fun z => skip ?_, fun z => ⟨ib, ?_⟩⟩⟩
    · have e := (oI_eq (by omega) ho).mp z
      unfold okB; rw [e]; simp
    · have e : ¬ but = some b := fun y => z ((oI_eq (by omega) ho).mpr y)
      have r29 : Z.1 29 0 b = oI (Rg b) := (hg.1 29 0 b (by decide) (by decide)).trans (hRX b (by omega))
      rw [nI_clamp (by omega), hB.2.2.2.2.2.2.2.1, r29]
      refine ⟨fun y => skip ?_, fun y => ⟨ib, fun x => skip ?_, fun x => ⟨ib, ?_⟩⟩⟩
      · have e0 := (nI_eq0 (by omega)).mp y
        unfold okB rgd plB; rw [e0]; rfl
      · have e0 := (oI_m1 (hRB b)).mp x
        unfold okB rgd; rw [e0, Bool.and_false]; rfl
      · have e1 : T (1 + b) 10 = 1 := by
          have : T (1 + b) 10 ≠ 0 := fun w => y (by rw [w]; rfl)
          omega
        have e2 : (Rg b).isSome = true := by
          cases q : (Rg b).isSome
          · exact absurd ((oI_m1 (hRB b)).mpr q) x
          · rfl
        have hok : okB T Rg but b = true := by
          unfold okB rgd plB
          rw [e1, e2]
          have : (but == some b) = false := by rw [beq_eq_false_iff_ne]; exact e
          rw [this]; rfl
        have er : oI (Rg b) = nI (rv Rg b) := by
          unfold rv
          cases q : Rg b with
          | none => rw [q] at e2; cases e2
          | some r => rfl
        have hlen : (usL T Rg but b).length ≤ b := by
          have := List.length_filter_le (okB T Rg but) (List.range b)
          rwa [List.length_range] at this
        have il : vp_in (nI (usL T Rg but b).length) 5 := vp_in_nI (by omega) (by omega)
        rw [hl.1]
        refine ⟨il, ?_⟩
        rintro M10 rfl
        rw [sR_1, hl.1, nI_clamp (by omega), r29, er]
        refine ⟨ib, il, ?_⟩
        rintro M12 rfl M13 rfl x4 rfl
        rw [sI_n (by omega), sR_1, hl.1, nI_1, nI_1]
        refine ih (b + 1) _ (by omega) (hg.tr ⟨fun f i k a b => by rw [sI_n (by omega), sI_n (by omega), sR_1], rfl, fun f i k a => sR_n (by omega)⟩) ?_
        rw [hs, hok]
        refine ⟨by rw [sI_s, if_pos rfl, List.length_append]; rfl, fun j c hj => ?_⟩
        rcases app_some hj with ⟨hjl, hjc⟩ | ⟨rfl, rfl⟩
        · obtain ⟨u1, u2⟩ := hl.2 j c hjc
          refine ⟨(sR_n (by omega)).trans u1, ?_⟩
          rw [sI_n (by omega), sI_n (by omega)]; exact u2
        · refine ⟨sR_s, ?_⟩
          rw [sI_n (by omega), sI_s]
theorem t10_gather {T : Txt} {w : Nat} {Rg : Nat → Option Nat} {but : Option Nat} (h1 : TB T) (ho : ∀ o, but = some o → o < 5) (hRB : RgB Rg) {X : Mem} (hW : CW T w X) (hRX : RgX Rg X) {Q : Mem → Prop} (h : ∀ Z, GS X Z → GL w Rg (usL T Rg but (T 0 0)) Z → Q Z) : p_X7_gather w 0 (oI but) X Q := by
  rintro M1 rfl
  exact ⟨T 0 0 + 1, t10_gather_l h1 ho hRB hW hRX h (T 0 0) 0 _ (by omega) ⟨fun f i k a b => sI_n (by omega), rfl, fun _ _ _ _ => rfl⟩ ⟨sI_s, fun j b hj => by simp [usL] at hj⟩⟩
/-! numbers of a point -/
noncomputable def lf (T : Txt) (Rg : Nat → Option Nat) (x y z b : Nat) : Int := (rv Rg b : Int) - rtN (sqB T b x y z)
def cZ (n : Nat) (s : Int) : Int := -(((n : Int) - 2 * s) / ((2 * n : Nat) : Int))
def clkN (n : Nat) (s : Int) : Nat := if cZ n s < 0 then 0 else if ((99 : Nat) : Int) < cZ n s then 99 else (cZ n s).toNat
def resZ (n : Nat) (s q : Int) : Int := q - 2 * (clkN n s : Int) * s + n * (clkN n s : Int) * (clkN n s : Int)
theorem clkN_le (n : Nat) (s : Int) : clkN n s ≤ 99 := by
  unfold clkN
  split
  · omega
  · split <;> omega
theorem sum_sq (g : Nat → Int) (c : Int) : ∀ l : List Nat, lsum (fun b => g b * g b) l - 2 * c * lsum g l + l.length * c * c = lsum (fun b => (g b - c) * (g b - c)) l
  | [] => by simp [lsum]
  | a :: l => by
    have ih := sum_sq g c l
    have e : (g a - c) * (g a - c) = g a * g a - 2 * c * g a + c * c := by
      rw [Int.sub_mul, Int.mul_sub, Int.mul_sub, Int.mul_comm (g a) c, Int.mul_assoc]; omega
    show (g a * g a + lsum (fun b => g b * g b) l) - 2 * c * (g a + lsum g l) + ((a :: l).length : Nat) * c * c = (g a - c) * (g a - c) + lsum (fun b => (g b - c) * (g b - c)) l
    rw [← ih, e, List.length_cons, Int.natCast_add, Int.add_mul, Int.add_mul, Int.mul_add]
    simp only [Int.natCast_one, Int.one_mul]
    omega
theorem lsum_nn {g : Nat → Int} (h : ∀ b, 0 ≤ g b) : ∀ l, 0 ≤ lsum g l
  | [] => Int.le_refl _
  | a :: l => Int.add_nonneg (h a) (lsum_nn h l)
theorem resZ_nn (g : Nat → Int) (l : List Nat) : 0 ≤ resZ l.length (lsum g l) (lsum (fun b => g b * g b) l) := by
  unfold resZ
  rw [sum_sq]
  exact lsum_nn (fun b => sq_nn _) l
theorem lsum_b {g : Nat → Int} {c : Int} : ∀ l : List Nat, (∀ b ∈ l, -c ≤ g b ∧ g b ≤ c) → -((l.length : Int) * c) ≤ lsum g l ∧ lsum g l ≤ (l.length : Int) * c
  | [], _ => by simp [lsum]
  | a :: l, h => by
    have h1 := lsum_b l (fun b hb => h b (List.mem_cons_of_mem _ hb))
    have h2 := h a List.mem_cons_self
    have e : (((a :: l).length : Nat) : Int) * c = (l.length : Int) * c + c := by rw [List.length_cons, Int.natCast_add, Int.add_mul]; simp
    rw [e]
    show -(_ + c) ≤ g a + lsum g l ∧ g a + lsum g l ≤ _
    omega
theorem resZ_lt {g : Nat → Int} {l : List Nat} (hl : l.length ≤ 5) (hg : ∀ b ∈ l, -600 ≤ g b ∧ g b ≤ 600) : (-3000 ≤ lsum g l ∧ lsum g l ≤ 3000) ∧ resZ l.length (lsum g l) (lsum (fun b => g b * g b) l) < 5000000 := by
  have a := lsum_b l hg
  have hc := clkN_le l.length (lsum g l)
  constructor
  · have h5 : (l.length : Int) * 600 ≤ 5 * 600 := Int.mul_le_mul_of_nonneg_right (by omega) (by decide)
    omega
  · unfold resZ
    rw [sum_sq]
    have := lsum_b (c := 700 * 700) (g := fun b => (g b - (clkN l.length (lsum g l) : Int)) * (g b - (clkN l.length (lsum g l) : Int))) l (fun b hb => by
      have hb' := hg b hb
      exact mul_b (X := 700) (Y := 700) (by omega) (by omega))
    have h5 : (l.length : Int) * (700 * 700) ≤ 5 * (700 * 700) := Int.mul_le_mul_of_nonneg_right (by omega) (by decide)
    omega
theorem lsum_take {g : Nat → Int} {l : List Nat} {j b : Nat} (h : l[j]? = some b) : lsum g (l.take (j + 1)) = lsum g (l.take j) + g b := by
  rw [List.take_succ, lsum_app, h]
  show _ + (g b + 0) = _
  rw [Int.add_zero]
/-! the best so far -/
def bk (R : Nat → Int) : Nat → Nat
  | 0 => 0
  | k + 1 => if k = 0 then 0 else if R k < R (bk R k) then k else bk R k
theorem bk_lt (R : Nat → Int) : ∀ k, 0 < k → bk R k < k
  | 1, _ => by rw [bk, if_pos rfl]; decide
  | k + 2, _ => by
    have := bk_lt R (k + 1) (by omega)
    rw [bk, if_neg (by omega)]
    split <;> omega
def SIx (R : Nat → Int) (C : Nat → Nat) (lim : Int) (k : Nat) (Z : Mem) : Prop := Z.1 17 0 1 = (if k = 0 then -1 else iI (R (bk R k))) ∧ (0 < k → Z.1 17 0 3 = nI (bk R k / 256) ∧ Z.1 17 0 4 = nI (bk R k / 16 % 16) ∧ Z.1 17 0 5 = nI (bk R k % 16) ∧ Z.1 17 0 6 = nI (C (bk R k))) ∧ Z.1 17 0 2 = nI (ct (fun j => decide (R j ≤ lim)) k)
/-- frame of solving: fields of the solver but 'used' -/
def FS (X Z : Mem) : Prop := (∀ f i k, ¬ (f = 17 ∧ k ≠ 0) → Z.1 f i k = X.1 f i k) ∧ Z.2 = X.2
theorem FS.rf (X : Mem) : FS X X := ⟨fun _ _ _ _ => rfl, rfl⟩
theorem FS.gs {X Z : Mem} (h : FS X Z) : GS X Z := ⟨fun f i k a _ => h.1 f i k (by omega), by rw [h.2], fun _ _ _ _ => by rw [h.2]⟩
theorem GL.fs {w : Nat} {Rg : Nat → Option Nat} {l : List Nat} {X Z : Mem} (h : FS X Z) (H : GL w Rg l X) : GL w Rg l Z := ⟨(h.1 17 0 0 (by omega)).trans H.1, fun j b hj => ⟨by rw [h.2]; exact (H.2 j b hj).1, (h.1 19 0 j (by omega)).trans (H.2 j b hj).2⟩⟩
theorem t10_bestClock {n : Nat} {s : Int} (hn0 : 0 < n) (hn : n ≤ 5) (hs : -3000 ≤ s ∧ s ≤ 3000) {Z : Mem} (hu : Z.1 17 0 0 = nI n) {Q : Int32 → Mem → Prop} (h : Q (nI (clkN n s)) Z) : p_X7_bestClock (iI s) Z Q := by
  unfold p_X7_bestClock
  rw [hu]
  refine ⟨fun _ => ?_, fun z => absurd (nI_lt (a := 0) hn0 (by omega)) z⟩
  have e1 : nI n - (2 : Int32) * iI s = iI ((n : Int) - 2 * s) := by rw [show (2 : Int32) = iI 2 from rfl, iI_mul, ← iI_n, iI_sub]
  have e2 : (2 : Int32) * nI n = nI (2 * n) := by rw [show (2 : Int32) = nI 2 from rfl, pk_mul]
  rw [e1, e2]
  refine t10_fl (by omega) (by omega) ?_
  rw [iI_t (by omega) (by omega)]
  rintro x3 rfl
  have e3 : -(Int32.ofInt (((n : Int) - 2 * s) / ((2 * n : Nat) : Int))) = iI (cZ n s) := iI_neg _
  have hb : -100000 < cZ n s ∧ cZ n s < 100000 := by
    unfold cZ
    have hd : (1 : Int) ≤ ((2 * n : Nat) : Int) := by omega
    rcases Int.le_total 0 ((n : Int) - 2 * s) with z | z
    · have := Int.ediv_le_self ((2 * n : Nat) : Int) z
      have := Int.ediv_nonneg z (show (0 : Int) ≤ ((2 * n : Nat) : Int) by omega)
      omega
    · have e := Int.mul_ediv_add_emod ((n : Int) - 2 * s) ((2 * n : Nat) : Int)
      have r0 := Int.emod_nonneg ((n : Int) - 2 * s) (show ((2 * n : Nat) : Int) ≠ 0 by omega)
      have r1 := Int.emod_lt_of_pos ((n : Int) - 2 * s) (show (0 : Int) < ((2 * n : Nat) : Int) by omega)
      have n1 : ((n : Int) - 2 * s) / ((2 * n : Nat) : Int) ≤ 0 := Int.ediv_nonpos_of_nonpos_of_neg z (by omega)
      have n2 : ((2 * n : Nat) : Int) * (((n : Int) - 2 * s) / ((2 * n : Nat) : Int)) ≤ 1 * (((n : Int) - 2 * s) / ((2 * n : Nat) : Int)) := Int.mul_le_mul_of_nonpos_right hd n1
      omega
  rw [e3, show (99 : Int32) = nI 99 from rfl, cl_m (by decide) (by decide) hb.1 hb.2]
  exact h
theorem way_e {T : Txt} {b x y z : Nat} (h1 : TB T) (hb : b < T 0 0) (hp : T (1 + b) 10 = 1) (hx : x < 16) (hy : y < 16) (hz : z < 16) {w : Nat} {X : Mem} (hW : CW T w X) (hw : WaysR X) {Q : Int32 → Mem → Prop} (h : Q (nI (rtN (sqB T b x y z))) X) : p_X7_way ((X.1 25 (5 * w + b) 10) - nI x) ((X.1 25 (5 * w + b) 11) - nI y) ((X.1 25 (5 * w + b) 12) - nI z) X Q := by
  obtain ⟨-, -, -, -, -, -, -, -, -, -, -, t11, t12, t13, -⟩ := h1.2.2.2.2.2.2.2.2.2.2.2.2.1 b hb
  obtain ⟨x0, x1, x2⟩ := (hW.2.1.2.2.2.2.2.2.2.2.2 b hb).2.2.2.2.2.2.2.2.1 hp
  rw [x0, x1, x2]
  refine t10_way t11 hx t12 hy t13 hz hw (fun r hr => ?_)
  have e := rt_e hr
  unfold sqB at h
  rw [← e] at h
  exact h
theorem us_mem {T : Txt} {Rg : Nat → Option Nat} {but : Option Nat} {n b : Nat} (h : b ∈ usL T Rg but n) : b < n ∧ okB T Rg but b = true := by
  unfold usL at h
  rw [List.mem_filter, List.mem_range] at h
  exact h
theorem ok_pl {T : Txt} {Rg : Nat → Option Nat} {but : Option Nat} {b : Nat} (h : okB T Rg but b = true) : T (1 + b) 10 = 1 := by
  unfold okB rgd plB at h
  rw [Bool.and_eq_true, Bool.and_eq_true] at h
  exact eq_of_beq h.1.1
theorem lf_b {T : Txt} {Rg : Nat → Option Nat} {b x y z : Nat} (h1 : TB T) (hb : b < T 0 0) (hx : x < 16) (hy : y < 16) (hz : z < 16) (hRB : RgB Rg) {X : Mem} (hw : WaysR X) : -600 ≤ lf T Rg x y z b ∧ lf T Rg x y z b ≤ 600 := by
  have a := rtN_lt hw (sq_lt h1 hb hx hy hz)
  have r : rv Rg b < 401 := by
    unfold rv
    cases q : Rg b with
    | none => decide
    | some r => exact hRB b r q
  unfold lf
  omega
/-- numbers of point k -/
noncomputable def pR (T : Txt) (Rg : Nat → Option Nat) (l : List Nat) (k : Nat) : Int := resZ l.length (lsum (lf T Rg (k / 256) (k / 16 % 16) (k % 16)) l) (lsum (fun b => lf T Rg (k / 256) (k / 16 % 16) (k % 16) b * lf T Rg (k / 256) (k / 16 % 16) (k % 16) b) l)
noncomputable def pC (T : Txt) (Rg : Nat → Option Nat) (l : List Nat) (k : Nat) : Nat := clkN l.length (lsum (lf T Rg (k / 256) (k / 16 % 16) (k % 16)) l)
theorem t10_try {T : Txt} {w : Nat} {Rg : Nat → Option Nat} {l : List Nat} {lim k : Nat} (h1 : TB T) (hRB : RgB Rg) (hl0 : 0 < l.length) (hl5 : l.length ≤ 5) (hlm : ∀ b ∈ l, b < T 0 0 ∧ T (1 + b) 10 = 1) (hlim : lim < 10000) (hk : k < 4096) {X Z : Mem} (hW : CW T w X) (hw : WaysR X) (hG : GL w Rg l X) (hF : FS X Z) (hS : SIx (pR T Rg l) (pC T Rg l) lim k Z) {Q : Mem → Prop} (h : ∀ Z', FS X Z' → SIx (pR T Rg l) (pC T Rg l) lim (k + 1) Z' → Q Z') : p_X7_tryPoint (nI (k / 256)) (nI (k / 16 % 16)) (nI (k % 16)) (nI lim) Z Q := by
  have hx : k / 256 < 16 := by omega
  have hy : k / 16 % 16 < 16 := by omega
  have hz : k % 16 < 16 := by omega
  have hgl : ∀ b ∈ l, -600 ≤ lf T Rg (k / 256) (k / 16 % 16) (k % 16) b ∧ lf T Rg (k / 256) (k / 16 % 16) (k % 16) b ≤ 600 := fun b hb => lf_b h1 (hlm b hb).1 hx hy hz hRB hw
  obtain ⟨sb, rb⟩ := resZ_lt hl5 hgl
  have rn := resZ_nn (lf T Rg (k / 256) (k / 16 % 16) (k % 16)) l
  have hWZ := hF.gs.cw hW
  have hwZ := hw.ag hF.gs.ag.t
  have hGZ := hG.fs hF
  have hnb := h1.1
  have fin : b_X7_tryPoint_85 Q (nI (k / 256)) (nI (k / 16 % 16)) (nI (k % 16)) (nI lim) (iI (lsum (lf T Rg (k / 256) (k / 16 % 16) (k % 16)) l)) (iI (lsum (fun b => lf T Rg (k / 256) (k / 16 % 16) (k % 16) b * lf T Rg (k / 256) (k / 16 % 16) (k % 16) b) l)) Z := by
    refine t10_bestClock hl0 hl5 sb hGZ.1 ?_
    have e3 : (iI (lsum (fun b => lf T Rg (k / 256) (k / 16 % 16) (k % 16) b * lf T Rg (k / 256) (k / 16 % 16) (k % 16) b) l) - (((2 : Int32) * nI (clkN l.length (lsum (lf T Rg (k / 256) (k / 16 % 16) (k % 16)) l))) * iI (lsum (lf T Rg (k / 256) (k / 16 % 16) (k % 16)) l))) + ((nI l.length * nI (clkN l.length (lsum (lf T Rg (k / 256) (k / 16 % 16) (k % 16)) l))) * nI (clkN l.length (lsum (lf T Rg (k / 256) (k / 16 % 16) (k % 16)) l))) = iI (pR T Rg l k) := by
      rw [← iI_n, ← iI_n, show (2 : Int32) = iI 2 from rfl, iI_mul, iI_mul, iI_mul, iI_mul, iI_sub, iI_add]
      rfl
    rw [hGZ.1, e3]
    rintro x3 rfl
    have rb' : pR T Rg l k < 5000000 := rb
    have rn' : 0 ≤ pR T Rg l k := rn
    have eb : bk (pR T Rg l) (k + 1) = if k = 0 then 0 else if pR T Rg l k < pR T Rg l (bk (pR T Rg l) k) then k else bk (pR T Rg l) k := rfl
    have cl : nI lim < iI (pR T Rg l k) ↔ (lim : Int) < pR T Rg l k := by rw [Int32.lt_iff_toInt_lt, iI_t (by omega) (by omega), nI_toInt (by omega)]
    have key : ∀ V, FS X V → (∀ f i j, ¬ (f = 17 ∧ i = 0 ∧ j = 2) → V.1 f i j = Z.1 f i j) → V.1 17 0 2 = nI (ct (fun j => decide (pR T Rg l j ≤ lim)) (k + 1)) → b_X7_tryPoint_133 Q (nI (k / 256)) (nI (k / 16 % 16)) (nI (k % 16)) (nI (clkN l.length (lsum (lf T Rg (k / 256) (k / 16 % 16) (k % 16)) l))) (iI (pR T Rg l k)) V := by
      intro V hV vo v2
      have set : bk (pR T Rg l) (k + 1) = k → b_X7_tryPoint_150 Q (nI (k / 256)) (nI (k / 16 % 16)) (nI (k % 16)) (nI (clkN l.length (lsum (lf T Rg (k / 256) (k / 16 % 16) (k % 16)) l))) (iI (pR T Rg l k)) V := by
        rintro e M6 rfl M7 rfl M8 rfl M9 rfl M10 rfl
        refine h _ ⟨fun f i j hf => by rw [sI_n (by omega), sI_n (by omega), sI_n (by omega), sI_n (by omega), sI_n (by omega)]; exact hV.1 f i j hf, hV.2⟩ ⟨?_, fun _ => ⟨?_, ?_, ?_, ?_⟩, ?_⟩
        · rw [sI_n (by omega), sI_n (by omega), sI_n (by omega), sI_n (by omega), sI_s, if_neg (by omega), e]
        · rw [sI_n (by omega), sI_n (by omega), sI_n (by omega), sI_s, e]
        · rw [sI_n (by omega), sI_n (by omega), sI_s, e]
        · rw [sI_n (by omega), sI_s, e]
        · rw [sI_s, e]; rfl
        · rw [sI_n (by omega), sI_n (by omega), sI_n (by omega), sI_n (by omega), sI_n (by omega)]; exact v2
      unfold b_X7_tryPoint_133
      rw [vo 17 0 1 (by omega), hS.1]
      by_cases k0 : k = 0
      · rw [if_pos k0]
        exact ⟨fun _ => set (by rw [eb, if_pos k0, k0]), fun y => absurd rfl y⟩
      · have hbl := bk_lt (pR T Rg l) k (by omega)
        have hRb : ∀ k, k < 4096 → 0 ≤ pR T Rg l k ∧ pR T Rg l k < 5000000 := fun k hk => ⟨resZ_nn _ l, (resZ_lt hl5 (fun b hb => lf_b h1 (hlm b hb).1 (by omega) (by omega) (by omega) hRB hw)).2⟩
        have h2 := hRb (bk (pR T Rg l) k) (by omega)
        have hne : ¬ iI (pR T Rg l (bk (pR T Rg l) k)) = -1 := by
          intro z
          have := congrArg Int32.toInt z
          rw [iI_t (by omega) (by omega), show (-1 : Int32).toInt = -1 from by decide] at this
          omega
        have hle : iI (pR T Rg l (bk (pR T Rg l) k)) ≤ iI (pR T Rg l k) ↔ pR T Rg l (bk (pR T Rg l) k) ≤ pR T Rg l k := by rw [Int32.le_iff_toInt_le, iI_t (by omega) (by omega), iI_t (by omega) (by omega)]
        rw [if_neg k0]
        refine ⟨fun y => absurd y hne, fun _ => ⟨fun y => ?_, fun y => set ?_⟩⟩
        · have y' := hle.mp y
          have e : bk (pR T Rg l) (k + 1) = bk (pR T Rg l) k := by rw [eb, if_neg k0, if_neg (by omega)]
          have s := hS.2.1 (by omega)
          refine h V hV ⟨?_, fun _ => ⟨?_, ?_, ?_, ?_⟩, v2⟩
          · rw [vo 17 0 1 (by omega), hS.1, if_neg k0, if_neg (by omega), e]
          · rw [vo 17 0 3 (by omega), e]; exact s.1
          · rw [vo 17 0 4 (by omega), e]; exact s.2.1
          · rw [vo 17 0 5 (by omega), e]; exact s.2.2.1
          · rw [vo 17 0 6 (by omega), e]; exact s.2.2.2
        · have y' : ¬ pR T Rg l (bk (pR T Rg l) k) ≤ pR T Rg l k := fun z => y (hle.mpr z)
          rw [eb, if_neg k0, if_pos (by omega)]
    have ec : ct (fun j => decide (pR T Rg l j ≤ lim)) (k + 1) = ct (fun j => decide (pR T Rg l j ≤ lim)) k + (if decide (pR T Rg l k ≤ (lim : Int)) = true then 1 else 0) := rfl
    refine ⟨fun y => ?_, fun y => ?_⟩
    · have y' := cl.mp y
      refine key Z hF (fun _ _ _ _ => rfl) ?_
      rw [ec, decide_eq_false (by omega)]; exact hS.2.2
    · have y' : ¬ (lim : Int) < pR T Rg l k := fun z => y (cl.mpr z)
      rintro M12 rfl
      refine key _ ⟨fun f i j hf => by rw [sI_n (by omega)]; exact hF.1 f i j hf, hF.2⟩ (fun f i j e => sI_n e) ?_
      rw [sI_s, hS.2.2, nI_1, ec, decide_eq_true (by omega)]; rfl
  have go : ∀ (d j : Nat), j + d = l.length → b_X7_tryPoint_9 Q (d + 1) (nI (k / 256)) (nI (k / 16 % 16)) (nI (k % 16)) (nI lim) (iI (lsum (lf T Rg (k / 256) (k / 16 % 16) (k % 16)) (l.take j))) (iI (lsum (fun b => lf T Rg (k / 256) (k / 16 % 16) (k % 16) b * lf T Rg (k / 256) (k / 16 % 16) (k % 16) b) (l.take j))) (nI j) Z := by
    intro d
    induction d with
    | zero =>
      intro j hj
      have : j = l.length := by omega
      subst this
      rw [List.take_length]
      exact ⟨fun _ => fin, fun y => absurd (by rw [hGZ.1]; exact Int32.le_refl _) y⟩
    | succ d ih =>
      intro j hj
      have hjl : j < l.length := by omega
      have hg : l[j]? = some l[j] := List.getElem?_eq_getElem hjl
      obtain ⟨b1, b2⟩ := hlm _ (List.getElem_mem hjl)
      obtain ⟨g1, g2⟩ := hGZ.2 j _ hg
      have ij : vp_in (nI j) 5 := vp_in_nI (by omega) (by omega)
      refine ⟨fun y => absurd y (by rw [hGZ.1]; exact nI_ge hjl (by omega)), fun _ => ⟨ij, 5 * w + l[j], ?_, ?_, ij, ?_⟩⟩
      · rw [nI_clamp (by omega)]; exact g1
      · have := hWZ.1.1; omega
      · refine way_e h1 b1 b2 hx hy hz hWZ hwZ ?_
        rw [nI_clamp (by omega), g2]
        have el : nI (rv Rg l[j]) - nI (rtN (sqB T l[j] (k / 256) (k / 16 % 16) (k % 16))) = iI (lf T Rg (k / 256) (k / 16 % 16) (k % 16) l[j]) := by rw [← iI_n, ← iI_n, iI_sub]; rfl
        rw [el]
        rintro x16 rfl x17 rfl x18 rfl x19 rfl
        rw [iI_mul, iI_add, iI_add, nI_1]
        have g := ih (j + 1) (by omega)
        rw [lsum_take hg, lsum_take hg] at g
        exact g
  exact ⟨l.length + 1, go l.length 0 (by omega)⟩
