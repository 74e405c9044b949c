/-! op 37: tried -/
theorem ck_lost {kk n : Nat} (hk : kk < 2) {Y : Mem} (hn : n ≤ 4) (hb : Y.1 40 0 35 = nI kk) (hc : Y.1 54 0 (298 * kk + 292) = nI n) {Q : Int32 → Mem → Prop} : ∀ (d j : Nat) (a : Int32), j + d = n → Q (cntI (fun c => decide (¬ Y.1 54 0 (298 * kk + 73 * c + 7) ≤ 0)) j d a) Y → b_X11_lostMany_4 Q (d + 1) a (nI j) Y := by
  intro d
  induction d with
  | zero =>
    intro j a hj h
    have : j = n := by omega
    subst this
    exact mk_of (u := 292) hk (by decide) hb ⟨fun _ => h, fun z => absurd (by rw [hc]; exact Int32.le_refl _) z⟩
  | succ d ih =>
    intro j a hj h
    refine mk_of (u := 292) hk (by decide) hb ⟨fun z => absurd z (by rw [hc]; exact nI_ge (by omega) (by omega)), fun _ => mk_at (c := j) (j := 7) hk (by omega) hb ?_⟩
    have e : b_X11_lostMany_31 Q (fun v1 v2 M => b_X11_lostMany_4 Q (d + 1) v1 v2 M) (nI j) a (if ¬ Y.1 54 0 (298 * kk + 73 * j + 7) ≤ 0 then 1 else 0) Y := by
      rintro x5 rfl x6 rfl
      rw [nI_1]
      refine ih (j + 1) _ (by omega) ?_
      rw [cntI] at h
      simpa using h
    refine ⟨fun hz => ?_, fun hz => ?_⟩
    · rw [if_neg (fun z => z hz)] at e; exact e
    · rw [if_pos hz] at e; exact e
def fN (S : Nat → Nat) (what : Int32) : Nat := if what = 1 then (frF (S 9) (S 8) (S 8 + 1) 0).1.length else (frF (S 9) (S 8) (S 8 + 1) 0).2
theorem t10_tfr_l {m : Nat} {Sv : Nat → Nat → Nat} {what : Int32} (hm : m ≤ 4) {X : Mem} (hc0 : X.1 27 2 1 = nI m) (hS : ∀ j, j < m → XS (Sv j) X (8 + j) ∧ Sv j 8 ≤ 64) {Q : Int32 → Mem → Prop} (h : ∀ Z, AgX X Z → AgC X Z → Q (nI (sumN (fun j => fN (Sv j) what) m)) Z) : ∀ (d j : Nat) (Z : Mem), j + d = m → AgX X Z → AgC X Z → Z.2 = X.2 → (∀ f i k, (f < 13 ∨ 16 < f) → Z.1 f i k = X.1 f i k) → b_X10_tried_60 Q (d + 1) what (nI (sumN (fun j => fN (Sv j) what) j)) (nI j) Z := by
  intro d
  induction d with
  | zero =>
    intro j Z hj hx hc h2 h1
    have : j = m := by omega
    subst this
    have e1 : Z.1 27 2 1 = nI j := (h1 27 2 1 (by omega)).trans hc0
    exact ⟨fun _ => h Z hx hc, fun z => absurd (by rw [e1]; exact Int32.le_refl _) z⟩
  | succ d ih =>
    intro j Z hj hx hc h2 h1
    have e1 : Z.1 27 2 1 = nI m := (h1 27 2 1 (by omega)).trans hc0
    refine ⟨fun z => absurd z (by rw [e1]; exact nI_ge (by omega) (by omega)), fun _ => ⟨vp_in_nI (by omega) (by omega), ?_⟩⟩
    rw [nI_clamp (by omega), show 4 * 2 + j = 8 + j from by omega]
    obtain ⟨s, s64⟩ := hS j (by omega)
    have l8 : (Z.2.1 30 (8 + j) 8).toBitVec.toNat = Sv j 9 := by rw [h2]; exact s.2.2.2
    refine t10_frames (n := Sv j 8) s64 ((h1 30 (8 + j) 9 (by omega)).trans s.2.2.1) (fun V hF => ?_)
    rw [l8] at hF
    have go := ih (j + 1) V (by omega) (hx.tr hF.ag) (hc.tr hF.c) (hF.1.trans h2) (fun f i k e => (hF.2.2.2.2 f i k e).trans (h1 f i k e))
    have es : sumN (fun j => fN (Sv j) what) (j + 1) = sumN (fun j => fN (Sv j) what) j + fN (Sv j) what := rfl
    have ef : fN (Sv j) what = if what = 1 then (frF (Sv j 9) (Sv j 8) (Sv j 8 + 1) 0).1.length else (frF (Sv j 9) (Sv j 8) (Sv j 8 + 1) 0).2 := rfl
    rw [es, ef] at go
    refine ⟨fun n => ?_, fun n => ?_⟩
    · rw [if_neg n] at go
      rw [hF.2.2.1]
      rintro x12 rfl x13 rfl
      rw [nI_1, nI_add]
      exact go
    · rw [if_pos n] at go
      rw [hF.2.1]
      rintro x12 rfl x13 rfl
      rw [nI_1, nI_add]
      exact go
/-- all but the bank's number -/
def AgB (Y Z : Mem) : Prop := ∀ f k, kY f k = true → ¬ (f = 40 ∧ k = 35) → Z.1 f 0 k = Y.1 f 0 k
theorem AgB.tr {Y Z V : Mem} (h : AgB Y Z) (h2 : AgB Z V) : AgB Y V := fun f k e n => (h2 f k e n).trans (h f k e n)
theorem AgY.b {Y Z : Mem} (h : AgY Y Z) : AgB Y Z := fun f k e _ => h f k e
theorem AgB.done {Y Z : Mem} (hb : Y.1 40 0 35 = 0) (h : AgB Y Z) : AgY Y (sI Z 40 0 35 0) := fun f k e => by
  by_cases y : f = 40 ∧ k = 35
  · obtain ⟨rfl, rfl⟩ := y
    rw [sI_s]; exact hb.symm
  · rw [sI_n (by omega)]; exact h f k e y
theorem t11_tfr_l {m : Nat} {Sv : Nat → Nat → Nat} {what : Int32} (hw : ¬ what ≤ 0) (hm : m ≤ 4) {Y : Mem} (hb : Y.1 40 0 35 = nI 1) (hc0 : Y.1 54 0 (298 * 1 + 292) = nI m) (hS : ∀ j, j < m → YS (Sv j) Y (298 * 1 + 73 * j) ∧ Sv j 8 ≤ 64) {Q : Int32 → Mem → Prop} (h : ∀ Z, AgB Y Z → Q (nI (sumN (fun j => fN (Sv j) what) m)) (sI Z 40 0 35 0)) : ∀ (d j : Nat) (Z : Mem), j + d = m → AgB Y Z → (∀ k, Z.1 54 0 k = Y.1 54 0 k) → Z.1 40 0 35 = nI 1 → b_X11_tried_59 Q (d + 1) what (nI (sumN (fun j => fN (Sv j) what) j)) (nI j) Z := by
  intro d
  induction d with
  | zero =>
    intro j Z hj hx h1 h2
    have : j = m := by omega
    subst this
    refine mk_of (u := 292) (by decide) (by decide) h2 ?_
    rw [h1, hc0]
    refine ⟨fun _ => ?_, fun z => absurd (Int32.le_refl _) z⟩
    rintro M12 rfl
    exact h Z hx
  | succ d ih =>
    intro j Z hj hx h1 h2
    refine mk_of (u := 292) (by decide) (by decide) h2 ?_
    rw [h1, hc0]
    obtain ⟨s, s64⟩ := hS j (by omega)
    refine ⟨fun z => absurd z (nI_ge (by omega) (by omega)), fun _ => ⟨fun z => absurd z hw, fun _ => ?_⟩⟩
    refine t11_frames (L := Sv j 9) (n := Sv j 8) (k := 1) s64 (by decide) (by omega) h2 (by rw [h1]; exact s.1 8 (by decide)) (fun i hi => by rw [h1, ← Nat.add_assoc]; exact s.2 i hi) (fun V hF => ?_)
    have go := ih (j + 1) V (by omega) (hx.tr hF.ag.b) (fun k => (hF.2.2.2.2 54 0 k (by omega) (by omega)).trans (h1 k)) ((hF.2.2.2.2 40 0 35 (by omega) (by omega)).trans h2)
    have es : sumN (fun j => fN (Sv j) what) (j + 1) = sumN (fun j => fN (Sv j) what) j + fN (Sv j) what := rfl
    have ef : fN (Sv j) what = if what = 1 then (frF (Sv j 9) (Sv j 8) (Sv j 8 + 1) 0).1.length else (frF (Sv j 9) (Sv j 8) (Sv j 8 + 1) 0).2 := rfl
    rw [es, ef] at go
    refine ⟨fun n => ?_, fun n => ?_⟩
    · rw [if_neg n] at go
      rw [hF.2.2.1]
      rintro x12 rfl x13 rfl
      rw [nI_1, nI_add]
      exact go
    · rw [if_pos n] at go
      rw [hF.2.1]
      rintro x12 rfl x13 rfl
      rw [nI_1, nI_add]
      exact go
theorem op_37 (X Y : Mem) (a1 a2 : Int32) (hR : Rel X Y) : p_X10_tried a1 a2 X (fun r X1 => p_X11_tried a1 a2 Y (fun r1 Y1 => r = r1 ∧ Rel X1 Y1)) := by
  obtain ⟨T, w, h1, h2, h3, h4, h5, h6, h7, h8, h9, h10, h11, h12, h13⟩ := id hR
  have ym : ∀ {Q : Int32 → Mem → Prop}, (¬ (inL a1 1 41 ∧ inL a2 0 3) → Q (-1) (sI Y 40 0 2 0)) → (inL a1 1 41 ∧ inL a2 0 3 → (p_X11_copyBank 0 1 (sI Y 40 0 2 0) (fun M6 => (∀ M7 : Mem, M7 = sI M6 40 0 35 1 → (p_X11_followed a1 M7 (fun r8 M8 => ((¬ a2 = 0 → (b_X11_tried_55 Q a2 0 M8)) ∧ (a2 = 0 → (p_X11_lostMany  M8 (fun r19 M19 => (b_X11_tried_55 Q a2 r19 M19))))))))))) → p_X11_tried a1 a2 Y Q := by
    intro Q q0 q1
    rintro M1 rfl
    exact e_isIn (lo := 1) (m := 40) (n := 41) (by decide) rfl (by decide) (fun z => ⟨fun _ => q0 (fun g => z g.1), fun y => absurd rfl y⟩) (fun g => ⟨fun y => absurd y z1n, fun _ => e_isIn (lo := 0) (m := 2) (n := 3) (by decide) rfl (by decide) (fun z => ⟨fun y => absurd rfl y, fun _ => q0 (fun g => z g.2)⟩) (fun g2 => ⟨fun _ => q1 ⟨g, g2⟩, fun y => absurd y z1n⟩)⟩)
  have no : ¬ (inL a1 1 41 ∧ inL a2 0 3) → p_X11_tried a1 a2 Y (fun r1 Y1 => -1 = r1 ∧ Rel X Y1) := fun n => ym (fun _ => ⟨rfl, hR.th 0⟩) (fun g => absurd g n)
  refine ⟨fun z => no (fun g => inL_lo (lo := 1) (by decide) z g.1), fun z1 => ⟨fun z => no (fun g => inL_gt (m := 40) (by decide) rfl z g.1), fun z2 => ⟨fun z => no (fun g => inL_lo (by decide) z g.2), fun z3 => ⟨fun z4 => ?_, fun z => no (fun g => inL_gt (m := 2) (by decide) rfl (Int32.not_le.mp z) g.2)⟩⟩⟩⟩
  have ga : inL a1 1 41 := inL_mk' (m := 40) (by decide) rfl z1 z2 (by decide)
  have gb : inL a2 0 3 := inL_mk' (m := 2) (by decide) rfl z3 (Int32.not_lt.mpr z4) (by decide)
  have gg := And.intro ga gb
  obtain ⟨t, t1, t2, rfl⟩ := ga
  obtain ⟨n0, hn0, hc0, hd0, hch, hrg⟩ := id h9
  obtain ⟨k5, k6, k7, k8, k9, k10⟩ := th_parts (v := 0) h1 h5 h6 h7 h8 h9 h10
  refine t_stCopy (n := n0) hn0 (by decide) hc0 (fun Z hF => ?_)
  have p27 : Z.1 27 2 1 = nI n0 := hF.2.2.2.1.trans hc0
  have hWZ : CW T w Z := ⟨h2.ag hF.xt, h3.ag hF.xt, h4.ag hF.xt⟩
  obtain ⟨Sv, hSv⟩ := skol (P := fun j S => SBn (T 0 0) S ∧ XS S X (4 * 0 + j) ∧ YS S (sI Y 40 0 2 0) (298 * 0 + 73 * j)) (n := n0) (fun j hj => by
    have : ChR (T 0 0) X (4 * 0 + j) (sI Y 40 0 2 0) (298 * 0 + 73 * j) := by
      obtain ⟨n', _, e', _, ch, _⟩ := id k9
      have : n' = n0 := (nI_eq (by omega) (by omega)).mp (e'.symm.trans hc0)
      exact ch j (by omega)
    exact this.spec)
  have xz : ∀ j, j < n0 → XS (Sv j) Z (4 * 2 + j) := fun j hj => by
    obtain ⟨_, a, _⟩ := hSv j hj
    have o := fun k (hk : k < 10) (h8 : k ≠ 8) => hF.2.2.2.2.1 j k hj hk h8
    exact ⟨fun k hk => (o k (by omega) (by omega)).trans (a.1 k hk), (o 7 (by decide) (by decide)).trans a.2.1, (o 9 (by decide) (by decide)).trans a.2.2.1, (congrArg uN (hF.2.2.2.2.2.1 j hj)).trans a.2.2.2⟩
  refine t10_all h1 (by decide) hn0 (by omega) hWZ (h13.ag hF.c) p27 (fun j hj => (hSv j hj).1) xz (fun Z2 hZ2 hcZ2 hS2 => ?_)
  have q27 : Z2.1 27 2 1 = nI n0 := (hZ2.1 27 2 1 (by omega) (by omega)).trans p27
  have agx : AgX X Z2 := by
    refine ⟨fun f i k e => ?_, fun i hi => ?_, fun k => by rw [hZ2.2.2, hF.2.2.1]⟩
    · have n27 : ¬ (f = 27 ∧ i = 2) := by rintro ⟨rfl, rfl⟩; exact absurd e (by simp [kX])
      have n29 : ¬ (f = 29 ∧ i = 2) := by rintro ⟨rfl, rfl⟩; exact absurd e (by simp [kX])
      have n30 : ¬ (f = 30 ∧ 4 * 2 ≤ i ∧ i < 4 * 2 + 4) := by
        rintro ⟨rfl, a, b⟩
        simp [kX] at e
        omega
      have ne : f < 5 ∨ 12 < f := by
        unfold kX at e
        split at e <;> first | omega | exact absurd e (by decide)
      rw [hZ2.1 f i k ne n30]
      exact hF.1 f i k n27 n29 n30
    · rw [hZ2.2.1 30 i 8 (by omega) (by omega)]
      exact hF.2.1 30 i 8 (by omega)
  -- the reference up to there
  have yy : ∀ {Q : Int32 → Mem → Prop}, (∀ V, AgB Y V → V.1 40 0 35 = nI 1 → V.1 54 0 (298 * 1 + 292) = nI n0 → (∀ i, i < n0 → YS (itS T t (Sv i)) V (298 * 1 + 73 * i)) → (¬ a2 = 0 → (b_X11_tried_55 Q a2 0 V)) ∧ (a2 = 0 → (p_X11_lostMany V (fun r19 M19 => (b_X11_tried_55 Q a2 r19 M19))))) → p_X11_tried (nI t) a2 Y Q := by
    intro Q hq
    refine ym (fun n => absurd gg n) (fun _ => t_copyBank (a := 0) (b := 1) (by decide) (by decide) (by decide) (fun V hV => ?_))
    rintro M7 rfl
    have b0 : ∀ k, k < 298 → V.1 54 0 (298 * 1 + k) = (sI Y 40 0 2 0).1 54 0 k := fun k hk => (hV.2.2 k hk).trans (by rw [show 298 * 0 + k = k from by omega])
    have hCV : CY T (sI V 40 0 35 1) := by
      have hC0 : CY T (sI Y 40 0 2 0) := cY_of h1 h5 h6
      refine ⟨?_, fun k hk => ?_⟩
      · have hyt := hV.yt
        obtain ⟨u1, u2, u3, u4, u5, u6, u7⟩ := hC0.1.ag h1 hyt
        refine ⟨by rw [sI_n (by omega)]; exact u1, by rw [sI_n (by omega)]; exact u2, fun b k hb hk => by rw [sI_n (by omega)]; exact u3 b k hb hk, fun i hi j hj => by rw [sI_n (by omega)]; exact u4 i hi j hj, fun k hk => by rw [sI_n (by omega)]; exact u5 k hk, fun k hk => by rw [sI_n (by omega)]; exact u6 k hk, fun i hi => by rw [sI_n (by omega), sI_n (by omega)]; exact u7 i hi⟩
      · rw [sI_n (by omega)]; exact (hV.yt 48 k rfl).trans (hC0.2 k hk)
    have hNV : NsY (T 0 4) (T 0 5) none (sI V 40 0 35 1) := by
      obtain ⟨u1, u2, u3⟩ := (k6.ag hV.yt).ns
      exact ⟨by rw [sI_n (by omega)]; exact u1, by rw [sI_n (by omega)]; exact u2, by rw [sI_n (by omega)]; exact u3⟩
    have v292 : (sI V 40 0 35 1).1 54 0 (298 * 1 + 292) = nI n0 := by rw [sI_n (by omega), b0 292 (by decide), sI_n (by omega)]; exact hd0
    have yv : ∀ j, j < n0 → YS (Sv j) (sI V 40 0 35 1) (298 * 1 + 73 * j) := fun j hj => by
      obtain ⟨a0, _, a⟩ := hSv j hj
      have h64 := a0.2.2.2.2.2.2.2.2.2.1
      refine ⟨fun k hk => ?_, fun i hi => ?_⟩
      · rw [sI_n (by omega), Nat.add_assoc, b0 _ (by omega)]
        have := a.1 k hk
        rwa [show 298 * 0 + 73 * j + k = 73 * j + k from by omega] at this
      · rw [sI_n (by omega), Nat.add_assoc, Nat.add_assoc, b0 _ (by omega)]
        have := a.2 i hi
        rwa [show 298 * 0 + 73 * j + 9 + i = 73 * j + (9 + i) from by omega] at this
    refine t11_all (kk := 1) h1 (by decide) hn0 (by omega) hCV hNV sI_s v292 (fun j hj => (hSv j hj).1) yv (fun V2 hV2 hSV2 => hq V2 (fun f k e n => ?_) ((hV2 40 0 35 (by omega) (by omega) (by omega)).trans sI_s) ((hV2 54 0 _ (by omega) (by omega) (by omega)).trans v292) hSV2)
    have n54 : ¬ (f = 54 ∧ 298 ≤ k ∧ k < 596) := by
      rintro ⟨rfl, a, b⟩
      simp [kY] at e
      omega
    rw [hV2 f 0 k (by unfold kY at e; split at e <;> first | omega | exact absurd e (by decide)) (by rintro ⟨rfl, rfl | rfl | rfl⟩ <;> exact absurd e (by decide)) (by omega), sI_n (by omega), hV.2.1 f 0 k (by omega)]
    refine sI_n (fun z => ?_)
    obtain ⟨rfl, _, rfl⟩ := z
    exact absurd e (by decide)
  have fin : ∀ Z3 V, AgX X Z3 → CacheX T Z3 → AgB Y V → Rel Z3 (sI V 40 0 35 0) := fun Z3 V hx hc hb => Rel.mk2 hx (hb.done h6.1) h1 h2 h3 h4 h5 h6 h7 h8 h9 h10 h11 h12 hc
  have s64 : ∀ j, j < n0 → itS T t (Sv j) 8 ≤ 64 := fun j hj => (itS_b (T := T) (hSv j hj).1 t).2.2.2.2.2.2.2.2.2.1
  refine ⟨fun n => ⟨n0 + 1, ?_⟩, fun n => ⟨n0 + 1, c10_lost hn0 (by decide) q27 n0 0 0 (by omega) ?_⟩⟩
  · refine t10_tfr_l (X := Z2) (Sv := fun j => itS T t (Sv j)) hn0 q27 (fun j hj => ⟨hS2 j hj, s64 j hj⟩) (fun Z3 hx3 hc3 => ?_) n0 0 Z2 (by omega) (AgX.rf _) (AgC.rf _) rfl (fun _ _ _ _ => rfl)
    have hw : ¬ a2 ≤ 0 := fun z => n (Int32.le_antisymm z (Int32.not_lt.mp z3))
    refine yy (fun V hV v35 v292 vS => ⟨fun _ => ⟨n0 + 1, ?_⟩, fun z => absurd z n⟩)
    exact t11_tfr_l (Y := V) (Sv := fun j => itS T t (Sv j)) hw hn0 v35 v292 (fun j hj => ⟨vS j hj, s64 j hj⟩) (fun V3 hV3 => ⟨rfl, fin Z3 V3 (agx.tr hx3) (hcZ2.ag hc3) (hV.tr hV3)⟩) n0 0 V (by omega) (fun _ _ _ _ => rfl) (fun _ => rfl) v35
  · refine yy (fun V hV v35 v292 vS => ⟨fun z => absurd n z, fun _ => ⟨n0 + 1, ck_lost (kk := 1) (by decide) hn0 v35 v292 n0 0 0 (by omega) ?_⟩⟩)
    have ec : cntI (fun c => decide (¬ Z2.1 30 (4 * 2 + c) 7 = -2)) 0 n0 0 = cntI (fun c => decide (¬ V.1 54 0 (298 * 1 + 73 * c + 7) ≤ 0)) 0 n0 0 := by
      refine cntI_congr _ _ _ (fun j _ hj => ?_)
      have hj' : j < n0 := by omega
      have b7 := (itS_b (T := T) (hSv j hj').1 t).2.2.2.2.2.2.2.2.1
      rw [(hS2 j hj').2.1, (vS j hj').1 7 (by decide), decide_eq_decide, nI_le0 (by omega)]
      unfold lostX
      by_cases e : itS T t (Sv j) 7 = 0
      · rw [if_pos e]; exact ⟨fun z => absurd rfl z, fun z => absurd e z⟩
      · rw [if_neg e]
        refine ⟨fun _ => e, fun _ z => absurd z ?_⟩
        have : ∀ o, o < 200 → ¬ nI o = -2 := by decide +kernel
        exact this _ (by omega)
    refine ⟨1, mk_of (u := 292) (by decide) (by decide) v35 ⟨fun _ => ?_, fun _ => ⟨fun _ => ?_, fun z => absurd (by rw [n]; exact Int32.le_refl _) z⟩⟩⟩
    · rintro M12 rfl
      exact ⟨ec, fin Z2 V agx hcZ2 hV⟩
    · rintro M14 rfl
      exact ⟨ec, fin Z2 V agx hcZ2 hV⟩
