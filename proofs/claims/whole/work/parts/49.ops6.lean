/-! a change of the State now, behind a push: what is asked for -/
def KS0 (f i k : Nat) : Bool := kXt f k || f == 21 || (f == 0 && k == 9) || ((f == 27 || f == 29) && i != 0) || (f == 30 && decide (4 ≤ i))
theorem rel_after {T : Txt} {w n v n0 : Nat} {X Y Z V Z2 V2 : Mem} (h1 : TB T) (h2 : RefR w X) (h3 : WXw T w X) (h4 : OutX T w X) (h5 : TYr T Y) (h6 : MYr T Y) (h7 : TapeR X Y) (h8 : FltR X Y) (h12 : WaysR X) (h9 : StR (T 0 0) X 0 Y 0) (h10 : ImgR (T 0 0) X Y) (hn : n ≤ 10) (hv : v < 10) (hold : ∀ i, i < n → StR (T 0 0) X (3 + (v + 10 - i) % 10) Y (3 + (n - 1 - i))) (h0 : X.1 27 0 1 = nI n0) (hn0 : n0 ≤ 4) (hx : PU n v n0 X Z) (hy : CU n Y V)
    (zx : ∀ f i k, KS0 f i k = true → Z2.1 f i k = Z.1 f i k) (zl : ∀ i, 4 ≤ i → Z2.2.1 30 i 8 = Z.2.1 30 i 8) (zr : Z2.2.2 = Z.2.2) (vx : ∀ f k, ¬ (f = 54 ∧ k < 298) → kY f k = true → V2.1 f 0 k = V.1 f 0 k) (hs : StR (T 0 0) Z2 0 V2 0) (hc : CacheX T Z2) : Rel Z2 V2 := by
  have xt : AgXt Z Z2 := ⟨fun f i k e => zx f i k (by unfold KS0; rw [e]; rfl), fun k => congrFun (congrFun (congrFun zr 0) 0) k⟩
  have yt : AgYt V V2 := fun f k e => vx f k (fun z => by obtain ⟨rfl, _⟩ := z; simp [kYt] at e) (kYt_le e)
  have ks : ∀ s, s ≠ 0 → s < 13 → KeepS s Z Z2 := fun s h0 _ => ⟨zx 27 s 1 (by simp [KS0, h0]), fun c k hc => zx 30 _ k (by simp [KS0]; omega), fun c hc => zl _ (by omega), fun b hb => zx 29 s b (by simp [KS0, h0])⟩
  have vk : ∀ k, 596 ≤ k → V2.1 54 0 k = V.1 54 0 k := fun k hk => vx 54 k (fun z => by omega) (by simp [kY]; omega)
  have hi := ImgR.push h10 hx hy
  have hp := PastR.push hn hv hold h0 hn0 h9 hx hy
  refine Rel.mk3 (X := X) (Y := Y) (hx.xt.tr xt) (hy.yt.tr yt) h1 h2 h3 h4 h5 h6 h7 h8 h12 hs ?_ ?_ hc
  · obtain ⟨i1, i2, i3⟩ := hi
    have e := zx 0 0 9 rfl
    have d := vx 40 37 (fun z => by omega) rfl
    refine ⟨e.trans (i1.trans d.symm), by rw [e]; exact i2, fun z => StR.move (ks 1 (by decide) (by decide)) (fun k hk => vk _ (by omega)) (i3 (by rw [← e]; exact z))⟩
  · obtain ⟨m, u, p1, p2, p3, p4, p5, p6⟩ := hp
    refine ⟨m, u, p1, p2, (zx 21 0 2 rfl).trans p3, (vx 40 36 (fun z => by omega) rfl).trans p4, (zx 21 0 1 rfl).trans p5, fun i hi => StR.move (ks _ (by omega) (by omega)) (fun k hk => vk _ (by omega)) (p6 i hi)⟩
/-- 'thrown' off, in each part -/
theorem th_parts {T : Txt} {X Y : Mem} {v : Int32} (h1 : TB T) (h5 : TYr T Y) (h6 : MYr T Y) (h7 : TapeR X Y) (h8 : FltR X Y) (h9 : StR (T 0 0) X 0 Y 0) (h10 : ImgR (T 0 0) X Y) : TYr T (sI Y 40 0 2 v) ∧ MYr T (sI Y 40 0 2 v) ∧ TapeR X (sI Y 40 0 2 v) ∧ FltR X (sI Y 40 0 2 v) ∧ StR (T 0 0) X 0 (sI Y 40 0 2 v) 0 ∧ ImgR (T 0 0) X (sI Y 40 0 2 v) :=
  ⟨h5.ag h1 (AgYt.set rfl), h6.ag (AgYt.set rfl), h7.ag (AgX.rf X).t (AgYt.set rfl), h8.ag (AgX.rf X).t (AgYt.set rfl), h9.ag (AgX.rf X) (AgY.set rfl) (by decide) (by decide), h10.ag (AgX.rf X) (AgY.set rfl)⟩
/-- a range on both sides -/
theorem StR.rng {nb b : Nat} {v : Int32} {X Y : Mem} (hb : b < nb) (hb5 : b < 5) (hv : v = -1 ∨ ∃ r, r < 401 ∧ v = nI r) (H : StR nb X 0 Y 0) : StR nb (sI X 29 0 b v) 0 (sI Y 54 0 (293 + b) v) 0 := by
  obtain ⟨n, h1, h2, h3, h4, h5⟩ := H
  refine ⟨n, h1, by rw [sI_n (by omega)]; exact h2, by rw [sI_n (by omega)]; exact h3, fun j hj => ?_, fun c hc => ?_⟩
  · obtain ⟨c1, c2, c3, c4, c5, c6, c7, c8, m, hm, c9, c10, c11⟩ := h4 j hj
    have e := fun k => (sI_n (by omega) : (sI X 29 0 b v).1 30 (4 * 0 + j) k = X.1 30 (4 * 0 + j) k)
    have d := fun k (hk : k < 73) => (sI_n (by omega) : (sI Y 54 0 (293 + b) v).1 54 0 (298 * 0 + 73 * j + k) = Y.1 54 0 (298 * 0 + 73 * j + k))
    refine ⟨?_, ?_, ?_, ?_, ?_, ?_, ?_, ?_, m, hm, ?_, ?_, fun i hi => ?_⟩
    · have d0 := d 0 (by omega); simp only [Nat.add_zero] at d0; rw [e, d0]; exact c1
    · rw [e, d 1 (by omega)]; exact c2
    · rw [e, d 2 (by omega)]; exact c3
    · rw [e, d 3 (by omega)]; exact c4
    · rw [e, d 4 (by omega)]; exact c5
    · rw [e, e, d 5 (by omega)]; exact c6
    · rw [e, d 6 (by omega), d 7 (by omega)]; exact c7
    · rw [e, d 7 (by omega)]; exact c8
    · rw [e]; exact c9
    · rw [d 8 (by omega)]; exact c10
    · rw [Nat.add_assoc, d (9 + i) (by omega), ← Nat.add_assoc]; exact c11 i hi
  · by_cases hcb : c = b
    · subst hcb
      rw [sI_s, show 298 * 0 + 293 + c = 293 + c from by omega, sI_s]
      exact ⟨rfl, hv, fun z => absurd hb (by omega)⟩
    · rw [sI_n (by omega), sI_n (by omega)]; exact h5 c hc
/-- op 30: range -/
theorem op_30 (X Y : Mem) (a1 a2 : Int32) (hR : Rel X Y) : p_X10_range a1 a2 X (fun r X1 => p_X11_range a1 a2 Y (fun r1 Y1 => r = r1 ∧ Rel X1 Y1)) := by
  obtain ⟨T, w, h1, h2, h3, h4, h5, h6, h7, h8, h9, h10, h11, h12, h13⟩ := id hR
  obtain ⟨n, v, g1, g2, g3, g4, g5, g6⟩ := id h11
  obtain ⟨n0, hn0, hc0, hd0, _, hrg⟩ := id h9
  have hnb := h1.1
  have hYb : (sI Y 40 0 2 0).1 40 0 11 = nI (T 0 0) := by rw [sI_n (by omega)]; exact h5.1
  have nob : (a1 < 0 ∨ nI (T 0 0) ≤ a1) → p_X10_range a1 a2 X (fun r X1 => p_X11_range a1 a2 Y (fun r1 Y1 => r = r1 ∧ Rel X1 Y1)) := fun h =>
    t10_isBird0 h2 h3.1 h ⟨fun _ => by
      rintro M1 rfl
      exact t11_isBird0 hYb h ⟨fun _ => ⟨rfl, hR.th 0⟩, fun z => absurd rfl z⟩, fun z => absurd rfl z⟩
  rcases pk_ix a1 (n := T 0 0) (by omega) with h | h | ⟨b, hb, rfl⟩
  · exact nob (Or.inl h)
  · exact nob (Or.inr h)
  have nor : (a2 < -1 ∨ 400 < a2) → p_X11_range (nI b) a2 Y (fun r1 Y1 => -2 = r1 ∧ Rel X Y1) := by
    rintro h M1 rfl
    refine t11_isBird1 hYb hnb hb ⟨fun z => absurd z (by decide), fun _ => t_isIn (fun _ => ⟨fun z => absurd rfl z, fun _ => ⟨rfl, hR.th 0⟩⟩) (fun x y => ?_)⟩
    exact (h.elim x y).elim
  refine t10_isBird1 h2 h3.1 hnb hb ⟨fun z => absurd z (by decide), fun _ => ⟨fun h => nor (Or.inl h), fun h => ⟨fun h' => ?_, fun h' => nor (Or.inr (Int32.not_le.mp h'))⟩⟩⟩
  have hval : a2 = -1 ∨ ∃ r, r < 401 ∧ a2 = nI r := by
    rcases pk_ix a2 (n := 401) (by decide) with z | z | z
    · left
      have e1 : (-1 : Int32).toInt = -1 := by decide
      have e2 : (0 : Int32).toInt = 0 := by decide
      rw [Int32.lt_iff_toInt_lt, e1] at h
      rw [Int32.lt_iff_toInt_lt, e2] at z
      exact Int32.toInt_inj.mp (by rw [e1]; omega)
    · exact absurd (Int32.le_trans z h') (by decide)
    · exact Or.inr z
  refine t_push g1 g2 hn0 g5 g3 hc0 (fun Z hx => ⟨vp_in_nI (by omega) (by omega), ?_⟩)
  rw [nI_clamp (by omega)]
  rintro x7 rfl
  refine ⟨vp_in_nI (by omega) (by omega), ?_⟩
  rintro M8 rfl
  rintro M1 rfl
  refine t11_isBird1 hYb hnb hb ⟨fun z => absurd z (by decide), fun _ => t_isIn (fun z => (z.elim h (fun y => Int32.not_lt.mpr h' y)).elim) (fun _ _ => ⟨fun _ => ?_, fun z => absurd z (by decide)⟩)⟩
  obtain ⟨k5, k6, k7, k8, k9, k10⟩ := th_parts (v := 0) h1 h5 h6 h7 h8 h9 h10
  refine t_canUndo (n := n) g1 (by rw [sI_n (by decide)]; exact g4) (fun V hy => ?_)
  have hvb : V.1 40 0 35 = 0 := (hy.2.1 40 0 35 (fun z => by omega) (fun z => by omega)).trans k6.1
  rw [show (293 : Int32) + nI b = nI (293 + b) from nI_add 293 b]
  have hs0 := StR.push k9 hx hy
  refine m_of (u := 293 + b) (by omega) hvb (m_lay (u := 293 + b) (by omega) hvb ⟨?_, ?_⟩)
  · obtain ⟨_, _, _, _, _, q5⟩ := hs0
    have := (q5 b (by omega)).1
    rw [show 298 * 0 + 293 + b = 293 + b from by omega] at this
    exact this
  · refine rel_after h1 h2 h3 h4 k5 k6 k7 k8 h12 k9 k10 g1 g2 (fun i hi => StR.ag (AgX.rf X) (AgY.set rfl) (by omega) (by omega) (g6 i hi)) hc0 hn0 hx hy (fun f i k e => sI_n ?_) (fun _ _ => rfl) rfl (fun f k a _ => sI_n (fun z => a ⟨z.1, by omega⟩)) (StR.rng hb (by omega) hval hs0) (h13.ag (hx.c.tr (AgC.set (by decide) (by decide) (by decide))))
    rintro ⟨rfl, rfl, rfl⟩
    simp [KS0, kXt] at e
