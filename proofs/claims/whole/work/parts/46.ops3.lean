/-! ops drop, range, channel, named -/
/-- fewer channels on both sides -/
theorem StR.less {nb q k n : Nat} {X Y Z V : Mem} (hk : Z.1 27 q 1 = nI n) (hv : V.1 54 0 (298 * k + 292) = nI n) (hx : ∀ c j, c < 4 → Z.1 30 (4 * q + c) j = X.1 30 (4 * q + c) j) (hl : ∀ c, c < 4 → Z.2.1 30 (4 * q + c) 8 = X.2.1 30 (4 * q + c) 8) (hr : ∀ b, b < 5 → Z.1 29 q b = X.1 29 q b) (hy : ∀ j, j < 298 → j ≠ 292 → V.1 54 0 (298 * k + j) = Y.1 54 0 (298 * k + j)) {n0 : Nat} (hn0 : n0 ≤ 4) (h0 : X.1 27 q 1 = nI n0) (hn : n ≤ n0) (H : StR nb X q Y k) : StR nb Z q V k := by
  obtain ⟨n', h1, h2, h3, h4, h5⟩ := H
  have hn4 : n' ≤ 4 := h1
  have hnn : n' = n0 := (nI_eq (by omega) (by omega)).mp (h2.symm.trans h0)
  subst hnn
  refine ⟨n, by omega, hk, hv, fun j hj => ?_, fun b hb => ?_⟩
  · obtain ⟨c1, c2, c3, c4, c5, c6, c7, c8, m, hm, c9, c10, c11⟩ := h4 j (by omega)
    have e := fun i => hx j i (by omega)
    have d := fun i (hi : i < 73) => (by have := hy (73 * j + i) (by omega) (by omega); rw [← Nat.add_assoc] at this; exact this : V.1 54 0 (298 * k + 73 * j + i) = Y.1 54 0 (298 * k + 73 * j + i))
    refine ⟨?_, ?_, ?_, ?_, ?_, ?_, ?_, ?_, m, hm, ?_, ?_, fun i hi => ?_⟩
    · have d0 := d 0 (by omega); simp only [Nat.add_zero] at d0; rw [e, d0]; exact c1
    · rw [e, d 1 (by omega)]; exact c2
    · rw [e, d 2 (by omega)]; exact c3
    · rw [e, d 3 (by omega)]; exact c4
    · rw [e, d 4 (by omega)]; exact c5
    · rw [e, e, d 5 (by omega)]; exact c6
    · rw [e, d 6 (by omega), d 7 (by omega)]; exact c7
    · rw [e, d 7 (by omega)]; exact c8
    · rw [e]; exact c9
    · rw [d 8 (by omega)]; exact c10
    · rw [hl j (by omega), Nat.add_assoc, d (9 + i) (by omega), ← Nat.add_assoc]; exact c11 i hi
  · have := hy (293 + b) (by omega) (by omega)
    rw [← Nat.add_assoc] at this
    rw [hr b hb, this]; exact h5 b hb
/-- op 21: drop -/
theorem op_21 (X Y : Mem) (hR : Rel X Y) : p_X10_drop X (fun r X1 => p_X11_drop Y (fun r1 Y1 => r = r1 ∧ Rel X1 Y1)) := by
  obtain ⟨T, w, h1, h2, h3, h4, h5, h6, h7, h8, h9, h10, h11, h12, h13⟩ := id hR
  obtain ⟨n, v, g1, g2, g3, g4, g5, g6⟩ := id h11
  obtain ⟨n0, hn0, hc0, hd0, _⟩ := id h9
  have hb0 : (sI Y 40 0 2 0).1 40 0 35 = 0 := by rw [sI_n (by decide)]; exact h6.1
  have hd1 : (sI Y 40 0 2 0).1 54 0 292 = nI n0 := by rw [sI_n (by decide)]; exact hd0
  refine ⟨fun hne => ?_, fun he => ?_⟩
  · have hpos : 0 < n0 := by
      rcases Nat.eq_zero_or_pos n0 with z | z
      · exact absurd (by rw [hc0, z]; rfl) hne
      · exact z
    refine t_push g1 g2 hn0 g5 g3 hc0 (fun Z hx => ?_)
    rintro M3 rfl
    rintro Y1 rfl
    refine m_of (u := 292) (by decide) hb0 ⟨fun _ => ?_, fun z => absurd (by rw [hc0, ← hd1]; exact z) hne⟩
    have hu : (sI Y 40 0 2 0).1 40 0 36 = nI n := by rw [sI_n (by decide)]; exact g4
    refine t_canUndo g1 hu (fun V hy => ?_)
    have hs9 : StR (T 0 0) X 0 (sI Y 40 0 2 0) 0 := StR.move (KeepS.tr ⟨rfl, fun _ _ _ => rfl, fun _ _ => rfl, fun _ _ => rfl⟩ ⟨rfl, fun _ _ _ => rfl, fun _ _ => rfl, fun _ _ => rfl⟩) (fun k hk => sI_n (by omega)) h9
    have hvb : V.1 40 0 35 = 0 := (hy.2.1 40 0 35 (fun z => by omega) (fun z => by omega)).trans hb0
    have hv2 : V.1 54 0 292 = nI n0 := (hy.2.1 54 0 292 (fun z => by omega) (fun z => by omega)).trans hd1
    have hz2 : Z.1 27 0 1 = nI n0 := ((hx.keep (s := 0) (by omega)).1).trans hc0
    refine m_of (u := 292) (by decide) hvb ?_
    refine m_lay (u := 292) (by decide) hvb ?_
    refine m_of (u := 292) (by decide) (by rw [sI_n (by decide)]; exact hvb) ⟨?_, ?_⟩
    · rw [sI_s, sI_s, hz2, hv2]
    · have hs0 := StR.push hs9 hx hy
      have e1 : (nI n0 - 1 : Int32) = nI (n0 - 1) := pk_sub (a := n0) (b := 1) hpos
      refine Rel.mk3 (X := X) (Y := Y) (hx.xt.tr (AgXt.set rfl)) (((AgYt.set rfl).tr hy.yt).tr (AgYt.set rfl)) h1 h2 h3 h4 h5 h6 h7 h8 h12 ?_ ?_ ?_ (h13.ag (hx.c.tr (AgC.set (by decide) (by decide) (by decide))))
      · refine StR.less (n := n0 - 1) (n0 := n0) (X := Z) (Y := V) (by rw [sI_s, hz2, e1]) (by rw [sI_s, hv2, e1]) (fun c j hc => sI_n (by omega)) (fun _ _ => rfl) (fun b hb => sI_n (by omega)) (fun j hj hj2 => sI_n (by omega)) hn0 hz2 (by omega) hs0
      · have hi := ImgR.push (Y := sI Y 40 0 2 0) (nb := T 0 0) ⟨by rw [sI_n (by decide)]; exact h10.1, h10.2.1, fun z => StR.move ⟨rfl, fun _ _ _ => rfl, fun _ _ => rfl, fun _ _ => rfl⟩ (fun k hk => sI_n (by omega)) (h10.2.2 z)⟩ hx hy
        obtain ⟨i1, i2, i3⟩ := hi
        refine ⟨?_, ?_, fun z => StR.move ⟨sI_n (by omega), fun _ _ _ => sI_n (by omega), fun _ _ => rfl, fun _ _ => sI_n (by omega)⟩ (fun k hk => sI_n (by omega)) (i3 ?_)⟩
        · rw [sI_n (by decide), sI_n (by decide)]; exact i1
        · rw [sI_n (by decide)]; exact i2
        · rw [sI_n (by decide)] at z; exact z
      · have hp := PastR.push (Y := sI Y 40 0 2 0) (nb := T 0 0) g1 g2 (fun i hi => StR.move ⟨rfl, fun _ _ _ => rfl, fun _ _ => rfl, fun _ _ => rfl⟩ (fun k hk => sI_n (by omega)) (g6 i hi)) hc0 hn0 hs9 hx hy
        obtain ⟨m, u, p1, p2, p3, p4, p5, p6⟩ := hp
        refine ⟨m, u, p1, p2, ?_, ?_, ?_, fun i hi => StR.move ⟨sI_n (by omega), fun _ _ _ => sI_n (by omega), fun _ _ => rfl, fun _ _ => sI_n (by omega)⟩ (fun k hk => sI_n (by omega)) (p6 i hi)⟩
        · rw [sI_n (by decide)]; exact p3
        · rw [sI_n (by decide)]; exact p4
        · rw [sI_n (by decide)]; exact p5
  · rintro Y1 rfl
    refine m_of (u := 292) (by decide) hb0 ⟨fun z => absurd ?_ z, fun _ => ⟨rfl, hR.th 0⟩⟩
    rw [hd1, ← hc0]; exact he
