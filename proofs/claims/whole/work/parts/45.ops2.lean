/-! ops of states: keep, back, undo, drop -/
theorem m_of {u : Nat} (hu : u < 298) {Y : Mem} (hb : Y.1 40 0 35 = 0) {Q : Int32 → Mem → Prop} (h : Q (Y.1 54 0 u) Y) : p_X11_of (nI u) Y Q := by
  show vp_in ((298 : Int32) * Y.1 40 0 35 + nI u) 3874 ∧ Q (Y.1 54 0 ((298 : Int32) * Y.1 40 0 35 + nI u).toNatClampNeg) Y
  rw [hb, show ((298 : Int32) * 0 + nI u) = nI u from by rw [show (298 : Int32) * 0 = 0 from by decide, Int32.zero_add], nI_clamp (by omega)]
  exact ⟨vp_in_nI (by omega) (by omega), h⟩
theorem m_lay {u : Nat} (hu : u < 298) {v : Int32} {Y : Mem} (hb : Y.1 40 0 35 = 0) {Q : Mem → Prop} (h : Q (sI Y 54 0 u v)) : p_X11_lay (nI u) v Y Q := by
  show vp_in ((298 : Int32) * Y.1 40 0 35 + nI u) 3874 ∧ ∀ M1, M1 = sI Y 54 0 ((298 : Int32) * Y.1 40 0 35 + nI u).toNatClampNeg v → Q M1
  rw [hb, show ((298 : Int32) * 0 + nI u) = nI u from by rw [show (298 : Int32) * 0 = 0 from by decide, Int32.zero_add], nI_clamp (by omega)]
  exact ⟨vp_in_nI (by omega) (by omega), fun M1 e => by rw [e]; exact h⟩
theorem CF.keep {n q r s : Nat} {X Z : Mem} (h : CF n q r X Z) (hs : s ≠ q) : KeepS s X Z :=
  ⟨h.1 27 s 1 (fun z => hs z.2) (fun z => by omega) (fun z => by omega), fun c k hc => h.1 30 _ k (fun z => by omega) (fun z => by omega) (fun z => by omega), fun c hc => h.2.1 30 _ 8 (fun z => by omega), fun b hb => h.1 29 s b (fun z => by omega) (fun z => hs z.2) (fun z => by omega)⟩
theorem CF.o {n q r f i k : Nat} {X Z : Mem} (h : CF n q r X Z) (h1 : f ≠ 27) (h2 : f ≠ 29) (h3 : f ≠ 30) : Z.1 f i k = X.1 f i k := h.1 f i k (fun z => h1 z.1) (fun z => h2 z.1) (fun z => h3 z.1)
theorem CF.xt {n q r : Nat} {X Z : Mem} (h : CF n q r X Z) : AgXt X Z := by
  refine ⟨fun f i k e => ?_, fun k => congrFun (congrFun (congrFun h.2.2.1 0) 0) k⟩
  have hf : f ≠ 27 ∧ f ≠ 29 ∧ f ≠ 30 := by
    refine ⟨?_, ?_, ?_⟩ <;> (rintro rfl; simp [kXt] at e)
  exact h.o hf.1 hf.2.1 hf.2.2
theorem CF.c {n q r : Nat} {X Z : Mem} (h : CF n q r X Z) : AgC X Z :=
  ⟨h.o (by decide) (by decide) (by decide), fun k => h.o (by decide) (by decide) (by decide), fun k => h.o (by decide) (by decide) (by decide)⟩
theorem CB.yt {a b : Nat} {Y V : Mem} (h : CB a b Y V) : AgYt Y V := by
  intro f k e
  refine h.2.1 f 0 k (fun z => ?_)
  obtain ⟨rfl, _⟩ := z; simp [kYt] at e
theorem AgXt.tr {X Z V : Mem} (h : AgXt X Z) (h2 : AgXt Z V) : AgXt X V := ⟨fun f i k e => (h2.1 f i k e).trans (h.1 f i k e), fun k => (h2.2 k).trans (h.2 k)⟩
theorem AgYt.tr {Y Z V : Mem} (h : AgYt Y Z) (h2 : AgYt Z V) : AgYt Y V := fun f k e => (h2 f k e).trans (h f k e)
theorem AgC.tr {X Z V : Mem} (h : AgC X Z) (h2 : AgC Z V) : AgC X V := ⟨h2.1.trans h.1, fun k => (h2.2.1 k).trans (h.2.1 k), fun k => (h2.2.2 k).trans (h.2.2 k)⟩
theorem AgXt.set {X : Mem} {f i k : Nat} {v : Int32} (h : kXt f k = false) : AgXt X (sI X f i k v) := by
  refine ⟨fun f' i' k' e => sI_n ?_, fun _ => rfl⟩
  rintro ⟨rfl, rfl, rfl⟩
  rw [h] at e; cases e
theorem AgYt.set {X : Mem} {f i k : Nat} {v : Int32} (h : kYt f k = false) : AgYt X (sI X f i k v) := by
  intro f' k' e
  refine sI_n ?_
  rintro ⟨rfl, _, rfl⟩
  rw [h] at e; cases e
theorem AgC.set {X : Mem} {f i k : Nat} {v : Int32} (h5 : f ≠ 5) (h6 : f ≠ 6) (h7 : f ≠ 7) : AgC X (sI X f i k v) :=
  ⟨sI_n (fun z => h5 z.1.symm), fun _ => sI_n (fun z => h6 z.1.symm), fun _ => sI_n (fun z => h7 z.1.symm)⟩
theorem KeepS.set {X : Mem} {s f i k : Nat} {v : Int32} (h1 : f ≠ 27) (h2 : f ≠ 29) (h3 : f ≠ 30) : KeepS s X (sI X f i k v) :=
  ⟨sI_n (fun z => h1 z.1.symm), fun _ _ _ => sI_n (fun z => h3 z.1.symm), fun _ _ => rfl, fun _ _ => sI_n (fun z => h2 z.1.symm)⟩
theorem KeepS.tr {s : Nat} {X Z V : Mem} (h : KeepS s X Z) (h2 : KeepS s Z V) : KeepS s X V := ⟨h2.1.trans h.1, fun c k hc => (h2.2.1 c k hc).trans (h.2.1 c k hc), fun c hc => (h2.2.2.1 c hc).trans (h.2.2.1 c hc), fun b hb => (h2.2.2.2 b hb).trans (h.2.2.2 b hb)⟩
/-- op 39: keep -/
theorem op_39 (X Y : Mem) (hR : Rel X Y) : p_X10_keep X (fun r X1 => p_X11_keep Y (fun r1 Y1 => r = r1 ∧ Rel X1 Y1)) := by
  obtain ⟨T, w, h1, h2, h3, h4, h5, h6, h7, h8, h9, h10, h11, h12, h13⟩ := hR
  obtain ⟨n0, hn0, hc0, hd0, _⟩ := id h9
  refine t_stCopy hn0 (by decide) hc0 (fun Z c => ?_)
  rintro M2 rfl
  rintro Y1 rfl
  refine t_copyBank (a := 0) (b := 2) (by decide) (by decide) (by decide) (fun V c' => ?_)
  rintro V1 rfl
  have hb : (sI V 40 0 37 1).1 40 0 35 = 0 := by
    rw [sI_n (by decide), c'.2.1 40 0 35 (fun z => by omega), sI_n (by decide)]; exact h6.1
  refine m_of (u := 292) (by decide) hb ⟨?_, ?_⟩
  · rw [sI_n (by decide), c.1 27 0 1 (fun z => by omega) (fun z => by omega) (fun z => by omega), hc0, sI_n (by decide), c'.2.1 54 0 292 (fun z => by omega), sI_n (by decide)]
    exact hd0.symm
  · have yk : ∀ k, (k < 298 ∨ 596 ≤ k) → ¬ (596 ≤ k ∧ k < 894) → (sI V 40 0 37 1).1 54 0 k = Y.1 54 0 k := fun k _ hk => by
      rw [sI_n (by omega), c'.2.1 54 0 k (fun z => hk (by omega)), sI_n (by omega)]
    refine Rel.mk3 (X := X) (Y := Y) (c.xt.tr (AgXt.set rfl)) (((AgYt.set rfl).tr c'.yt).tr (AgYt.set rfl)) h1 h2 h3 h4 h5 h6 h7 h8 h12 ?_ ?_ ?_ (h13.ag (c.c.tr (AgC.set (by decide) (by decide) (by decide))))
    · exact StR.move ((c.keep (by decide)).tr (KeepS.set (by decide) (by decide) (by decide))) (fun k hk => yk _ (by omega) (by omega)) h9
    · refine ⟨by rw [sI_s, sI_s], Or.inr sI_s, fun _ => ?_⟩
      refine StR.to (r := 0) (a := 0) hc0 hn0 ?_ (fun c0 k hc hk h8 => ?_) (fun c0 hc => c.2.2.2.2.2.1 c0 hc) (fun b hb => ?_) (fun k hk => ?_) h9
      · rw [sI_n (by omega)]; exact c.2.2.2.1
      · rw [sI_n (by omega)]; exact c.2.2.2.2.1 c0 k hc hk h8
      · rw [sI_n (by omega)]; exact c.2.2.2.2.2.2 b hb
      · rw [sI_n (by omega), c'.2.2 k hk, sI_n (by omega)]
    · obtain ⟨n, v, g1, g2, g3, g4, g5, g6⟩ := h11
      refine ⟨n, v, g1, g2, ?_, ?_, ?_, fun i hi => ?_⟩
      · rw [sI_n (by omega), c.o (by decide) (by decide) (by decide)]; exact g3
      · rw [sI_n (by omega), c'.2.1 40 0 36 (fun z => by omega), sI_n (by omega)]; exact g4
      · rw [sI_n (by omega), c.o (by decide) (by decide) (by decide)]; exact g5
      · exact StR.move ((c.keep (by omega)).tr (KeepS.set (by decide) (by decide) (by decide))) (fun k hk => yk _ (by omega) (by omega)) (g6 i hi)

/-- op 40: back -/
theorem op_40 (X Y : Mem) (hR : Rel X Y) : p_X10_back X (fun r X1 => p_X11_back Y (fun r1 Y1 => r = r1 ∧ Rel X1 Y1)) := by
  obtain ⟨T, w, h1, h2, h3, h4, h5, h6, h7, h8, h9, h10, h11, h12, h13⟩ := id hR
  obtain ⟨i1, i2, i3⟩ := id h10
  refine ⟨fun hne => ?_, fun he => ?_⟩
  · have hi1 : X.1 0 0 9 = 1 := i2.elim (fun z => absurd z hne) id
    have hs := i3 hi1
    obtain ⟨n1, hn1, hc1, hd1, _⟩ := id hs
    refine t_stCopy hn1 (by decide) hc1 (fun Z c => ?_)
    rintro M3 rfl
    rintro Y1 rfl
    refine ⟨fun _ => ?_, fun z => absurd ?_ hne⟩
    · refine t_copyBank (a := 2) (b := 0) (by decide) (by decide) (by decide) (fun V c' => ?_)
      rintro V1 rfl
      have hb : (sI V 40 0 36 0).1 40 0 35 = 0 := by
        rw [sI_n (by decide), c'.2.1 40 0 35 (fun z => by omega), sI_n (by decide)]; exact h6.1
      refine m_of (u := 292) (by decide) hb ⟨?_, ?_⟩
      · rw [sI_n (by decide), c.2.2.2.1, hc1, sI_n (by decide)]
        have := c'.2.2 292 (by decide)
        rw [sI_n (by decide)] at this
        exact (this.trans hd1).symm
      · have yk : ∀ k, ¬ k < 298 → (sI V 40 0 36 0).1 54 0 k = Y.1 54 0 k := fun k hk => by
          rw [sI_n (by omega), c'.2.1 54 0 k (fun z => hk (by omega)), sI_n (by omega)]
        refine Rel.mk3 (X := X) (Y := Y) (c.xt.tr (AgXt.set rfl)) (((AgYt.set rfl).tr c'.yt).tr (AgYt.set rfl)) h1 h2 h3 h4 h5 h6 h7 h8 h12 ?_ ?_ ?_ (h13.ag (c.c.tr (AgC.set (by decide) (by decide) (by decide))))
        · refine StR.to (r := 1) (a := 2) hc1 hn1 ?_ (fun c0 k hc hk h8 => ?_) (fun c0 hc => c.2.2.2.2.2.1 c0 hc) (fun b hb => ?_) (fun k hk => ?_) hs
          · rw [sI_n (by omega)]; exact c.2.2.2.1
          · rw [sI_n (by omega)]; exact c.2.2.2.2.1 c0 k hc hk h8
          · rw [sI_n (by omega)]; exact c.2.2.2.2.2.2 b hb
          · rw [sI_n (by omega), c'.2.2 k hk, sI_n (by omega)]
        · refine ⟨?_, ?_, fun _ => StR.move ((c.keep (by decide)).tr (KeepS.set (by decide) (by decide) (by decide))) (fun k hk => yk _ (by omega)) hs⟩
          · rw [sI_n (by omega), c.o (by decide) (by decide) (by decide), sI_n (by omega), c'.2.1 40 0 37 (fun z => by omega), sI_n (by omega)]; exact i1
          · rw [sI_n (by omega), c.o (by decide) (by decide) (by decide)]; exact i2
        · obtain ⟨n, v, g1, g2, g3, g4, g5, g6⟩ := h11
          refine ⟨0, v, by omega, g2, sI_s, sI_s, ?_, fun i hi => absurd hi (by omega)⟩
          rw [sI_n (by omega), c.o (by decide) (by decide) (by decide)]; exact g5
    · rw [sI_n (by decide)] at z
      exact i1.trans z
  · rintro Y1 rfl
    refine ⟨fun z => absurd ?_ z, fun _ => ⟨rfl, hR.th 0⟩⟩
    rw [sI_n (by decide)]; exact i1.symm.trans he
/-- op 38: undo -/
theorem op_38 (X Y : Mem) (hR : Rel X Y) : p_X10_undo X (fun r X1 => p_X11_undo Y (fun r1 Y1 => r = r1 ∧ Rel X1 Y1)) := by
  obtain ⟨T, w, h1, h2, h3, h4, h5, h6, h7, h8, h9, h10, h11, h12, h13⟩ := id hR
  obtain ⟨n, v, g1, g2, g3, g4, g5, g6⟩ := h11
  refine ⟨fun hne => ?_, fun he => ?_⟩
  · have hn0 : 0 < n := by
      rcases Nat.eq_zero_or_pos n with z | z
      · exact absurd (by rw [g3, z]; rfl) hne
      · exact z
    have hs := g6 0 hn0
    rw [show (v + 10 - 0) % 10 = v from by omega, Nat.sub_zero] at hs
    obtain ⟨n1, hn1, hc1, hd1, _⟩ := id hs
    refine ⟨fun z => absurd z (by rw [g3]; exact nI_nle hn0 (by omega)), fun _ => ⟨by rw [g5]; exact vp_in_nI g2 (by omega), ?_⟩⟩
    rw [g5, nI_clamp (by omega)]
    refine t_stCopy hn1 (by omega) hc1 (fun Z c => ?_)
    rintro M4 rfl M5 rfl
    rintro Y1 rfl
    have hu : (sI Y 40 0 2 0).1 40 0 36 = nI n := by rw [sI_n (by decide)]; exact g4
    refine ⟨fun _ => ?_, fun z => absurd ((g3.trans hu.symm).trans z) hne⟩
    rintro Y3 rfl
    have hu3 : (sI (sI Y 40 0 2 0) 40 0 36 ((sI Y 40 0 2 0).1 40 0 36 - 1)).1 40 0 36 = nI (n - 1) := by
      rw [sI_s, hu]
      exact pk_sub (a := n) (b := 1) hn0
    rw [hu3, show (3 : Int32) = nI 3 from rfl, nI_add]
    refine t_copyBank (a := 3 + (n - 1)) (b := 0) (by omega) (by decide) (by omega) (fun V c' => ?_)
    have zs : Z.1 21 0 2 = nI n := (c.o (by decide) (by decide) (by decide)).trans g3
    have zv : Z.1 21 0 1 = nI v := (c.o (by decide) (by decide) (by decide)).trans g5
    have yk : ∀ k, ¬ k < 298 → V.1 54 0 k = Y.1 54 0 k := fun k hk => by
      rw [c'.2.1 54 0 k (fun z => hk (by omega)), sI_n (by omega), sI_n (by omega)]
    refine ⟨?_, ?_⟩
    · rw [sI_s, sI_n (by decide), zs, c'.2.1 40 0 36 (fun z => by omega), hu3]
      exact pk_sub (a := n) (b := 1) hn0
    · refine Rel.mk3 (X := X) (Y := Y) ((c.xt.tr (AgXt.set rfl)).tr (AgXt.set rfl)) (((AgYt.set rfl).tr (AgYt.set rfl)).tr c'.yt) h1 h2 h3 h4 h5 h6 h7 h8 h12 ?_ ?_ ?_ (h13.ag ((c.c.tr (AgC.set (by decide) (by decide) (by decide))).tr (AgC.set (by decide) (by decide) (by decide))))
      · refine StR.to (r := 3 + v) (a := 3 + (n - 1)) hc1 hn1 ?_ (fun c0 k hc hk h8 => ?_) (fun c0 hc => c.2.2.2.2.2.1 c0 hc) (fun b hb => ?_) (fun k hk => ?_) hs
        · rw [sI_n (by omega), sI_n (by omega)]; exact c.2.2.2.1
        · rw [sI_n (by omega), sI_n (by omega)]; exact c.2.2.2.2.1 c0 k hc hk h8
        · rw [sI_n (by omega), sI_n (by omega)]; exact c.2.2.2.2.2.2 b hb
        · rw [c'.2.2 k hk, sI_n (by omega), sI_n (by omega)]
      · obtain ⟨i1, i2, i3⟩ := h10
        refine ⟨?_, ?_, fun z => StR.move (((c.keep (by decide)).tr (KeepS.set (by decide) (by decide) (by decide))).tr (KeepS.set (by decide) (by decide) (by decide))) (fun k hk => yk _ (by omega)) (i3 ?_)⟩
        · rw [sI_n (by omega), sI_n (by omega), c.o (by decide) (by decide) (by decide), c'.2.1 40 0 37 (fun z => by omega), sI_n (by omega), sI_n (by omega)]; exact i1
        · rw [sI_n (by omega), sI_n (by omega), c.o (by decide) (by decide) (by decide)]; exact i2
        · rw [sI_n (by omega), sI_n (by omega), c.o (by decide) (by decide) (by decide)] at z; exact z
      · refine ⟨n - 1, (v + 9) % 10, by omega, by omega, ?_, ?_, ?_, fun i hi => ?_⟩
        · rw [sI_s, sI_n (by decide), zs]; exact pk_sub (a := n) (b := 1) hn0
        · rw [c'.2.1 40 0 36 (fun z => by omega)]; exact hu3
        · rw [sI_n (by decide), sI_s, zv, show (10 : Int32) = nI 10 from rfl, nI_add, show (1 : Int32) = nI 1 from rfl, pk_sub (by omega), show v + 10 - 1 = v + 9 from by omega]
          exact pk_rem (by omega) (by omega) (by omega)
        · have ho := g6 (i + 1) (by omega)
          rw [show ((v + 9) % 10 + 10 - i) % 10 = (v + 10 - (i + 1)) % 10 from by omega, show n - 1 - 1 - i = n - 1 - (i + 1) from by omega]
          exact StR.move (((c.keep (by omega)).tr (KeepS.set (by decide) (by decide) (by decide))).tr (KeepS.set (by decide) (by decide) (by decide))) (fun k hk => yk _ (by omega)) ho
  · rintro Y1 rfl
    refine ⟨fun z => absurd ?_ z, fun _ => ⟨rfl, hR.th 0⟩⟩
    rw [sI_n (by decide), g4, ← g3]; exact he
