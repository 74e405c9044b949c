/-! what a memory keeps between calls; the relation goes over to memories that agree there -/
def kY (f k : Nat) : Bool := match f with
  | 40 => [1, 4, 5, 11, 14, 22, 23, 24, 35, 36, 37].contains k
  | 41 => true
  | 42 => true
  | 43 => decide (k < 70)
  | 44 => decide (k < 30)
  | 45 => decide (k < 17)
  | 47 => true
  | 48 => true
  | 54 => decide (k < 298) || decide (596 ≤ k)
  | _ => false
def AgY (Y Z : Mem) : Prop := ∀ f k, kY f k = true → Z.1 f 0 k = Y.1 f 0 k
def kX (f i k : Nat) : Bool := match f with
  | 0 => true
  | 1 => true
  | 2 => decide (k < 2)
  | 20 => true
  | 21 => true
  | 23 => true
  | 25 => true
  | 26 => true
  | 27 => decide (i ≠ 2)
  | 29 => decide (i ≠ 2)
  | 30 => decide (i < 8) || decide (12 ≤ i)
  | _ => false
def AgX (X Z : Mem) : Prop := (∀ f i k, kX f i k = true → Z.1 f i k = X.1 f i k) ∧ (∀ i, (i < 8 ∨ 12 ≤ i) → Z.2.1 30 i 8 = X.2.1 30 i 8) ∧ ∀ k, Z.2.2 0 0 k = X.2.2 0 0 k
theorem AgY.rf (Y : Mem) : AgY Y Y := fun _ _ _ => rfl
theorem AgX.rf (X : Mem) : AgX X X := ⟨fun _ _ _ _ => rfl, fun _ _ => rfl, fun _ => rfl⟩
theorem AgY.tr {Y Z V : Mem} (h : AgY Y Z) (h2 : AgY Z V) : AgY Y V := fun f k e => (h2 f k e).trans (h f k e)
theorem AgX.tr {Y Z V : Mem} (h : AgX Y Z) (h2 : AgX Z V) : AgX Y V := ⟨fun f i k e => (h2.1 f i k e).trans (h.1 f i k e), fun i e => (h2.2.1 i e).trans (h.2.1 i e), fun k => (h2.2.2 k).trans (h.2.2 k)⟩
theorem AgY.set {Y : Mem} {f i k : Nat} {v : Int32} (h : kY f k = false) : AgY Y (sI Y f i k v) := by
  intro f' k' e
  show (if _ then _ else _) = _
  rw [if_neg]
  rintro ⟨rfl, _, rfl⟩
  rw [h] at e
  cases e
theorem AgX.set {X : Mem} {f i k : Nat} {v : Int32} (h : kX f i k = false) : AgX X (sI X f i k v) := by
  refine ⟨fun f' i' k' e => ?_, fun _ _ => rfl, fun _ => rfl⟩
  show (if _ then _ else _) = _
  rw [if_neg]
  rintro ⟨rfl, rfl, rfl⟩
  rw [h] at e
  cases e
/-- agreement on the text's part alone -/
def kYt (f k : Nat) : Bool := match f with
  | 40 => [1, 4, 5, 11, 14, 22, 23, 24, 35].contains k
  | 41 => true
  | 42 => true
  | 43 => decide (k < 70)
  | 44 => decide (k < 30)
  | 45 => decide (k < 17)
  | 47 => true
  | 48 => true
  | _ => false
def kXt (f k : Nat) : Bool := match f with
  | 0 => decide (k = 1)
  | 1 => true
  | 2 => decide (k < 2)
  | 20 => true
  | 23 => true
  | 25 => true
  | 26 => true
  | _ => false
def AgYt (Y Z : Mem) : Prop := ∀ f k, kYt f k = true → Z.1 f 0 k = Y.1 f 0 k
def AgXt (X Z : Mem) : Prop := (∀ f i k, kXt f k = true → Z.1 f i k = X.1 f i k) ∧ ∀ k, Z.2.2 0 0 k = X.2.2 0 0 k
theorem kYt_le {f k : Nat} (h : kYt f k = true) : kY f k = true := by
  unfold kYt at h; unfold kY
  split at h <;> simp_all
  omega
theorem kXt_le {f i k : Nat} (h : kXt f k = true) : kX f i k = true := by
  unfold kXt at h; unfold kX
  split at h <;> simp_all
theorem AgY.t {Y Z : Mem} (h : AgY Y Z) : AgYt Y Z := fun f k e => h f k (kYt_le e)
theorem AgX.t {X Z : Mem} (h : AgX X Z) : AgXt X Z := ⟨fun f i k e => h.1 f i k (kXt_le e), h.2.2⟩
theorem BX.ag {T : Txt} {b q : Nat} {X Z : Mem} (h : AgXt X Z) (H : BX T b q X) : BX T b q Z := by
  obtain ⟨h1, h2, h3, h4, h5, h6, h7, h8, h9, h10⟩ := H
  have e := fun k => h.1 25 q k rfl
  refine ⟨?_, ?_, ?_, fun z => ?_, ?_, ?_, ?_, ?_, fun z => ?_, fun k i z => ?_⟩ <;> (try rw [e])
  · exact h1
  · exact h2
  · exact h3
  · rw [e, e]; exact h4 z
  · exact h5
  · exact h6
  · exact h7
  · exact h8
  · rw [e, e]; exact h9 z
  · rw [h.1 26 q k rfl]; exact h10 k i z
theorem CodeX.ag {T : Txt} {b q : Nat} {X Z : Mem} (h : AgXt X Z) (H : CodeX T b q X) : CodeX T b q Z := by
  obtain ⟨cv, h1, h2, h3⟩ := H
  exact ⟨cv, h1, by rw [h.1 25 q 2 rfl]; exact h2, h3⟩
theorem WXw.ag {T : Txt} {w : Nat} {X Z : Mem} (h : AgXt X Z) (H : WXw T w X) : WXw T w Z := by
  have e := fun k => h.1 23 w k rfl
  obtain ⟨h1, h2, h3, h4, h5, h6, h7, h8, h9, h10⟩ := H
  refine ⟨?_, ?_, ?_, ?_, ?_, ?_, ?_, ?_, fun z => ?_, fun b hb => (h10 b hb).ag h⟩ <;> (try rw [e])
  · exact h1
  · exact h2
  · exact h3
  · exact h4
  · exact h5
  · exact h6
  · exact h7
  · exact h8
  · rw [e, e, e]; exact h9 z
theorem OutX.ag {T : Txt} {w : Nat} {X Z : Mem} (h : AgXt X Z) (H : OutX T w X) : OutX T w Z := by
  have e := fun k => h.1 23 w k rfl
  obtain ⟨⟨v, h1, h2, h3⟩, ⟨v', h4, h5, h6⟩, h7⟩ := H
  exact ⟨⟨v, h1, by rw [e]; exact h2, h3⟩, ⟨v', h4, by rw [e]; exact h5, h6⟩, fun b hb => (h7 b hb).ag h⟩
theorem TYr.ag {T : Txt} (hT : TB T) {Y Z : Mem} (h : AgYt Y Z) (H : TYr T Y) : TYr T Z := by
  obtain ⟨h1, h2, h3, h4, h5, h6, h7⟩ := H
  have hb5 := hT.1
  have hs10 := hT.2.1
  refine ⟨?_, ?_, fun b k hb hk => ?_, fun i hi j hj => ?_, fun k hk => ?_, fun k hk => ?_, fun i hi => ?_⟩
  · rw [h 40 11 rfl]; exact h1
  · rw [h 40 14 rfl]; exact h2
  · rw [h 43 _ (decide_eq_true (by omega))]; exact h3 b k hb hk
  · rw [h 44 _ (decide_eq_true (by omega))]; exact h4 i hi j hj
  · rw [h 45 _ (decide_eq_true (by omega))]; exact h5 k hk
  · rw [h 45 _ (decide_eq_true (by omega))]; exact h6 k hk
  · rw [h 47 _ rfl, h 47 _ rfl]; exact h7 i hi
theorem MYr.ag {T : Txt} {Y Z : Mem} (h : AgYt Y Z) (H : MYr T Y) : MYr T Z := by
  obtain ⟨h1, h2, h3, h4, h5, h6⟩ := H
  refine ⟨?_, ?_, ?_, ?_, fun k hk => ?_, fun k hk => ?_⟩
  · rw [h 40 35 rfl]; exact h1
  · rw [h 40 22 rfl]; exact h2
  · rw [h 40 23 rfl]; exact h3
  · rw [h 40 24 rfl]; exact h4
  · rw [h 48 _ rfl]; exact h5 k hk
  · rw [h 42 _ rfl]; exact h6 k hk
theorem TapeR.ag {X Y Z V : Mem} (hx : AgXt X Z) (hy : AgYt Y V) (H : TapeR X Y) : TapeR Z V := by
  obtain ⟨n, h1, h2, h3, h4⟩ := H
  refine ⟨n, h1, ?_, ?_, fun k hk => ?_⟩
  · rw [hx.1 0 0 1 rfl]; exact h2
  · rw [hy 40 1 rfl]; exact h3
  · rw [hx.1 1 0 k rfl, hy 41 k rfl]; exact h4 k hk
theorem FltR.ag {X Y Z V : Mem} (hx : AgXt X Z) (hy : AgYt Y V) (H : FltR X Y) : FltR Z V := by
  refine ⟨?_, ?_⟩
  · rw [hx.1 2 0 0 rfl, hy 40 4 rfl]; exact H.1
  · rw [hx.1 2 0 1 rfl, hy 40 5 rfl]; exact H.2
theorem RefR.ag {w : Nat} {X Z : Mem} (hx : AgXt X Z) (H : RefR w X) : RefR w Z := ⟨H.1, (hx.2 3).trans H.2.1, (hx.2 4).trans H.2.2⟩
theorem WaysR.ag {X Z : Mem} (hx : AgXt X Z) (H : WaysR X) : WaysR Z := fun s hs => by
  rw [hx.1 20 0 s rfl]; exact H s hs
theorem ChR.ag {nb : Nat} {X Y Z V : Mem} {c u : Nat} (hx : AgX X Z) (hy : AgY Y V) (hc : c < 8 ∨ 12 ≤ c) (hu : u + 73 ≤ 298 ∨ 596 ≤ u) (H : ChR nb X c Y u) : ChR nb Z c V u := by
  have e := fun k => hx.1 30 c k (show (decide (c < 8) || decide (12 ≤ c)) = true by simp; omega)
  have d := fun k (hk : k < 73) => hy 54 (u + k) (show (decide (u + k < 298) || decide (596 ≤ u + k)) = true by simp; omega)
  obtain ⟨h1, h2, h3, h4, h5, h6, h7, h8, n, hn, h9, h10, h11⟩ := H
  refine ⟨?_, ?_, ?_, ?_, ?_, ?_, ?_, ?_, n, hn, ?_, ?_, fun i hi => ?_⟩
  · rw [e]; have := d 0 (by omega); simp only [Nat.add_zero] at this; rw [this]; exact h1
  · rw [e, d 1 (by omega)]; exact h2
  · rw [e, d 2 (by omega)]; exact h3
  · rw [e, d 3 (by omega)]; exact h4
  · rw [e, d 4 (by omega)]; exact h5
  · rw [e, e, d 5 (by omega)]; exact h6
  · rw [e, d 6 (by omega), d 7 (by omega)]; exact h7
  · rw [e, d 7 (by omega)]; exact h8
  · rw [e]; exact h9
  · rw [d 8 (by omega)]; exact h10
  · rw [hx.2.1 c hc, Nat.add_assoc, d (9 + i) (by omega), ← Nat.add_assoc]; exact h11 i hi
theorem StR.ag {nb : Nat} {X Y Z V : Mem} {q k : Nat} (hx : AgX X Z) (hy : AgY Y V) (hq : q ≠ 2) (hk : k ≠ 1) (H : StR nb X q Y k) : StR nb Z q V k := by
  obtain ⟨n, h1, h2, h3, h4, h5⟩ := H
  refine ⟨n, h1, ?_, ?_, fun j hj => (h4 j hj).ag hx hy (by omega) (by omega), fun b hb => ?_⟩
  · rw [hx.1 27 q 1 (decide_eq_true hq)]; exact h2
  · rw [hy 54 (298 * k + 292) (show (decide _ || decide _) = true by simp; omega)]; exact h3
  · rw [hx.1 29 q b (decide_eq_true hq), hy 54 (298 * k + 293 + b) (show (decide _ || decide _) = true by simp; omega)]; exact h5 b hb
theorem ImgR.ag {nb : Nat} {X Y Z V : Mem} (hx : AgX X Z) (hy : AgY Y V) (H : ImgR nb X Y) : ImgR nb Z V := by
  obtain ⟨h1, h2, h3⟩ := H
  refine ⟨?_, ?_, fun z => ?_⟩
  · rw [hx.1 0 0 9 rfl, hy 40 37 rfl]; exact h1
  · rw [hx.1 0 0 9 rfl]; exact h2
  · rw [hx.1 0 0 9 rfl] at z; exact (h3 z).ag hx hy (by decide) (by decide)
theorem PastR.ag {nb : Nat} {X Y Z V : Mem} (hx : AgX X Z) (hy : AgY Y V) (H : PastR nb X Y) : PastR nb Z V := by
  obtain ⟨n, v, h1, h2, h3, h4, h5, h6⟩ := H
  refine ⟨n, v, h1, h2, ?_, ?_, ?_, fun i hi => (h6 i hi).ag hx hy (by omega) (by omega)⟩
  · rw [hx.1 21 0 2 rfl]; exact h3
  · rw [hy 40 36 rfl]; exact h4
  · rw [hx.1 21 0 1 rfl]; exact h5
/-- the ear's cache stays -/
def AgC (X Z : Mem) : Prop := Z.1 5 0 4 = X.1 5 0 4 ∧ (∀ k, Z.1 6 0 k = X.1 6 0 k) ∧ ∀ k, Z.1 7 0 k = X.1 7 0 k
theorem AgC.rf (X : Mem) : AgC X X := ⟨rfl, fun _ => rfl, fun _ => rfl⟩
theorem CacheX.ag {T : Txt} {X Z : Mem} (h : AgC X Z) (H : CacheX T X) : CacheX T Z := by
  rcases H with H | ⟨p, h1, h2, h3⟩
  · exact Or.inl (h.1.trans H)
  · exact Or.inr ⟨p, h1, h.1.trans h2, fun k hk => ⟨(h.2.1 k).trans (h3 k hk).1, (h.2.2 k).trans (h3 k hk).2⟩⟩
/-- the relation at other memories that agree where it matters; the cache given anew -/
theorem Rel.mk2 {T : Txt} {w : Nat} {X Y Z V : Mem} (hx : AgX X Z) (hy : AgY Y V) (h1 : TB T) (h2 : RefR w X) (h3 : WXw T w X) (h4 : OutX T w X) (h5 : TYr T Y) (h6 : MYr T Y) (h7 : TapeR X Y) (h8 : FltR X Y) (h9 : StR (T 0 0) X 0 Y 0) (h10 : ImgR (T 0 0) X Y) (h11 : PastR (T 0 0) X Y) (h12 : WaysR X) (h13 : CacheX T Z) : Rel Z V :=
  ⟨T, w, h1, h2.ag hx.t, h3.ag hx.t, h4.ag hx.t, h5.ag h1 hy.t, h6.ag hy.t, h7.ag hx.t hy.t, h8.ag hx.t hy.t, h9.ag hx hy (by decide) (by decide), h10.ag hx hy, h11.ag hx hy, h12.ag hx.t, h13⟩
theorem Rel.ag {X Y Z V : Mem} (hx : AgX X Z) (hc : AgC X Z) (hy : AgY Y V) (h : Rel X Y) : Rel Z V := by
  obtain ⟨T, w, h1, h2, h3, h4, h5, h6, h7, h8, h9, h10, h11, h12, h13⟩ := h
  exact Rel.mk2 hx hy h1 h2 h3 h4 h5 h6 h7 h8 h9 h10 h11 h12 (h13.ag hc)
/-- 'thrown' is not of the relation -/
theorem Rel.th {X Y : Mem} (v : Int32) (h : Rel X Y) : Rel X (sI Y 40 0 2 v) := Rel.ag (AgX.rf X) (AgC.rf X) (AgY.set rfl) h
theorem t_isIn {a lo hi : Int32} {M : Mem} {Q : Int32 → Mem → Prop} (h0 : (a < lo ∨ hi < a) → Q 0 M) (h1 : ¬ a < lo → ¬ hi < a → Q 1 M) : p_X11_isIn a lo hi M Q :=
  ⟨fun h => h0 (Or.inl h), fun h => ⟨fun h' => h0 (Or.inr h'), fun h' => h1 h h'⟩⟩
theorem sI_s {M : Mem} {f i k : Nat} {v : Int32} : (sI M f i k v).1 f i k = v := by simp [sI]
/-- the relation anew: the text's part agrees, the States given -/
theorem Rel.mk3 {T : Txt} {w : Nat} {X Y Z V : Mem} (hx : AgXt X Z) (hy : AgYt Y V) (h1 : TB T) (h2 : RefR w X) (h3 : WXw T w X) (h4 : OutX T w X) (h5 : TYr T Y) (h6 : MYr T Y) (h7 : TapeR X Y) (h8 : FltR X Y) (h12 : WaysR X) (h9 : StR (T 0 0) Z 0 V 0) (h10 : ImgR (T 0 0) Z V) (h11 : PastR (T 0 0) Z V) (h13 : CacheX T Z) : Rel Z V :=
  ⟨T, w, h1, h2.ag hx, h3.ag hx, h4.ag hx, h5.ag h1 hy, h6.ag hy, h7.ag hx hy, h8.ag hx hy, h9, h10, h11, h12.ag hx, h13⟩
theorem sI_n {M : Mem} {f i k f' i' k' : Nat} {v : Int32} (h : ¬ (f' = f ∧ i' = i ∧ k' = k)) : (sI M f i k v).1 f' i' k' = M.1 f' i' k' := if_neg h
