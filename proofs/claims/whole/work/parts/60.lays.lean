/-! the reference's samples; op 10 -/
def NsY (noise seed : Nat) (only : Option Nat) (Y : Mem) : Prop := Y.1 40 0 22 = nI noise ∧ Y.1 40 0 23 = nI seed ∧ Y.1 40 0 24 = oI only
def TbY (Y : Mem) : Prop := ∀ k, k < 16 → Y.1 48 0 k = stab 4 k
/-- all but samples stays -/
def FY0 (Y Z : Mem) : Prop := Z.2 = Y.2 ∧ ∀ a i j, a ≠ 49 → a ≠ 50 → Z.1 a i j = Y.1 a i j
theorem FY0.yt {Y Z : Mem} (h : FY0 Y Z) : AgYt Y Z := fun f k e => h.2 f 0 k (by rintro rfl; exact Bool.false_ne_true e) (by rintro rfl; exact Bool.false_ne_true e)
theorem t11_isLoud {T : Txt} {b p : Nat} {only : Option Nat} (h1 : TB T) (hb : b < T 0 0) (hp : p < 200) (ho : ∀ o, only = some o → o < 5) {Y : Mem} (h5 : TYr T Y) (hon : Y.1 40 0 24 = oI only) {Q : Int32 → Mem → Prop} (h : Q (bitV (loudB T only b p)) Y) : p_X11_isLoud (nI b) (nI p) Y Q := by
  have hnb := h1.1
  obtain ⟨-, -, t2, -, -, -, -, -, t8, -⟩ := h1.2.2.2.2.2.2.2.2.2.2.2.2.1 b hb
  have fade : (only == none || only == some b) = true → T (1 + b) 2 = 1 → b_X11_isLoud_26 Q (nI b) (nI p) Y := by
    intro e1 e2
    have e : loudB T only b p = (T (1 + b) 8 == 0 || decide (p < T (1 + b) 8)) := by
      unfold loudB; rw [e1, e2, Bool.and_true]; rfl
    rw [e] at h
    refine t11_birdOf (k := 8) (by omega) (by decide) (by omega) ?_
    rw [h5.2.2.1 b 8 hb (by decide)]
    refine ⟨fun y => ?_, fun y => t11_birdOf (k := 8) (by omega) (by decide) (by omega) ?_⟩
    · have e := (nI_eq0 (by omega)).mp y
      rw [e] at h
      exact h
    · have e : T (1 + b) 8 ≠ 0 := fun w => y (by rw [w]; rfl)
      rw [h5.2.2.1 b 8 hb (by decide), nI_leI (by omega) (by omega)]
      refine ⟨fun x => ?_, fun x => ?_⟩
      · rw [show (T (1 + b) 8 == 0) = false from by rw [beq_eq_false_iff_ne]; omega, decide_eq_false (by omega)] at h
        exact h
      · rw [show (T (1 + b) 8 == 0) = false from by rw [beq_eq_false_iff_ne]; omega, decide_eq_true (by omega)] at h
        exact h
  refine t11_birdOf (k := 2) (by omega) (by decide) (by omega) ?_
  rw [h5.2.2.1 b 2 hb (by decide), hon]
  refine ⟨fun y => ?_, fun y => ?_⟩
  · have e := (nI_eq0 (by omega)).mp y
    have el : loudB T only b p = false := by unfold loudB; rw [e]; rfl
    rw [el] at h
    exact h
  · have e : T (1 + b) 2 = 1 := by
      have : T (1 + b) 2 ≠ 0 := fun w => y (by rw [w]; rfl)
      omega
    cases hoc : only with
    | none => rw [hoc] at fade; exact ⟨fun _ => fade rfl e, fun z => absurd (by decide) z⟩
    | some o =>
      have ho5 := ho o hoc
      refine ⟨fun z => absurd z (nI_pos (by omega)), fun _ => ⟨fun z => ?_, fun z => ?_⟩⟩
      · have he : b = o := (nI_eq (by omega) (by omega)).mp z
        rw [hoc] at fade
        exact fade (by rw [he]; simp) e
      · have hne : o ≠ b := fun y => z (by rw [y]; rfl)
        have hl : loudB T only b p = false := by
          unfold loudB
          rw [hoc, show ((some o : Option Nat) == none || (some o : Option Nat) == some b) = false from by simp [hne], Bool.and_false]
        rw [hl] at h
        exact h
/-- a bird's part of a sample comes to it -/
theorem t11_adds {T : Txt} {b p k : Nat} {only : Option Nat} (h1 : TB T) (hb : b < T 0 0) (hp : p < 200) (hk : k < 62) (ho : ∀ o, only = some o → o < 5) {Y : Mem} (h5 : TYr T Y) (htb : TbY Y) (hon : Y.1 40 0 24 = oI only) {Q : Mem → Prop} (h0 : loudB T only b p = false → Q Y) (h : loudB T only b p = true → Q (sI (sI Y 49 0 k (Y.1 49 0 k + iI (gRe T b p k))) 50 0 k (Y.1 50 0 k + iI (gIm T b p k)))) : p_X11_adds (nI b) (nI p) (nI (62 * p + k)) Y Q := by
  have hnb := h1.1
  have hst := startN_lt h1 hb (p := p) (by omega)
  obtain ⟨-, td, -, -, tsh, ttu, tst, -⟩ := h1.2.2.2.2.2.2.2.2.2.2.2.2.1 b hb
  refine t11_isLoud h1 hb hp ho h5 hon ⟨fun y => ?_, fun y => h0 ?_⟩
  · have hl : loudB T only b p = true := by
      cases e : loudB T only b p
      · rw [e] at y; exact absurd rfl y
      · rfl
    refine t11_startIn h1 hb (by omega) h5 ?_
    rintro x4 rfl
    rw [err_e (by omega) (by omega)]
    generalize hm : (((62 * p + k : Nat) : Int) - (startN T b p : Nat)) = m
    refine t11_birdOf (k := 6) (by omega) (by decide) (by omega) (t11_birdOf (k := 1) (by omega) (by decide) (by omega) (t11_re (m := 62) (by decide) (by decide) ?_))
    rw [iI_t (by omega) (by omega), h5.2.2.1 b 6 hb (by decide), h5.2.2.1 b 1 hb (by decide)]
    have e1 : Int32.ofInt (m % ((62 : Nat) : Int)) = nI (m % 62).toNat := by
      rw [← iI_n]; show iI _ = iI _; congr 1; omega
    have e2 : (nI (m % 62).toNat / 2 : Int32) = nI ((m % 62).toNat / 2) := pk_div (d := 2) (by omega) (by decide) (by decide)
    rw [e1, e2]
    refine t11_chipBy td (by omega) h5 ?_
    rintro x9 rfl
    refine t11_qu (m := 62) (by decide) (by decide) (by rw [iI_t (by omega) (by omega)]; omega) ?_
    rw [iI_t (by omega) (by omega)]
    refine t11_bitZ (z := m / ((62 : Nat) : Int)) h1 hb (by omega) (by omega) h5 ?_
    have hby : byZ T b p (62 * p + k) = (T (1 + b) 6 : Int) * (if chipB T (T (1 + b) 1) ((m % 62).toNat / 2) then 1 else -1) * (if bitN T b (m / 62) then -1 else 1) := by
      unfold byZ
      rw [hm]
    have e62 : (nI (62 * p + k) - nI (62 * p + k) / 62 * 62 : Int32) = nI k := by
      rw [show (62 : Int32) = nI 62 from rfl, pk_rem (by omega) (by decide) (by decide)]
      congr 1; omega
    have fin : ∀ s0 : Int32, s0 = iI (byZ T b p (62 * p + k)) → b_X11_adds_73 Q (nI b) (nI (62 * p + k)) s0 Y := by
      rintro s0 rfl
      refine t11_birdOf (k := 4) (by omega) (by decide) (by omega) (t11_birdOf (k := 5) (by omega) (by decide) (by omega) ?_)
      rw [h5.2.2.1 b 4 hb (by decide), h5.2.2.1 b 5 hb (by decide)]
      refine t11_angle tsh (by omega) ?_
      rw [e62]
      refine ⟨vp_in_nI (by omega) (by omega), t11_cos tsh (by omega) ttu htb ⟨vp_in_nI (by omega) (by omega), ?_⟩⟩
      rintro M18 rfl
      refine ⟨vp_in_nI (by omega) (by omega), t11_sin tsh (by omega) ttu (fun j hj => by rw [sI_n (by omega)]; exact htb j hj) ⟨vp_in_nI (by omega) (by omega), ?_⟩⟩
      rintro M21 rfl
      rw [nI_clamp (by omega), sI_n (by omega), iI_mul, iI_mul]
      exact h hl
    have hs := @sg_e (T (1 + b) 6) (chipB T (T (1 + b) 1) ((m % 62).toNat / 2)) (bitN T b (m / 62))
    have hx : nI (T (1 + b) 6) * (if chipB T (T (1 + b) 1) ((m % 62).toNat / 2) = true then 1 else -1) = iI ((T (1 + b) 6 : Int) * (if chipB T (T (1 + b) 1) ((m % 62).toNat / 2) then 1 else -1)) := by
      rw [← iI_mul, iI_n]
      cases chipB T (T (1 + b) 1) ((m % 62).toNat / 2) <;> rfl
    rw [hx]
    show (_ → _) ∧ (_ → _)
    have hb62 : bitN T b (m / ((62 : Nat) : Int)) = bitN T b (m / 62) := rfl
    rw [hb62, iI_neg]
    refine ⟨fun n => fin _ ?_, fun n => fin _ ?_⟩
    · rw [hby]
      cases e : bitN T b (m / 62)
      · congr 1; simp
      · rw [e] at n; exact absurd rfl n
    · rw [hby]
      cases e : bitN T b (m / 62)
      · rw [e] at n; exact absurd n (by decide)
      · congr 1; simp
  · cases e : loudB T only b p
    · rfl
    · rw [e] at y; exact absurd y (by decide)
/-- samples below k done -/
def YSs (Y Z : Mem) (f g : Nat → Int) (k : Nat) : Prop := FY0 Y Z ∧ ∀ j, j < k → Z.1 49 0 j = iI (f j) ∧ Z.1 50 0 j = iI (g j)
theorem t11_smp_in {T : Txt} {p noise seed k n : Nat} {only : Option Nat} (h1 : TB T) (hp : p < 200) (hk : k < 62) (ho : ∀ o, only = some o → o < 5) {Y : Mem} (h5 : TYr T Y) (htb : TbY Y) (hns : NsY noise seed only Y) {Q : Mem → Prop} {f g : Nat → Int} {ef eg : Int} (h : ∀ Z, YSs Y Z f g k → Z.1 49 0 k = iI (ef + fRe T p only (T 0 0) k) → Z.1 50 0 k = iI (eg + fIm T p only (T 0 0) k) → b_X11_laySamples_2 Q n (nI p) (nI (k + 1)) Z) : ∀ (d b : Nat) (Z : Mem), b + d = T 0 0 → YSs Y Z f g k → Z.1 49 0 k = iI (ef + fRe T p only b k) → Z.1 50 0 k = iI (eg + fIm T p only b k) → b_X11_laySamples_64 Q (fun v1 v2 M => b_X11_laySamples_2 Q n v1 v2 M) (d + 1) (nI p) (nI k) (nI (62 * p + k)) (nI b) Z := by
  have hnb := h1.1
  intro d
  induction d with
  | zero =>
    intro b Z hbd hZ q1 q2
    have hbe : b = T 0 0 := by omega
    subst hbe
    have e1 : Z.1 40 0 11 = nI (T 0 0) := (hZ.1.2 40 0 11 (by decide) (by decide)).trans h5.1
    refine ⟨fun _ => ?_, fun z => absurd (by rw [e1]; exact Int32.le_refl _) z⟩
    rintro x10 rfl
    rw [nI_1]
    exact h Z hZ q1 q2
  | succ d ih =>
    intro b Z hbd hZ q1 q2
    have hb : b < T 0 0 := by omega
    have e1 : Z.1 40 0 11 = nI (T 0 0) := (hZ.1.2 40 0 11 (by decide) (by decide)).trans h5.1
    refine ⟨fun z => absurd z (by rw [e1]; exact nI_ge hb (by omega)), fun _ => ?_⟩
    refine t11_adds h1 hb hp hk ho (h5.ag h1 hZ.1.yt) (fun j hj => (hZ.1.2 48 0 j (by decide) (by decide)).trans (htb j hj)) ((hZ.1.2 40 0 24 (by decide) (by decide)).trans hns.2.2) (fun hl => ?_) (fun hl => ?_)
    · rintro x12 rfl
      rw [nI_1]
      refine ih (b + 1) Z (by omega) hZ ?_ ?_
      · rw [(fRe_0 hl).1]; exact q1
      · rw [(fRe_0 hl).2]; exact q2
    · rintro x12 rfl
      rw [nI_1]
      refine ih (b + 1) _ (by omega) ⟨⟨hZ.1.1, fun a i j c1 c2 => by rw [sI_n (by omega), sI_n (by omega)]; exact hZ.1.2 a i j c1 c2⟩, fun j hj => by rw [sI_n (by omega), sI_n (by omega), sI_n (by omega)]; exact hZ.2 j hj⟩ ?_ ?_
      · rw [sI_n (by omega), sI_s, q1, iI_add, (fRe_1 hl).1, Int.add_assoc]
      · rw [sI_s, q2, iI_add, (fRe_1 hl).2, Int.add_assoc]
theorem t11_made {x : Nat} {M : Mem} {Q : Int64 → Mem → Prop} (h : Q (lN (nxtN x)) M) : p_X11_made (lN x) M Q := by
  unfold p_X11_made
  rw [nx11]
  exact h
theorem t11_smp_l {T : Txt} {p noise seed : Nat} {only : Option Nat} (h1 : TB T) (hp : p < 200) (hn0 : noise < 1000) (hsd : seed < 2 ^ 30) (ho : ∀ o, only = some o → o < 5) {Y : Mem} (h5 : TYr T Y) (htb : TbY Y) (hns : NsY noise seed only Y) {Q : Mem → Prop} (h : ∀ Z, YSs Y Z (sreZ T p noise seed only) (simZ T p noise seed only) 62 → Q Z) : ∀ (d k : Nat) (Z : Mem), k + d = 62 → YSs Y Z (sreZ T p noise seed only) (simZ T p noise seed only) k → b_X11_laySamples_2 Q (d + 1) (nI p) (nI k) Z := by
  have hnb := h1.1
  intro d
  induction d with
  | zero =>
    intro k Z hk hZ
    have : k = 62 := by omega
    subst this
    exact ⟨fun _ => h Z hZ, fun z => absurd (by decide) z⟩
  | succ d ih =>
    intro k Z hk hZ
    have ik : vp_in (nI k) 62 := vp_in_nI (by omega) (by omega)
    refine ⟨fun z => absurd z (by rw [show (62 : Int32) = nI 62 from rfl]; exact nI_ge (by omega) (by omega)), fun _ => ?_⟩
    rintro x2 rfl
    have n1 : Z.1 40 0 22 = nI noise := (hZ.1.2 40 0 22 (by decide) (by decide)).trans hns.1
    have n2 : Z.1 40 0 23 = nI seed := (hZ.1.2 40 0 23 (by decide) (by decide)).trans hns.2.1
    have e0 : (Z.1 40 0 23).toInt64 + (((62 : Int32) * nI p) + nI k).toInt64 = lN (seed + 62 * p + k) := by
      rw [n2, show (62 : Int32) = nI 62 from rfl, pk_mul, nI_add, nI_l (by omega), nI_l (by omega), lN_add, Nat.add_assoc]
    rw [e0]
    refine t11_made ?_
    rw [n1]
    refine t11_error (nxtN_lt _) hn0 ⟨ik, ?_⟩
    rw [nI_clamp (by omega)]
    rintro M5 rfl
    refine t11_made ?_
    rw [sI_n (by omega), n1]
    refine t11_error (nxtN_lt _) hn0 ⟨ik, ?_⟩
    rintro M8 rfl
    have e62 : ((62 : Int32) * nI p + nI k) = nI (62 * p + k) := by rw [show (62 : Int32) = nI 62 from rfl, pk_mul, nI_add]
    rw [e62]
    refine ⟨T 0 0 + 1, t11_smp_in (f := sreZ T p noise seed only) (g := simZ T p noise seed only) (ef := errZ (nxtN (seed + 62 * p + k)) noise) (eg := errZ (nxtN (nxtN (seed + 62 * p + k))) noise) h1 hp (by omega) ho h5 htb hns (fun V hV q1 q2 => ih (k + 1) V (by omega) ⟨hV.1, fun j hj => ?_⟩) (T 0 0) 0 _ (by omega) ⟨⟨hZ.1.1, fun a i j c1 c2 => by rw [sI_n (by omega), sI_n (by omega)]; exact hZ.1.2 a i j c1 c2⟩, fun j hj => by rw [sI_n (by omega), sI_n (by omega), sI_n (by omega)]; exact hZ.2 j hj⟩ ?_ ?_⟩
    · by_cases hjk : j = k
      · subst hjk
        rw [q1, q2]
        refine ⟨congrArg iI ?_, congrArg iI ?_⟩
        · exact Int.add_comm _ _
        · exact Int.add_comm _ _
      · exact hV.2 j (by omega)
    · rw [sI_n (by omega), sI_s]; exact congrArg iI (Int.add_zero _).symm
    · rw [sI_s]; exact congrArg iI (Int.add_zero _).symm
theorem t11_smp {T : Txt} {p noise seed : Nat} {only : Option Nat} (h1 : TB T) (hp : p < 200) (hn0 : noise < 1000) (hsd : seed < 2 ^ 30) (ho : ∀ o, only = some o → o < 5) {Y : Mem} (h5 : TYr T Y) (htb : TbY Y) (hns : NsY noise seed only Y) {Q : Mem → Prop} (h : ∀ Z, YSs Y Z (sreZ T p noise seed only) (simZ T p noise seed only) 62 → Q Z) : p_X11_laySamples (nI p) Y Q :=
  ⟨63, t11_smp_l h1 hp hn0 hsd ho h5 htb hns h 62 0 Y rfl ⟨⟨rfl, fun _ _ _ _ _ => rfl⟩, fun j hj => absurd hj (by omega)⟩⟩
theorem YSs.ey {Y Z : Mem} {f g : Nat → Int} {k : Nat} (h : YSs Y Z f g k) : EY Y Z := fun a i j c _ => h.1.2 a i j (by omega) (by omega)
theorem MYr.ns {T : Txt} {Y : Mem} (h : MYr T Y) : NsY (T 0 4) (T 0 5) none Y := ⟨h.2.1, h.2.2.1, h.2.2.2.1⟩
/-- the relation behind hearing -/
theorem relE {T : Txt} {w : Nat} {X Y Z V : Mem} (h1 : TB T) (h2 : RefR w X) (h3 : WXw T w X) (h4 : OutX T w X) (h5 : TYr T Y) (h6 : MYr T Y) (h7 : TapeR X Y) (h8 : FltR X Y) (h9 : StR (T 0 0) X 0 Y 0) (h10 : ImgR (T 0 0) X Y) (h11 : PastR (T 0 0) X Y) (h12 : WaysR X) (hx : EX X Z) (hc : CacheX T Z) (hy : EY (sI Y 40 0 2 0) V) : Rel Z V :=
  Rel.mk2 hx.ag ((AgY.set rfl).tr hy.ag) h1 h2 h3 h4 h5 h6 h7 h8 h9 h10 h11 h12 hc
/-- op 10: sample -/
theorem op_10 (X Y : Mem) (a1 a2 : Int32) (hR : Rel X Y) : p_X10_sample a1 a2 X (fun r X1 => p_X11_sample a1 a2 Y (fun r1 Y1 => r = r1 ∧ Rel X1 Y1)) := by
  obtain ⟨T, w, h1, h2, h3, h4, h5, h6, h7, h8, h9, h10, h11, h12, h13⟩ := id hR
  have no1 : (a1 < 0 ∨ 12399 < a1) → p_X11_sample a1 a2 Y (fun r1 Y1 => 0 = r1 ∧ Rel X Y1) := by
    rintro h M1 rfl
    exact t_isIn (fun _ => ⟨fun _ => ⟨rfl, hR.th 0⟩, fun n => absurd rfl n⟩) (fun n n' => (h.elim n n').elim)
  have no2 : ¬ a1 < 0 → ¬ 12399 < a1 → (a2 < 0 ∨ 1 < a2) → p_X11_sample a1 a2 Y (fun r1 Y1 => 0 = r1 ∧ Rel X Y1) := by
    rintro g1 g2 h M1 rfl
    exact t_isIn (fun z => (z.elim g1 g2).elim) (fun _ _ => ⟨fun n => absurd n (by decide), fun _ => t_isIn (fun _ => ⟨fun n => absurd rfl n, fun _ => ⟨rfl, hR.th 0⟩⟩) (fun n n' => (h.elim n n').elim)⟩)
  rcases pk_ix a1 (n := 12400) (by decide) with h | h | ⟨n, hn, rfl⟩
  · exact ⟨fun _ => no1 (Or.inl h), fun z => absurd h z⟩
  · refine ⟨fun z => no1 (Or.inl z), fun _ => ⟨fun _ => no1 (Or.inr ?_), fun z => absurd h z⟩⟩
    exact Int32.lt_of_lt_of_le (by decide) h
  have g1 : ¬ nI n < 0 := nI_pos (by omega)
  have g2 : ¬ (12399 : Int32) < nI n := nI_nlt (a := 12399) (b := n) (by omega) (by decide)
  refine ⟨fun z => absurd z g1, fun _ => ⟨fun z => absurd z (by rw [show (12400 : Int32) = nI 12400 from rfl]; exact nI_ge hn (by decide)), fun _ => ⟨fun z => no2 g1 g2 (Or.inl z), fun z0 => ⟨fun z1 => ?_, fun z => no2 g1 g2 (Or.inr (Int32.not_le.mp z))⟩⟩⟩⟩
  refine ⟨w, h2.2.1, h2.1, ?_⟩
  have e1 : (nI n / 62 : Int32) = nI (n / 62) := pk_div (d := 62) (by omega) (by decide) (by decide)
  have e2 : (nI n - nI n / 62 * 62 : Int32) = nI (n % 62) := pk_rem (d := 62) (by omega) (by decide) (by decide)
  have hlt : n % 62 < 62 := Nat.mod_lt _ (by decide)
  rw [e2, e1, nI_clamp (by omega)]
  have inn : vp_in (nI (n % 62)) 62 := vp_in_nI hlt (by decide)
  have mo : ∀ Z, EX X Z → HeardX T (n / 62) (T 0 4) (T 0 5) none Z → CacheX T Z → ∀ r, (a2 = 0 → r = iI (sreZ T (n / 62) (T 0 4) (T 0 5) none (n % 62))) → (¬ a2 = 0 → r = iI (simZ T (n / 62) (T 0 4) (T 0 5) none (n % 62))) → p_X11_sample (nI n) a2 Y (fun r1 Y1 => r = r1 ∧ Rel Z Y1) := by
    rintro Z hx hh hc r r0 r1 M1 rfl
    refine t_isIn (fun z => (z.elim g1 g2).elim) (fun _ _ => ⟨fun n => absurd n (by decide), fun _ => t_isIn (fun z => (z.elim z0 (fun y => Int32.not_lt.mpr z1 y)).elim) (fun _ _ => ⟨fun _ => ?_, fun n => absurd n (by decide)⟩)⟩)
    rw [e2, e1, nI_clamp (by omega)]
    refine t11_smp h1 (by omega) (by have := h1.2.2.2.2.1; omega) (by have := h1.2.2.2.2.2.1; omega) (fun o e => by cases e) (h5.ag h1 (AgYt.set rfl)) (fun k hk => by rw [sI_n (by omega)]; exact h6.2.2.2.2.1 k hk) ((h6.ag (AgYt.set rfl) : MYr T (sI Y 40 0 2 0)).ns) (fun V hV => ?_)
    have R : Rel Z V := relE h1 h2 h3 h4 h5 h6 h7 h8 h9 h10 h11 h12 hx hc hV.ey
    obtain ⟨v1, v2⟩ := hV.2 (n % 62) hlt
    exact ⟨fun z => ⟨inn, by rw [v2]; exact r1 z, R⟩, fun z => ⟨inn, by rw [v1]; exact r0 z, R⟩⟩
  refine t10_hear h1 h2.1 (by omega) h3 h4 h13 (fun Z hx _ hh hc => ⟨fun z => ⟨inn, mo Z hx hh hc _ (fun y => absurd y z) (fun _ => (hh _ hlt).2)⟩, fun z => ⟨inn, mo Z hx hh hc _ (fun _ => (hh _ hlt).1) (fun y => absurd z y)⟩⟩)
