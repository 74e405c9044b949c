/-! as if: ops 15, 16, 17; op 18 -/
/-- the reference with other noise, seed, bird on the way -/
def EW (Y Z : Mem) : Prop := ∀ f i k, (f < 49 ∨ 53 < f) → ¬ (f = 40 ∧ (k = 2 ∨ (22 ≤ k ∧ k ≤ 24) ∨ k = 29 ∨ k = 30 ∨ k = 32)) → Z.1 f i k = Y.1 f i k
theorem EW.rf (Y : Mem) : EW Y Y := fun _ _ _ _ _ => rfl
theorem EW.tr {Y Z V : Mem} (h : EW Y Z) (h2 : EW Z V) : EW Y V := fun f i k e g => (h2 f i k e g).trans (h f i k e g)
theorem EW.set {Y : Mem} {k : Nat} {v : Int32} (h : k = 2 ∨ (22 ≤ k ∧ k ≤ 24)) : EW Y (sI Y 40 0 k v) := fun f' i' k' e g => sI_n (by omega)
theorem EY.ew {Y Z : Mem} (h : EY Y Z) : EW Y Z := fun f i k e g => h f i k e (by omega)
theorem TYr.ew {T : Txt} (hT : TB T) {Y Z : Mem} (h : EW Y Z) (H : TYr T Y) : TYr T Z := by
  obtain ⟨h1, h2, h3, h4, h5, h6, h7⟩ := H
  refine ⟨?_, ?_, fun b k hb hk => ?_, fun i hi j hj => ?_, fun k hk => ?_, fun k hk => ?_, fun i hi => ?_⟩
  · rw [h 40 0 11 (by omega) (by omega)]; exact h1
  · rw [h 40 0 14 (by omega) (by omega)]; exact h2
  · rw [h 43 0 _ (by omega) (by omega)]; exact h3 b k hb hk
  · rw [h 44 0 _ (by omega) (by omega)]; exact h4 i hi j hj
  · rw [h 45 0 _ (by omega) (by omega)]; exact h5 k hk
  · rw [h 45 0 _ (by omega) (by omega)]; exact h6 k hk
  · rw [h 47 0 _ (by omega) (by omega), h 47 0 _ (by omega) (by omega)]; exact h7 i hi
theorem CY.ew {T : Txt} {Y Z : Mem} (h1 : TB T) (h : EW Y Z) (H : CY T Y) : CY T Z := ⟨H.1.ew h1 h, fun k hk => (h 48 0 k (by omega) (by omega)).trans (H.2 k hk)⟩
theorem t11_asTold {T : Txt} {Y V : Mem} (h1 : TB T) (h5 : TYr T Y) (h6 : MYr T Y) (hw : EW Y V) {Q : Mem → Prop} (h : ∀ Z, AgY Y Z → EW Y Z → Z.2 = V.2 → (∀ k, k < 22 ∨ 24 < k → Z.1 40 0 k = V.1 40 0 k) → Q Z) : p_X11_asTold V Q := by
  have t5 := h5.ew h1 hw
  have e9 : V.1 45 0 9 = nI (T 0 4) := t5.2.2.2.2.1 2 (by decide)
  have e10 : V.1 45 0 10 = nI (T 0 5) := t5.2.2.2.2.1 3 (by decide)
  refine ⟨vp_in_nI (n := 9) (N := 34) (by decide) (by decide), ?_⟩
  rintro M2 rfl
  refine ⟨vp_in_nI (n := 10) (N := 34) (by decide) (by decide), ?_⟩
  rintro M4 rfl M5 rfl
  rw [show (9 : Int32).toNatClampNeg = 9 from by decide, show (10 : Int32).toNatClampNeg = 10 from by decide, sI_n (by omega), e9, e10]
  refine h _ (fun f k e => ?_) (hw.tr ((EW.set (by omega)).tr ((EW.set (by omega)).tr (EW.set (by omega))))) rfl (fun k hk => by rw [sI_n (by omega), sI_n (by omega), sI_n (by omega)])
  by_cases hf : f = 40
  · subst hf
    by_cases k22 : k = 22
    · subst k22; rw [sI_n (by omega), sI_n (by omega), sI_s]; exact h6.2.1.symm
    by_cases k23 : k = 23
    · subst k23; rw [sI_n (by omega), sI_s]; exact h6.2.2.1.symm
    by_cases k24 : k = 24
    · subst k24; rw [sI_s]; exact h6.2.2.2.1.symm
    rw [sI_n (by omega), sI_n (by omega), sI_n (by omega)]
    refine hw 40 0 k (by omega) (fun z => ?_)
    have : k = 2 ∨ k = 29 ∨ k = 30 ∨ k = 32 := by omega
    rcases this with rfl | rfl | rfl | rfl <;> exact Bool.false_ne_true e
  · rw [sI_n (by omega), sI_n (by omega), sI_n (by omega)]
    refine hw f 0 k ?_ (by omega)
    unfold kY at e
    split at e <;> first | omega | exact absurd e (by decide)
/-- the relation behind what is as if -/
theorem relW {T : Txt} {w : Nat} {X Y Z V : Mem} (h1 : TB T) (h2 : RefR w X) (h3 : WXw T w X) (h4 : OutX T w X) (h5 : TYr T Y) (h6 : MYr T Y) (h7 : TapeR X Y) (h8 : FltR X Y) (h9 : StR (T 0 0) X 0 Y 0) (h10 : ImgR (T 0 0) X Y) (h11 : PastR (T 0 0) X Y) (h12 : WaysR X) (hx : EX X Z) (hc : CacheX T Z) (hy : AgY Y V) : Rel Z V :=
  Rel.mk2 hx.ag hy h1 h2 h3 h4 h5 h6 h7 h8 h9 h10 h11 h12 hc
theorem bitV_01 {c : Bool} {A : Int32 → Prop} (h : A (bitV c)) : (bitV c = 0 → A 0) ∧ (¬ bitV c = 0 → A 1) := by
  cases c
  · exact ⟨fun _ => h, fun y => absurd rfl y⟩
  · exact ⟨fun y => absurd y z1n, fun _ => h⟩
theorem HY.keep {f : Nat → Nat} {V Z : Mem} (h2 : Z.2 = V.2) (h1 : ∀ k, k < 22 ∨ 24 < k → Z.1 40 0 k = V.1 40 0 k) (H : HY f V) : HY f Z := ⟨(h1 32 (by omega)).trans H.1, by rw [h2]; exact H.2.1, fun c hc => by rw [h2]; exact H.2.2 c hc⟩
/-- op 15: clear -/
theorem op_15 (X Y : Mem) (a1 a2 a3 : Int32) (hR : Rel X Y) : p_X10_clear a1 a2 a3 X (fun r X1 => p_X11_clear a1 a2 a3 Y (fun r1 Y1 => r = r1 ∧ Rel X1 Y1)) := by
  obtain ⟨T, w, h1, h2, h3, h4, h5, h6, h7, h8, h9, h10, h11, h12, h13⟩ := id hR
  have hnb := h1.1
  have hYb : (sI Y 40 0 2 0).1 40 0 11 = nI (T 0 0) := by rw [sI_n (by omega)]; exact h5.1
  have hC := cY_of h1 h5 h6
  have ym : ∀ {Q : Int32 → Mem → Prop}, (¬ (inL a1 0 (T 0 0) ∧ inL a2 0 200 ∧ inL a3 0 3) → Q (-1) (sI Y 40 0 2 0)) → ((inL a1 0 (T 0 0) ∧ inL a2 0 200 ∧ inL a3 0 3) → (¬ a3 = 1 → b_X11_clear_43 Q a1 a2 a3 0 (sI Y 40 0 2 0)) ∧ (a3 = 1 → b_X11_clear_43 Q a1 a2 a3 (nI (T 0 4)) (sI Y 40 0 2 0))) → p_X11_clear a1 a2 a3 Y Q := by
    intro Q q0 q1
    rintro M1 rfl
    refine e11_isRange (m := 1) hnb (by decide) (by decide) hYb (fun z => ⟨fun _ => q0 (fun g => z ⟨g.1, inP_1.mpr g.2.1⟩), fun y => absurd rfl y⟩) (fun gb gp => ⟨fun y => absurd y z1n, fun _ => e_isIn (lo := 0) (m := 2) (n := 3) (by decide) rfl (by decide) (fun z => ⟨fun y => absurd rfl y, fun _ => q0 (fun g => z g.2.2)⟩) (fun g4 => ⟨fun _ => ⟨(q1 ⟨gb, inP_1.mp gp, g4⟩).1, fun y => ⟨vp_in_nI (n := 9) (N := 34) (by decide) (by decide), ?_⟩⟩, fun y => absurd y z1n⟩)⟩)
    have e9 : (sI Y 40 0 2 0).1 45 0 9 = nI (T 0 4) := hC.1.2.2.2.2.1 2 (by decide)
    rw [show (9 : Int32).toNatClampNeg = 9 from by decide, e9]
    exact (q1 ⟨gb, inP_1.mp gp, g4⟩).2 y
  have no : ¬ (inL a1 0 (T 0 0) ∧ inL a2 0 200 ∧ inL a3 0 3) → p_X11_clear a1 a2 a3 Y (fun r1 Y1 => -1 = r1 ∧ Rel X Y1) := fun n => ym (fun _ => ⟨rfl, hR.th 0⟩) (fun g => absurd g n)
  refine e10_isBird hnb h2 h3.1 (fun z => ⟨fun _ => no (fun g => z g.1), fun y => absurd rfl y⟩) (fun gb => ⟨fun y => absurd y z1n, fun _ => e10_isPeriod (fun z => ⟨fun _ => no (fun g => z g.2.1), fun y => absurd rfl y⟩) (fun gp => ⟨fun y => absurd y z1n, fun _ => ⟨fun z => no (fun g => inL_lo (by decide) z g.2.2), fun z4 => ⟨fun z5 => ?_, fun z => no (fun g => inL_gt (m := 2) (by decide) rfl (Int32.not_le.mp z) g.2.2)⟩⟩⟩)⟩)
  have g3 : inL a3 0 3 := inL_mk' (m := 2) (by decide) rfl z4 (Int32.not_lt.mpr z5) (by decide)
  have gg := And.intro gb (And.intro gp g3)
  obtain ⟨b, _, hb, rfl⟩ := gb
  obtain ⟨p, _, hp, rfl⟩ := gp
  have hra : T 0 6 < 100 := h1.2.2.2.2.2.2.1.2
  have key : ∀ (noise : Nat) (only : Option Nat), noise < 100 → (∀ o, only = some o → o < 5) → (a3 = 1 → noise = T 0 4) → (¬ a3 = 1 → noise = 0) → (a3 = 0 → only = none) → (¬ a3 = 0 → only = some b) → b_X10_clear_53 (fun r X1 => p_X11_clear (nI b) (nI p) a3 Y (fun r1 Y1 => r = r1 ∧ Rel X1 Y1)) (nI b) (nI p) (nI noise) (oI only) X := by
    intro noise only hn ho c1 c2 c3 c4
    refine ⟨w, h2.2.1, h2.1, ?_⟩
    rw [h3.2.2.2.2.2.1]
    refine t10_acqAs h1 hb hp hn ho ⟨h2, h3, h4⟩ (fun Z hx hc hH => bitV_01 (A := fun r => p_X11_clear (nI b) (nI p) a3 Y (fun r1 Y1 => r = r1 ∧ Rel Z Y1)) ?_)
    have yk : b_X11_clear_43 (fun r1 Y1 => bitV (acqB (hN T b noise (T 0 5) only p 1) (T 0 6)) = r1 ∧ Rel Z Y1) (nI b) (nI p) a3 (nI noise) (sI Y 40 0 2 0) := by
      rintro M7 rfl
      have yk2 : ∀ s1, s1 = oI only → b_X11_clear_56 (fun r1 Y1 => bitV (acqB (hN T b noise (T 0 5) only p 1) (T 0 6)) = r1 ∧ Rel Z Y1) (nI b) (nI p) s1 (sI (sI Y 40 0 2 0) 40 0 22 (nI noise)) := by
        rintro s1 rfl M9 rfl
        have ew : EW (sI Y 40 0 2 0) (sI (sI (sI Y 40 0 2 0) 40 0 22 (nI noise)) 40 0 24 (oI only)) := (EW.set (by omega)).tr (EW.set (by omega))
        refine t11_hunts h1 hb (noise := noise) (seed := T 0 5) (only := only) (m := 1) (by decide) (by omega) hn (by have := h1.2.2.2.2.2.1; omega) ho (hC.ew h1 ew) ⟨by rw [sI_n (by omega), sI_s], by rw [sI_n (by omega), sI_n (by omega), sI_n (by omega)]; exact h6.2.2.1, sI_s⟩ (fun V hV hY => ?_)
        refine t11_asTold h1 h5 h6 (((EW.set (by omega)).tr ew).tr hV.ew) (fun U a1' a2' a3' a4' => ?_)
        refine t11_acq (hN_lt h1 hn (by decide)) hra (hY.keep a3' a4') (ra_of (h5.ew h1 a2')) ?_
        refine bitV_01 (A := fun r => bitV (acqB (hN T b noise (T 0 5) only p 1) (T 0 6)) = r ∧ Rel Z U) ?_
        exact ⟨rfl, relW h1 h2 h3 h4 h5 h6 h7 h8 h9 h10 h11 h12 hx hc a1'⟩
      exact ⟨fun n => yk2 _ (by rw [c4 n]; rfl), fun n => yk2 _ (by rw [c3 n]; rfl)⟩
    refine ym (fun n => absurd gg n) (fun _ => ⟨fun n => ?_, fun n => ?_⟩)
    · rw [c2 n] at yk ⊢; exact yk
    · rw [c1 n] at yk ⊢; exact yk
  have k42 : ∀ noise, noise < 100 → (a3 = 1 → noise = T 0 4) → (¬ a3 = 1 → noise = 0) → b_X10_clear_42 (fun r X1 => p_X11_clear (nI b) (nI p) a3 Y (fun r1 Y1 => r = r1 ∧ Rel X1 Y1)) (nI b) (nI p) a3 (nI noise) X := fun noise hn c1 c2 =>
    ⟨fun n => key noise (some b) hn (fun o e => by cases e; omega) c1 c2 (fun y => absurd y n) (fun _ => rfl), fun n => key noise none hn (fun o e => by cases e) c1 c2 (fun _ => rfl) (fun y => absurd n y)⟩
  refine ⟨fun n => k42 0 (by decide) (fun y => absurd y n) (fun _ => rfl), fun n => ⟨w, h2.2.1, h2.1, ?_⟩⟩
  rw [h3.2.2.2.2.1]
  exact k42 _ h1.2.2.2.2.1 (fun _ => rfl) (fun y => absurd n y)
/-! op 16: limit -/
def lmV (T : Txt) (b p : Nat) : Nat → Nat → Int32
  | 0, _ => -2
  | d + 1, k => if acqB (hN T b (9 * k) (T 0 5) none p 1) (T 0 6) then lmV T b p d (k + 1) else nI (9 * k)
theorem t10_limit_l {T : Txt} {w b p : Nat} (h1 : TB T) (hb : b < T 0 0) (hp : p < 200) {X : Mem} (hW : CW T w X) {Q : Int32 → Mem → Prop} : ∀ (d k : Nat) (Z : Mem), k + d = 12 → EX X Z → CacheX T Z → (∀ V, EX X V → CacheX T V → Q (lmV T b p d k) V) → b_X10_limit_19 Q (d + 1) (nI b) (nI p) (nI (9 * k)) Z := by
  intro d
  induction d with
  | zero =>
    intro k Z hk hx hc h
    have : k = 12 := by omega
    subst this
    exact ⟨fun _ => h Z hx hc, fun z => absurd (by decide) z⟩
  | succ d ih =>
    intro k Z hk hx hc h
    have hW2 := hW.ex hx
    rw [lmV] at h
    refine ⟨fun z => absurd z (by rw [show (99 : Int32) = nI 99 from rfl]; exact nI_nlt (by omega) (by omega)), fun _ => ⟨w, hW2.1.2.1, hW2.1.1, ?_⟩⟩
    rw [hW2.2.1.2.2.2.2.2.1]
    refine t10_acqAs (only := none) h1 hb hp (by omega) (fun o e => by cases e) hW2 (fun V hx2 hc2 hH => ?_)
    cases hq : acqB (hN T b (9 * k) (T 0 5) none p 1) (T 0 6)
    · refine ⟨fun y => absurd rfl y, fun _ => ?_⟩
      have := h V (hx.tr hx2) hc2
      rw [if_neg (by rw [hq]; decide)] at this
      exact this
    · refine ⟨fun _ => ?_, fun y => absurd y z1n⟩
      rintro x9 rfl
      rw [show (9 : Int32) = nI 9 from rfl, nI_add, show 9 * k + 9 = 9 * (k + 1) from by omega]
      refine ih (k + 1) V (by omega) (hx.tr hx2) hc2 (fun U a b => ?_)
      have := h U a b
      rw [if_pos hq] at this
      exact this
theorem t11_limit_l {T : Txt} {b p : Nat} (h1 : TB T) (hb : b < T 0 0) (hp : p < 200) {Y : Mem} (h5 : TYr T Y) (h6 : MYr T Y) {Q : Int32 → Mem → Prop} : ∀ (d k : Nat) (Z : Mem), k + d = 12 → EW Y Z → Z.1 40 0 23 = nI (T 0 5) → Z.1 40 0 24 = -1 → (∀ V, AgY Y V → Q (lmV T b p d k) V) → b_X11_limit_23 Q (d + 2) (nI b) (nI p) (-2) (nI (9 * k)) Z := by
  have hra : T 0 6 < 100 := h1.2.2.2.2.2.2.1.2
  have htb : TbY Y := h6.2.2.2.2.1
  intro d
  induction d with
  | zero =>
    intro k Z hk hw e3 e4 h
    have : k = 12 := by omega
    subst this
    exact ⟨fun _ => t11_asTold h1 h5 h6 hw (fun U a _ _ _ => h U a), fun z => absurd (by decide) z⟩
  | succ d ih =>
    intro k Z hk hw e3 e4 h
    rw [lmV] at h
    refine ⟨fun z => absurd z (by rw [show (99 : Int32) = nI 99 from rfl]; exact nI_nlt (by omega) (by omega)), fun _ => ⟨fun z => absurd z (by decide), fun _ => ?_⟩⟩
    rintro M7 rfl
    have hw2 : EW Y (sI Z 40 0 22 (nI (9 * k))) := hw.tr (EW.set (by omega))
    refine t11_hunts h1 hb (noise := 9 * k) (seed := T 0 5) (only := none) (m := 1) (by decide) (by omega) (by omega) (by have := h1.2.2.2.2.2.1; omega) (fun o e => by cases e) (CY.ew h1 hw2 ⟨h5, htb⟩) ⟨sI_s, by rw [sI_n (by omega)]; exact e3, by rw [sI_n (by omega)]; exact e4⟩ (fun V hV hY => ?_)
    have hw3 := hw2.tr hV.ew
    refine t11_acq (hN_lt h1 (by omega) (by decide)) hra hY (ra_of (h5.ew h1 hw3)) ?_
    have e9 : (nI (9 * k) + 9 : Int32) = nI (9 * (k + 1)) := by rw [show (9 : Int32) = nI 9 from rfl, nI_add, show 9 * k + 9 = 9 * (k + 1) from by omega]
    cases hq : acqB (hN T b (9 * k) (T 0 5) none p 1) (T 0 6)
    · refine ⟨fun _ => ?_, fun y => absurd rfl y⟩
      rintro x11 rfl
      have fin : b_X11_limit_68 Q (nI (9 * k)) V := t11_asTold h1 h5 h6 hw3 (fun U a _ _ _ => by
        have := h U a
        rw [if_neg (by rw [hq]; decide)] at this
        exact this)
      exact ⟨fun _ => fin, fun _ => ⟨fun _ => fin, fun z => absurd (nI_pos' (by omega)) z⟩⟩
    · refine ⟨fun y => absurd y z1n, fun _ => ?_⟩
      rintro x11 rfl
      rw [e9]
      refine ih (k + 1) V (by omega) hw3 ((hV 40 0 23 (by omega) (by omega)).trans (by rw [sI_n (by omega)]; exact e3)) ((hV 40 0 24 (by omega) (by omega)).trans (by rw [sI_n (by omega)]; exact e4)) (fun U a => ?_)
      have := h U a
      rw [if_pos hq] at this
      exact this
theorem op_16 (X Y : Mem) (a1 a2 : Int32) (hR : Rel X Y) : p_X10_limit a1 a2 X (fun r X1 => p_X11_limit a1 a2 Y (fun r1 Y1 => r = r1 ∧ Rel X1 Y1)) := by
  obtain ⟨T, w, h1, h2, h3, h4, h5, h6, h7, h8, h9, h10, h11, h12, h13⟩ := id hR
  have hnb := h1.1
  have hYb : (sI Y 40 0 2 0).1 40 0 11 = nI (T 0 0) := by rw [sI_n (by omega)]; exact h5.1
  have no : ¬ (inL a1 0 (T 0 0) ∧ inL a2 0 200) → p_X11_limit a1 a2 Y (fun r1 Y1 => -1 = r1 ∧ Rel X Y1) := by
    rintro n M1 rfl
    exact e11_isRange (m := 1) hnb (by decide) (by decide) hYb (fun z => ⟨fun y => absurd rfl y, fun _ => ⟨rfl, hR.th 0⟩⟩) (fun gb gp => absurd ⟨gb, inP_1.mp gp⟩ n)
  refine e10_isBird hnb h2 h3.1 (fun z => ⟨fun _ => no (fun g => z g.1), fun y => absurd rfl y⟩) (fun gb => ⟨fun y => absurd y z1n, fun _ => e10_isPeriod (fun z => ⟨fun y => absurd rfl y, fun _ => no (fun g => z g.2)⟩) (fun gp => ⟨fun _ => ?_, fun y => absurd y z1n⟩)⟩)
  have gg := And.intro gb gp
  obtain ⟨b, _, hb, rfl⟩ := gb
  obtain ⟨p, _, hp, rfl⟩ := gp
  refine ⟨13, t10_limit_l h1 hb hp ⟨h2, h3, h4⟩ 12 0 X rfl (EX.rf X) h13 (fun Z hx hc => ?_)⟩
  rintro M1 rfl
  refine e11_isRange (m := 1) hnb (by decide) (by decide) hYb (fun z => absurd ⟨gg.1, inP_1.mpr gg.2⟩ z) (fun _ _ => ⟨fun _ => ⟨14, ?_⟩, fun y => absurd y z1n⟩)
  exact t11_limit_l h1 hb hp h5 h6 12 0 _ rfl (EW.set (by omega)) (by rw [sI_n (by omega)]; exact h6.2.2.1) (by rw [sI_n (by omega)]; exact h6.2.2.2.1) (fun V hV => ⟨rfl, relW h1 h2 h3 h4 h5 h6 h7 h8 h9 h10 h11 h12 hx hc hV⟩)
/-! op 17: chance -/
def sdN (T : Txt) : Nat → Nat
  | 0 => T 0 5
  | k + 1 => nxtN (sdN T k)
theorem sdN_lt {T : Txt} (h1 : TB T) : ∀ k, sdN T k < 2 ^ 31
  | 0 => by have := h1.2.2.2.2.2.1; show T 0 5 < 2 ^ 31; omega
  | k + 1 => nxtN_lt _
def hitB (T : Txt) (b p : Nat) (what : Int32) (k : Nat) : Bool := acqB (hN T b (T 0 4) (sdN T (k + 1) % 100000) none p 1) (T 0 6) && (decide (what = 0) || prB T b p (hN T b (T 0 4) (sdN T (k + 1) % 100000) none p 1))
def chV (h : Nat → Bool) : Nat → Int32
  | 0 => 0
  | k + 1 => chV h k + bitV (h k)
theorem t10_chance_l {T : Txt} {w b p n : Nat} {what : Int32} (h1 : TB T) (hb : b < T 0 0) (hp : p < 200) (hn : n < 100) {X : Mem} (hW : CW T w X) {Q : Int32 → Mem → Prop} (h : ∀ V, EX X V → CacheX T V → Q (chV (hitB T b p what) n) V) : ∀ (d k : Nat) (Z : Mem), k + d = n → EX X Z → CacheX T Z → b_X10_chance_54 Q (d + 1) (nI b) (nI p) (nI n) what (chV (hitB T b p what) k) (nI (sdN T k)) (nI k) Z := by
  intro d
  induction d with
  | zero =>
    intro k Z hk hx hc
    have : k = n := by omega
    subst this
    exact ⟨fun _ => h Z hx hc, fun z => absurd (Int32.le_refl _) z⟩
  | succ d ih =>
    intro k Z hk hx hc
    have hW2 := hW.ex hx
    refine ⟨fun z => absurd z (nI_ge (by omega) (by omega)), fun _ => ?_⟩
    unfold p_X10_nextNumber
    rw [nx10]
    refine ⟨w, hW2.1.2.1, hW2.1.1, ?_⟩
    have es : (nI (nxtN (sdN T k)) - nI (nxtN (sdN T k)) / 100000 * 100000 : Int32) = nI (sdN T (k + 1) % 100000) := pk_rem (d := 100000) (nxtN_lt _) (by decide) (by decide)
    rw [hW2.2.1.2.2.2.2.1, es]
    refine t10_acqAs (only := none) h1 hb hp h1.2.2.2.2.1 (fun o e => by cases e) hW2 (fun V hx2 hc2 hH => ?_)
    have go := ih (k + 1) V (by omega) (hx.tr hx2) hc2
    have er : chV (hitB T b p what) (k + 1) = chV (hitB T b p what) k + bitV (hitB T b p what k) := rfl
    have n0 : hitB T b p what k = false → b_X10_chance_111 Q (fun v1 v2 v3 v4 v5 v6 v7 M => b_X10_chance_54 Q (d + 1) v1 v2 v3 v4 v5 v6 v7 M) (nI b) (nI p) (nI n) what (chV (hitB T b p what) k) (nI (nxtN (sdN T k))) (nI k) V := by
      rintro e x16 rfl
      rw [er, e, show bitV false = 0 from rfl, Int32.add_zero] at go
      rw [nI_1]
      exact go
    have n1 : hitB T b p what k = true → b_X10_chance_108 Q (fun v1 v2 v3 v4 v5 v6 v7 M => b_X10_chance_111 Q (fun v1 v2 v3 v4 v5 v6 v7 M => b_X10_chance_54 Q (d + 1) v1 v2 v3 v4 v5 v6 v7 M) v1 v2 v3 v4 v5 v6 v7 M) (nI b) (nI p) (nI n) what (chV (hitB T b p what) k) (nI (nxtN (sdN T k))) (nI k) V := by
      rintro e x18 rfl x16 rfl
      rw [er, e] at go
      rw [nI_1]
      exact go
    have eh : hitB T b p what k = (acqB (hN T b (T 0 4) (sdN T (k + 1) % 100000) none p 1) (T 0 6) && (decide (what = 0) || prB T b p (hN T b (T 0 4) (sdN T (k + 1) % 100000) none p 1))) := rfl
    cases hq : acqB (hN T b (T 0 4) (sdN T (k + 1) % 100000) none p 1) (T 0 6)
    · exact ⟨fun _ => n0 (by rw [eh, hq]; rfl), fun y => absurd rfl y⟩
    · refine ⟨fun y => absurd y z1n, fun _ => ⟨fun z => n1 (by rw [eh, hq, decide_eq_true z]; rfl), fun z => t10_right h1 hb hp (hW2.ex hx2) hH ?_⟩⟩
      cases hr : prB T b p (hN T b (T 0 4) (sdN T (k + 1) % 100000) none p 1)
      · exact ⟨fun _ => n0 (by rw [eh, hq, hr, decide_eq_false z]; rfl), fun y => absurd rfl y⟩
      · exact ⟨fun y => absurd y z1n, fun _ => n1 (by rw [eh, hq, hr, decide_eq_false z]; rfl)⟩
theorem t11_chance_l {T : Txt} {b p n : Nat} {what : Int32} (h1 : TB T) (hb : b < T 0 0) (hp : p < 200) (hn : n < 100) {Y : Mem} (h5 : TYr T Y) (h6 : MYr T Y) {Q : Int32 → Mem → Prop} (h : ∀ V, AgY Y V → Q (chV (hitB T b p what) n) V) : ∀ (d k : Nat) (Z : Mem), k + d = n → EW Y Z → Z.1 40 0 22 = nI (T 0 4) → Z.1 40 0 24 = -1 → b_X11_chance_53 Q (d + 1) (nI b) (nI p) (nI n) what (lN (sdN T k)) (chV (hitB T b p what) k) (nI k) Z := by
  have hra : T 0 6 < 100 := h1.2.2.2.2.2.2.1.2
  have htb : TbY Y := h6.2.2.2.2.1
  intro d
  induction d with
  | zero =>
    intro k Z hk hw e3 e4
    have : k = n := by omega
    subst this
    exact ⟨fun _ => t11_asTold h1 h5 h6 hw (fun U a _ _ _ => h U a), fun z => absurd (Int32.le_refl _) z⟩
  | succ d ih =>
    intro k Z hk hw e3 e4
    refine ⟨fun z => absurd z (nI_ge (by omega) (by omega)), fun _ => t11_made ?_⟩
    have es : (lN (nxtN (sdN T k)) - lN (nxtN (sdN T k)) / 100000 * 100000 : Int64).toInt32 = nI (sdN T (k + 1) % 100000) := by
      have := nxtN_lt (sdN T k)
      rw [show (100000 : Int64) = lN 100000 from rfl, pk_lRem (by omega) (by decide) (by decide), lN_i]
      rfl
    rw [es]
    rintro M13 rfl
    have hs : sdN T (k + 1) % 100000 < 100000 := Nat.mod_lt _ (by decide)
    have hw2 : EW Y (sI Z 40 0 23 (nI (sdN T (k + 1) % 100000))) := hw.tr (EW.set (by omega))
    refine t11_hunts h1 hb (noise := T 0 4) (seed := sdN T (k + 1) % 100000) (only := none) (m := 1) (by decide) (by omega) h1.2.2.2.2.1 (by omega) (fun o e => by cases e) (CY.ew h1 hw2 ⟨h5, htb⟩) ⟨by rw [sI_n (by omega)]; exact e3, sI_s, by rw [sI_n (by omega)]; exact e4⟩ (fun V hV hY => ?_)
    have hw3 := hw2.tr hV.ew
    have go := ih (k + 1) V (by omega) hw3 ((hV 40 0 22 (by omega) (by omega)).trans (by rw [sI_n (by omega)]; exact e3)) ((hV 40 0 24 (by omega) (by omega)).trans (by rw [sI_n (by omega)]; exact e4))
    have er : chV (hitB T b p what) (k + 1) = chV (hitB T b p what) k + bitV (hitB T b p what k) := rfl
    rw [er] at go
    have nx : ∀ s1, s1 = bitV (hitB T b p what k) → b_X11_chance_112 Q (fun v1 v2 v3 v4 v5 v7 v8 M => b_X11_chance_53 Q (d + 1) v1 v2 v3 v4 v5 v7 v8 M) (nI b) (nI p) (nI n) what (lN (nxtN (sdN T k))) (nI k) (chV (hitB T b p what) k) s1 V := by
      rintro s1 rfl x17 rfl x18 rfl
      rw [nI_1]
      exact go
    have eh : hitB T b p what k = (acqB (hN T b (T 0 4) (sdN T (k + 1) % 100000) none p 1) (T 0 6) && (decide (what = 0) || prB T b p (hN T b (T 0 4) (sdN T (k + 1) % 100000) none p 1))) := rfl
    refine t11_acq (hN_lt h1 h1.2.2.2.2.1 (by decide)) hra hY (ra_of (h5.ew h1 hw3)) ?_
    cases hq : acqB (hN T b (T 0 4) (sdN T (k + 1) % 100000) none p 1) (T 0 6)
    · exact ⟨fun _ => nx _ (by rw [eh, hq]; rfl), fun y => absurd rfl y⟩
    · refine ⟨fun y => absurd y z1n, fun _ => ⟨fun z => nx _ (by rw [eh, hq, decide_eq_true z]; rfl), fun z => t11_true h1 hb hp (h5.ew h1 hw3) hY ?_⟩⟩
      cases hr : prB T b p (hN T b (T 0 4) (sdN T (k + 1) % 100000) none p 1)
      · exact ⟨fun _ => nx _ (by rw [eh, hq, hr, decide_eq_false z]; rfl), fun y => absurd rfl y⟩
      · exact ⟨fun y => absurd y z1n, fun _ => nx _ (by rw [eh, hq, hr, decide_eq_false z]; rfl)⟩
theorem op_17 (X Y : Mem) (a1 a2 a3 a4 : Int32) (hR : Rel X Y) : p_X10_chance a1 a2 a3 a4 X (fun r X1 => p_X11_chance a1 a2 a3 a4 Y (fun r1 Y1 => r = r1 ∧ Rel X1 Y1)) := by
  obtain ⟨T, w, h1, h2, h3, h4, h5, h6, h7, h8, h9, h10, h11, h12, h13⟩ := id hR
  have hnb := h1.1
  have hYb : (sI Y 40 0 2 0).1 40 0 11 = nI (T 0 0) := by rw [sI_n (by omega)]; exact h5.1
  have e10 : (sI Y 40 0 2 0).1 45 0 10 = nI (T 0 5) := by rw [sI_n (by omega)]; exact h5.2.2.2.2.1 3 (by decide)
  have ym : ∀ {Q : Int32 → Mem → Prop}, (¬ (inL a1 0 (T 0 0) ∧ inL a2 0 200 ∧ inL a3 1 11 ∧ inL a4 0 2) → Q (-1) (sI Y 40 0 2 0)) → ((inL a1 0 (T 0 0) ∧ inL a2 0 200 ∧ inL a3 1 11 ∧ inL a4 0 2) → (∃ n53 : Nat, b_X11_chance_53 Q n53 a1 a2 a3 a4 (lN (T 0 5)) 0 0 (sI Y 40 0 2 0))) → p_X11_chance a1 a2 a3 a4 Y Q := by
    intro Q q0 q1
    rintro M1 rfl
    refine e11_isRange (m := 1) hnb (by decide) (by decide) hYb (fun z => ⟨fun _ => q0 (fun g => z ⟨g.1, inP_1.mpr g.2.1⟩), fun y => absurd rfl y⟩) (fun gb gp => ⟨fun y => absurd y z1n, fun _ => e_isIn (lo := 1) (m := 10) (n := 11) (by decide) rfl (by decide) (fun z => ⟨fun _ => q0 (fun g => z g.2.2.1), fun y => absurd rfl y⟩) (fun g3 => ⟨fun y => absurd y z1n, fun _ => e_isIn (lo := 0) (m := 1) (n := 2) (by decide) rfl (by decide) (fun z => ⟨fun y => absurd rfl y, fun _ => q0 (fun g => z g.2.2.2)⟩) (fun g4 => ⟨fun _ => ⟨vp_in_nI (n := 10) (N := 34) (by decide) (by decide), ?_⟩, fun y => absurd y z1n⟩)⟩)⟩)
    rw [show (10 : Int32).toNatClampNeg = 10 from by decide, e10, nI_l (by have := h1.2.2.2.2.2.1; omega)]
    rintro x9 rfl
    exact q1 ⟨gb, inP_1.mp gp, g3, g4⟩
  have no : ¬ (inL a1 0 (T 0 0) ∧ inL a2 0 200 ∧ inL a3 1 11 ∧ inL a4 0 2) → p_X11_chance a1 a2 a3 a4 Y (fun r1 Y1 => -1 = r1 ∧ Rel X Y1) := fun n => ym (fun _ => ⟨rfl, hR.th 0⟩) (fun g => absurd g n)
  refine e10_isBird hnb h2 h3.1 (fun z => ⟨fun _ => no (fun g => z g.1), fun y => absurd rfl y⟩) (fun gb => ⟨fun y => absurd y z1n, fun _ => e10_isPeriod (fun z => ⟨fun _ => no (fun g => z g.2.1), fun y => absurd rfl y⟩) (fun gp => ⟨fun y => absurd y z1n, fun _ => ⟨fun z => no (fun g => inL_lo (lo := 1) (by decide) z g.2.2.1), fun z3 => ⟨fun z => no (fun g => inL_gt (m := 10) (by decide) rfl z g.2.2.1), fun z3' => ⟨fun z => no (fun g => inL_lo (by decide) z g.2.2.2), fun z4 => ⟨fun z5 => ?_, fun z => no (fun g => inL_gt (m := 1) (by decide) rfl (Int32.not_le.mp z) g.2.2.2)⟩⟩⟩⟩⟩)⟩)
  have g3 : inL a3 1 11 := inL_mk' (m := 10) (by decide) rfl z3 z3' (by decide)
  have g4 : inL a4 0 2 := inL_mk' (m := 1) (by decide) rfl z4 (Int32.not_lt.mpr z5) (by decide)
  have gg := And.intro gb (And.intro gp (And.intro g3 g4))
  obtain ⟨b, _, hb, rfl⟩ := gb
  obtain ⟨p, _, hp, rfl⟩ := gp
  obtain ⟨n, _, hn, rfl⟩ := g3
  refine ⟨w, h2.2.1, h2.1, ?_⟩
  rw [h3.2.2.2.2.2.1]
  rintro x10 rfl
  refine ⟨n + 1, t10_chance_l (T := T) h1 hb hp (by omega) ⟨h2, h3, h4⟩ (fun Z hx hc => ?_) n 0 X (by omega) (EX.rf X) h13⟩
  exact ym (fun n => absurd gg n) (fun _ => ⟨n + 1, t11_chance_l h1 hb hp (by omega) h5 h6 (fun V hV => ⟨rfl, relW h1 h2 h3 h4 h5 h6 h7 h8 h9 h10 h11 h12 hx hc hV⟩) n 0 _ (by omega) (EW.set (by omega)) (by rw [sI_n (by omega)]; exact h6.2.1) (by rw [sI_n (by omega)]; exact h6.2.2.2.1)⟩)
