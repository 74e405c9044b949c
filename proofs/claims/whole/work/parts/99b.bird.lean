/-! bird: what it answers on both sides, and when it throws (1: no such bird; 2: no such what) -/
def p_X10_bird (a1 a2 : Int32) (M : Mem) (Q : Int32 → Mem → Prop) (E : Int32 → Mem → Prop) : Prop := p_X10_isBird a1 M (fun r1 M1 => (¬ r1 = 0 → (a2 < 0 → E 2 M1) ∧ (¬ a2 < 0 → (¬ a2 ≤ 10 → E 2 M1) ∧ (a2 ≤ 10 → ∃ w, M1.2.2 0 0 3 = some (23 + w) ∧ w < 2 ∧ vp_in a1 5 ∧ p_X0_told (5 * w + a1.toNatClampNeg) a2 M1 (fun r M => Q r M)))) ∧ (r1 = 0 → E 1 M1))
def valB (T : Txt) (b k : Nat) : Int32 := if k = 0 then nI (T (1 + b) 1) else if k < 5 then (if T (1 + b) 2 = 1 then nI (T (1 + b) (2 + k)) else -2) else if k < 7 then (if 0 < T (1 + b) (2 + k) then nI (T (1 + b) (2 + k)) else -2) else if k = 7 then nI (T (1 + b) 9) else (if T (1 + b) 10 = 1 then nI (T (1 + b) (3 + k)) else -2)
theorem t10_btold {T : Txt} {w b k : Nat} (hT : TB T) (hb : b < T 0 0) (hk : k ≤ 10) {X : Mem} (hX : WXw T w X) {Q : Int32 → Mem → Prop} (h : Q (valB T b k) X) : p_X0_told (5 * w + b) (nI k) X (fun r M => Q r M) := by
  obtain ⟨b1, b2, b3, b4, b5, b6, b7, b8, b9, b10⟩ := hX.2.2.2.2.2.2.2.2.2 b hb
  obtain ⟨c1, c2, c3, c4, c5, c6, c7, c8, c9, c10, c11, c12, c13, c14, c15⟩ := hT.2.2.2.2.2.2.2.2.2.2.2.2.1 b hb
  have lz : ∀ (v : Nat) (A C : Prop), v < 2 ^ 31 → (¬ 0 < v → A) → (0 < v → C) → ((nI v : Int32) ≤ 0 → A) ∧ (¬ (nI v : Int32) ≤ 0 → C) := by
    intro v A C hv ha hc
    rw [show (0 : Int32) = nI 0 from rfl, nI_leI hv (by decide)]
    exact ⟨fun z => ha (by omega), fun z => hc (by omega)⟩
  have hd : ∀ sl, k < 5 → k ≠ 0 → (T (1 + b) 2 = 1 → X.1 25 (5 * w + b) sl = nI (T (1 + b) (2 + k))) → p_X0_isHeard (5 * w + b) X (fun r3 M3 => (r3 = 0 → Q (-2) M3) ∧ (¬ r3 = 0 → Q (M3.1 25 (5 * w + b) sl) M3)) := by
    intro sl k5 k0 hv
    unfold p_X0_isHeard
    rw [b3]
    unfold valB at h
    rw [if_neg k0, if_pos k5] at h
    refine lz _ _ _ (by omega) (fun z => ⟨fun _ => ?_, fun y => absurd rfl y⟩) (fun z => ⟨fun y => absurd y z1n, fun _ => ?_⟩)
    · rw [if_neg (by omega)] at h; exact h
    · have h2 : T (1 + b) 2 = 1 := by omega
      rw [if_pos h2] at h; rw [hv h2]; exact h
  have hp : ∀ sl, 7 < k → (T (1 + b) 10 = 1 → X.1 25 (5 * w + b) sl = nI (T (1 + b) (3 + k))) → (X.1 25 (5 * w + b) 9 = 0 → Q (-2) X) ∧ (¬ X.1 25 (5 * w + b) 9 = 0 → Q (X.1 25 (5 * w + b) sl) X) := by
    intro sl k7 hv
    rw [b8]
    unfold valB at h
    rw [if_neg (by omega), if_neg (by omega), if_neg (by omega), if_neg (by omega)] at h
    have c : T (1 + b) 10 = 0 ∨ T (1 + b) 10 = 1 := by omega
    rcases c with c | c
    · rw [if_neg (by omega)] at h; rw [c]; exact ⟨fun _ => h, fun y => absurd rfl y⟩
    · rw [if_pos c] at h; rw [hv c, c]; exact ⟨fun y => absurd y z1n, fun _ => h⟩
  have : k = 0 ∨ k = 1 ∨ k = 2 ∨ k = 3 ∨ k = 4 ∨ k = 5 ∨ k = 6 ∨ k = 7 ∨ k = 8 ∨ k = 9 ∨ k = 10 := by omega
  unfold p_X0_told
  rcases this with rfl | rfl | rfl | rfl | rfl | rfl | rfl | rfl | rfl | rfl | rfl
  · exact ⟨fun _ => by rw [b2]; exact h, fun z => absurd z (by decide), fun z => absurd z (by decide), fun z => absurd z (by decide), fun z => absurd z (by decide), fun z => absurd z (by decide), fun z => absurd z (by decide), fun z => absurd z (by decide), fun z => absurd z (by decide), fun z => absurd z (by decide), fun z => absurd rfl z⟩
  · exact ⟨fun z => absurd z (by decide), fun _ => hd 3 (by decide) (by decide) (fun e => (b4 e).1), fun z => absurd z (by decide), fun z => absurd z (by decide), fun z => absurd z (by decide), fun z => absurd z (by decide), fun z => absurd z (by decide), fun z => absurd z (by decide), fun z => absurd z (by decide), fun z => absurd z (by decide), fun _ z => absurd rfl z⟩
  · exact ⟨fun z => absurd z (by decide), fun z => absurd z (by decide), fun _ => hd 4 (by decide) (by decide) (fun e => (b4 e).2.1), fun z => absurd z (by decide), fun z => absurd z (by decide), fun z => absurd z (by decide), fun z => absurd z (by decide), fun z => absurd z (by decide), fun z => absurd z (by decide), fun z => absurd z (by decide), fun _ _ z => absurd rfl z⟩
  · exact ⟨fun z => absurd z (by decide), fun z => absurd z (by decide), fun z => absurd z (by decide), fun _ => hd 5 (by decide) (by decide) (fun e => (b4 e).2.2), fun z => absurd z (by decide), fun z => absurd z (by decide), fun z => absurd z (by decide), fun z => absurd z (by decide), fun z => absurd z (by decide), fun z => absurd z (by decide), fun _ _ _ z => absurd rfl z⟩
  · exact ⟨fun z => absurd z (by decide), fun z => absurd z (by decide), fun z => absurd z (by decide), fun z => absurd z (by decide), fun _ => hd 6 (by decide) (by decide) (fun _ => b3), fun z => absurd z (by decide), fun z => absurd z (by decide), fun z => absurd z (by decide), fun z => absurd z (by decide), fun z => absurd z (by decide), fun _ _ _ _ z => absurd rfl z⟩
  · refine ⟨fun z => absurd z (by decide), fun z => absurd z (by decide), fun z => absurd z (by decide), fun z => absurd z (by decide), fun z => absurd z (by decide), fun _ => ?_, fun z => absurd z (by decide), fun z => absurd z (by decide), fun z => absurd z (by decide), fun z => absurd z (by decide), fun _ _ _ _ _ z => absurd rfl z⟩
    rw [b5]
    unfold valB at h
    exact lz _ _ _ (by omega) (fun z => by rw [if_neg (by decide), if_neg (by decide), if_pos (by decide), if_neg z] at h; exact h) (fun z => by rw [if_neg (by decide), if_neg (by decide), if_pos (by decide), if_pos z] at h; exact h)
  · refine ⟨fun z => absurd z (by decide), fun z => absurd z (by decide), fun z => absurd z (by decide), fun z => absurd z (by decide), fun z => absurd z (by decide), fun z => absurd z (by decide), fun _ => ?_, fun z => absurd z (by decide), fun z => absurd z (by decide), fun z => absurd z (by decide), fun _ _ _ _ _ _ z => absurd rfl z⟩
    rw [b6]
    unfold valB at h
    exact lz _ _ _ (by omega) (fun z => by rw [if_neg (by decide), if_neg (by decide), if_pos (by decide), if_neg z] at h; exact h) (fun z => by rw [if_neg (by decide), if_neg (by decide), if_pos (by decide), if_pos z] at h; exact h)
  · exact ⟨fun z => absurd z (by decide), fun z => absurd z (by decide), fun z => absurd z (by decide), fun z => absurd z (by decide), fun z => absurd z (by decide), fun z => absurd z (by decide), fun z => absurd z (by decide), fun _ => by rw [b7]; exact h, fun z => absurd z (by decide), fun z => absurd z (by decide), fun _ _ _ _ _ _ _ z => absurd rfl z⟩
  · exact ⟨fun z => absurd z (by decide), fun z => absurd z (by decide), fun z => absurd z (by decide), fun z => absurd z (by decide), fun z => absurd z (by decide), fun z => absurd z (by decide), fun z => absurd z (by decide), fun z => absurd z (by decide), fun _ => hp 10 (by decide) (fun e => (b9 e).1), fun z => absurd z (by decide), fun _ _ _ _ _ _ _ _ z => absurd rfl z⟩
  · exact ⟨fun z => absurd z (by decide), fun z => absurd z (by decide), fun z => absurd z (by decide), fun z => absurd z (by decide), fun z => absurd z (by decide), fun z => absurd z (by decide), fun z => absurd z (by decide), fun z => absurd z (by decide), fun z => absurd z (by decide), fun _ => hp 11 (by decide) (fun e => (b9 e).2.1), fun _ _ _ _ _ _ _ _ _ z => absurd rfl z⟩
  · exact ⟨fun z => absurd z (by decide), fun z => absurd z (by decide), fun z => absurd z (by decide), fun z => absurd z (by decide), fun z => absurd z (by decide), fun z => absurd z (by decide), fun z => absurd z (by decide), fun z => absurd z (by decide), fun z => absurd z (by decide), fun z => absurd z (by decide), fun _ _ _ _ _ _ _ _ _ _ => hp 12 (by decide) (fun e => (b9 e).2.2)⟩
theorem t11_bird {T : Txt} {b k : Nat} (hT : TB T) (hb : b < T 0 0) (hk : k ≤ 10) {Y : Mem} (hY : TYr T Y) {Q : Int32 → Mem → Prop} (h : Q (valB T b k) (sI Y 40 0 2 0)) : p_X11_bird (nI b) (nI k) Y Q := by
  have h5 := hT.1
  obtain ⟨c1, c2, c3, c4, c5, c6, c7, c8, c9, c10, c11, c12, c13, c14, c15⟩ := hT.2.2.2.2.2.2.2.2.2.2.2.2.1 b hb
  have cell : ∀ j, j < 14 → (sI Y 40 0 2 0).1 43 0 (14 * b + j) = nI (T (1 + b) j) := fun j hj => (sI_n (by omega)).trans (hY.2.2.1 b j hb hj)
  have of' : ∀ (j : Nat) (R : Int32 → Mem → Prop), j < 14 → R (nI (T (1 + b) j)) (sI Y 40 0 2 0) → p_X11_birdOf (nI b) (nI j) (sI Y 40 0 2 0) R := fun j R hj hR => t11_birdOf (by omega) hj (by omega) (by rw [cell j hj]; exact hR)
  rintro M1 rfl
  refine t11_isBird1 (nb := T 0 0) ((sI_n (by omega)).trans hY.1) h5 hb ⟨fun _ => t_isIn (fun y => ?_) (fun y1 y2 => ⟨fun _ => ?_, fun z => absurd z z1n⟩), fun z => absurd z z1n⟩
  · rcases y with y | y
    · exact absurd y (nI_pos (by omega))
    · exact absurd y (by rw [show (10 : Int32) = nI 10 from rfl]; exact nI_nlt hk (by decide))
  unfold valB at h
  refine ⟨fun k0 => ⟨fun a5 => ⟨fun a7 => ⟨fun n7 => ?_, fun e7 => ?_⟩, fun n7 => ?_⟩, fun n5 => ?_⟩, fun e0 => ?_⟩
  · have k8 : 7 < k := by
      have : k ≠ 7 := fun z => n7 (by rw [z]; rfl)
      have : 7 ≤ k := Nat.le_of_not_lt (fun z => nI_ge z (by decide) a7)
      omega
    rw [if_neg (by omega), if_neg (by omega), if_neg (by omega), if_neg (by omega)] at h
    refine of' 10 _ (by decide) ⟨fun z => ?_, fun z => ?_⟩
    · rw [if_neg (fun y => z (by rw [y]; rfl))] at h; exact h
    · have e1 : T (1 + b) 10 = 1 := (nI_eq (b := 1) (by omega) (by decide)).mp z
      rw [if_pos e1] at h
      rw [show (11 : Int32) = nI 11 from rfl, nI_add, show (8 : Int32) = nI 8 from rfl, pk_sub (by omega), show 11 + k - 8 = 3 + k from by omega]
      exact of' (3 + k) _ (by omega) h
  · have e : k = 7 := (nI_eq (b := 7) (by omega) (by decide)).mp e7
    rw [if_neg (by omega), if_neg (by omega), if_neg (by omega), if_pos e] at h
    exact of' 9 _ (by decide) h
  · have k5 : 5 ≤ k := Nat.le_of_not_lt (fun z => nI_ge z (by decide) a5)
    have k7 : k < 7 := Nat.lt_of_not_le (fun z => n7 (nI_le z (by omega)))
    rw [if_neg (by omega), if_neg (by omega), if_pos k7] at h
    rw [show (7 : Int32) = nI 7 from rfl, nI_add, show (5 : Int32) = nI 5 from rfl, pk_sub (by omega), show 7 + k - 5 = 2 + k from by omega]
    have vb : T (1 + b) (2 + k) < 2 ^ 31 := by
      have : k = 5 ∨ k = 6 := by omega
      rcases this with rfl | rfl
      · show T (1 + b) 7 < _; omega
      · show T (1 + b) 8 < _; omega
    refine of' (2 + k) _ (by omega) ?_
    rw [show (0 : Int32) = nI 0 from rfl, nI_leI vb (by decide)]
    refine ⟨fun z => ?_, fun z => of' (2 + k) _ (by omega) ?_⟩
    · rw [if_neg (by omega)] at h; exact h
    · rw [if_pos (by omega)] at h; exact h
  · have k5 : k < 5 := Nat.lt_of_not_le (fun z => n5 (nI_le z (by omega)))
    have k1 : k ≠ 0 := fun z => k0 (by rw [z]; rfl)
    rw [if_neg k1, if_pos k5] at h
    refine of' 2 _ (by decide) ⟨fun z => ?_, fun z => ?_⟩
    · rw [if_neg (fun y => z (by rw [y]; rfl))] at h; exact h
    · have e1 : T (1 + b) 2 = 1 := (nI_eq (b := 1) (by omega) (by decide)).mp z
      rw [if_pos e1] at h
      rw [show (3 : Int32) = nI 3 from rfl, nI_add, show (1 : Int32) = nI 1 from rfl, pk_sub (by omega), show 3 + k - 1 = 2 + k from by omega]
      exact of' (2 + k) _ (by omega) h
  · have e : k = 0 := (nI_eq (b := 0) (by omega) (by decide)).mp e0
    rw [if_pos e] at h
    exact of' 1 _ (by decide) h
theorem op_4 (X Y : Mem) (a1 a2 : Int32) (hR : Rel X Y) : p_X10_bird a1 a2 X (fun r X1 => p_X11_bird a1 a2 Y (fun r1 Y1 => r = r1 ∧ Y1.1 40 0 2 = 0 ∧ Rel X1 Y1)) (fun k X1 => p_X11_bird a1 a2 Y (fun r1 Y1 => Y1.1 40 0 2 = k ∧ Rel X1 Y1)) := by
  obtain ⟨T, w, h1, h2, h3, h4, h5, h6, h7, h8, h9, h10, h11, h12, h13⟩ := id hR
  have t5 := h1.1
  have n1 : ∀ k, (sI (sI Y 40 0 2 0) 40 0 2 k).1 40 0 2 = k ∧ Rel X (sI (sI Y 40 0 2 0) 40 0 2 k) := fun k => ⟨sI_s, (hR.th 0).th k⟩
  have hy0 : (sI Y 40 0 2 0).1 40 0 11 = nI (T 0 0) := (sI_n (by omega)).trans h5.1
  have no : (a1 < 0 ∨ nI (T 0 0) ≤ a1) → p_X10_bird a1 a2 X (fun r X1 => p_X11_bird a1 a2 Y (fun r1 Y1 => r = r1 ∧ Y1.1 40 0 2 = 0 ∧ Rel X1 Y1)) (fun k X1 => p_X11_bird a1 a2 Y (fun r1 Y1 => Y1.1 40 0 2 = k ∧ Rel X1 Y1)) := by
    intro z
    refine t10_isBird0 h2 h3.1 z ⟨fun y => absurd rfl y, fun _ => ?_⟩
    rintro M1 rfl
    refine t11_isBird0 hy0 z ⟨fun y => absurd rfl y, fun _ => ?_⟩
    rintro M2 rfl
    exact n1 1
  rcases pk_ix a1 (n := T 0 0) (by omega) with z | z | ⟨b, hb, rfl⟩
  · exact no (Or.inl z)
  · exact no (Or.inr z)
  refine t10_isBird1 h2 h3.1 t5 hb ⟨fun _ => ?_, fun z => absurd z z1n⟩
  have bad : (a2 < 0 ∨ (10 : Int32) < a2) → p_X11_bird (nI b) a2 Y (fun r1 Y1 => Y1.1 40 0 2 = 2 ∧ Rel X Y1) := by
    intro z
    rintro M1 rfl
    refine t11_isBird1 hy0 t5 hb ⟨fun _ => t_isIn (fun _ => ⟨fun y => absurd rfl y, fun _ => ?_⟩) (fun y1 y2 => ?_), fun y => absurd y z1n⟩
    · rintro M2 rfl
      exact n1 2
    · rcases z with z | z
      · exact absurd z y1
      · exact absurd z y2
  refine ⟨fun z => bad (Or.inl z), fun z => ⟨fun z2 => bad (Or.inr (Int32.not_le.mp z2)), fun z2 => ⟨w, h2.2.1, h2.1, vp_in_nI (by omega) (by decide), ?_⟩⟩⟩
  rcases pk_ix a2 (n := 11) (by decide) with y | y | ⟨k, hk, rfl⟩
  · exact absurd y z
  · exact absurd (Int32.le_trans y z2) (nI_ge (a := 10) (b := 11) (by decide) (by decide))
  rw [nI_clamp (by omega)]
  exact t10_btold h1 hb (by omega) h3 (t11_bird h1 hb (by omega) h5 ⟨rfl, sI_s, hR.th 0⟩)
