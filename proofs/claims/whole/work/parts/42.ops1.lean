/-! op 2: fault -/
theorem op_2 (X Y : Mem) (a1 : Int32) (hR : Rel X Y) : p_X10_fault a1 X (fun r X1 => p_X11_fault a1 Y (fun r1 Y1 => r = r1 ∧ Rel X1 Y1)) := by
  have hF : FltR X Y := by obtain ⟨T, w, h1, h2, h3, h4, h5, h6, h7, h8, _⟩ := hR; exact h8
  have t : ∀ r : Int32, (a1 = 0 → r = Y.1 40 0 4) → (¬ a1 = 0 → a1 = 1 → r = Y.1 40 0 5) → (¬ a1 = 0 → ¬ a1 = 1 → r = -1) → p_X11_fault a1 Y (fun r1 Y1 => r = r1 ∧ Rel X Y1) := by
    intro r e0 e1 e2 M1 hM
    subst hM
    exact ⟨fun h => ⟨fun h' => ⟨e2 h h', hR.th 0⟩, fun h' => ⟨e1 h h', hR.th 0⟩⟩, fun h => ⟨e0 h, hR.th 0⟩⟩
  refine ⟨fun h => t _ (fun _ => hF.1) (fun n => absurd h n) (fun n => absurd h n), fun h => t _ (fun n => ?_) (fun _ _ => hF.2) (fun _ n => absurd h n), fun h h' => t _ (fun n => absurd n h) (fun _ n => absurd n h') (fun _ _ => rfl)⟩
  rw [h] at n; exact absurd n (by decide)
/-! op 6: period -/
def bcE (a : Int32) : Int32 :=
  let x1 := (a - (((a : Int32).toUInt32 >>> ((1 : Int32).toUInt32 &&& Int32.toUInt32 31)).toInt32 &&& 1431655765))
  let x2 := ((x1 &&& 858993459) + (((x1 : Int32).toUInt32 >>> ((2 : Int32).toUInt32 &&& Int32.toUInt32 31)).toInt32 &&& 858993459))
  let x3 := ((x2 + ((x2 : Int32).toUInt32 >>> ((4 : Int32).toUInt32 &&& Int32.toUInt32 31)).toInt32) &&& 252645135)
  let x4 := (x3 + ((x3 : Int32).toUInt32 >>> ((8 : Int32).toUInt32 &&& Int32.toUInt32 31)).toInt32)
  let x5 := (x4 + ((x4 : Int32).toUInt32 >>> ((16 : Int32).toUInt32 &&& Int32.toUInt32 31)).toInt32)
  x5 &&& 63
theorem t_bitCount {a : Int32} {M : Mem} {Q : Int32 → Mem → Prop} (h : Q (bcE a) M) : p_J6_bitCount_0f7a4 a M Q := by
  rintro x1 rfl x2 rfl x3 rfl x4 rfl x5 rfl
  exact h
def stepN (m r : Nat) : Nat := r / 2 + 16 * (((List.range 5).foldl (fun a k => a + (if (r &&& m).testBit k then 1 else 0)) 0) % 2)
theorem regN_s (m i : Nat) : regN m (i + 1) = stepN m (regN m i) := rfl
theorem stepN_lt : ∀ m, m < 32 → ∀ r, r < 32 → stepN m r < 32 := by decide +kernel
theorem regN_lt {m : Nat} (hm : m < 32) : ∀ i, regN m i < 32
  | 0 => (show 31 < 32 from by decide)
  | i + 1 => by rw [regN_s]; exact stepN_lt m hm _ (regN_lt hm i)
theorem step_c : ∀ m, m < 32 → ∀ r, r < 32 → (((nI r : Int32).toUInt32 >>> ((1 : Int32).toUInt32 &&& Int32.toUInt32 31)).toInt32 ||| ((bcE (nI r &&& nI m) &&& 1) <<< (4 &&& 31))) = nI (stepN m r) := by decide +kernel
theorem t10_stepped {r m : Nat} (hr : r < 32) (hm : m < 32) {M : Mem} {Q : Int32 → Mem → Prop} (h : Q (nI (stepN m r)) M) : p_X10_stepped (nI r) (nI m) M Q := by
  refine t_bitCount ?_
  rintro x2 rfl
  rw [← step_c m hm r hr] at h
  exact h
def oddE (a : Int32) : Int32 := (List.range 8).foldl (fun n k => n ^^^ ((a >>> (nI k &&& 31)) &&& 1)) 0
theorem t11_isOdd {a : Int32} {M : Mem} {Q : Int32 → Mem → Prop} (h : Q (oddE a) M) : p_X11_isOdd a M Q := by
  refine ⟨9, ?_⟩
  have e : ∀ k : Nat, k < 8 → ¬ (8 : Int32) ≤ nI k := by decide +kernel
  have go : ∀ k : Nat, k ≤ 8 → b_X11_isOdd_4 Q (9 - k) a ((List.range k).foldl (fun n k => n ^^^ ((a >>> (nI k &&& 31)) &&& 1)) 0) (nI k) M := by
    intro k hk
    induction h8 : 8 - k generalizing k with
    | zero =>
      have hk8 : k = 8 := by omega
      subst hk8
      exact ⟨fun _ => h, fun n => absurd (by decide) n⟩
    | succ d ih =>
      have hlt : k < 8 := by omega
      rw [show 9 - k = (9 - (k + 1)) + 1 from by omega]
      refine ⟨fun n => absurd n (e k hlt), fun _ => ?_⟩
      rintro x2 rfl x3 rfl
      have := ih (k + 1) hlt (by omega)
      rw [List.range_succ, List.foldl_append] at this
      rw [show nI k + 1 = nI (k + 1) from nI_1 k]
      exact this
  exact go 0 (by omega)
theorem step_m : ∀ m, m < 32 → ∀ r, r < 32 → ((nI r >>> (1 &&& 31)) ||| (oddE (nI r &&& nI m) <<< (4 &&& 31))) = nI (stepN m r) := by decide +kernel
theorem t11_stepped {r m : Nat} (hr : r < 32) (hm : m < 32) {M : Mem} {Q : Int32 → Mem → Prop} (h : Q (nI (stepN m r)) M) : p_X11_stepped (nI r) (nI m) M Q := by
  refine t11_isOdd ?_
  rw [← step_m m hm r hr] at h
  exact h
/-- the first of the steps from i + 1 on, j of them, that is back -/
def backN (m : Nat) : Nat → Nat → Option Nat
  | _, 0 => none
  | i, j + 1 => if regN m (i + 1) = 31 then some (i + 1) else backN m (i + 1) j
theorem back_33 : ∀ m, m < 32 → backN m 0 32 = none → ¬ regN m 33 = 31 := by decide +kernel
def backV (o : Option Nat) : Int32 := match o with | none => -2 | some k => nI k
theorem t10_period_l {m : Nat} (hm : m < 32) {M : Mem} {Q : Int32 → Mem → Prop} : ∀ (j i : Nat), i + j = 32 → Q (backV (backN m i j)) M → b_X10_period_18 Q (j + 1) (nI m) (nI (regN m i)) (nI (i + 1)) M := by
  intro j
  induction j with
  | zero =>
    intro i hi h
    have : i = 32 := by omega
    subst this
    exact ⟨fun _ => h, fun n => absurd (by decide) n⟩
  | succ j ih =>
    intro i hi h
    refine ⟨fun n => absurd n ?_, fun _ => t10_stepped (regN_lt hm i) hm ⟨fun n => ?_, fun n => ?_⟩⟩
    · rw [show (32 : Int32) = nI 32 from rfl]; exact nI_nlt (by omega) (by omega)
    · rintro x6 rfl
      rw [nI_1]
      refine ih (i + 1) (by omega) ?_
      have hn : ¬ regN m (i + 1) = 31 := fun z => n (by rw [← regN_s, z]; rfl)
      rw [backN, if_neg hn] at h
      exact h
    · have hn : regN m (i + 1) = 31 := by
        rw [← regN_s] at n
        exact (nI_eq (by have := regN_lt hm (i + 1); omega) (by decide)).mp n
      rw [backN, if_pos hn] at h
      exact h
theorem t11_period_l {m : Nat} (hm : m < 32) (h33 : backN m 0 32 = none → ¬ regN m 33 = 31) {M : Mem} {Q : Int32 → Mem → Prop} (hb : Q (backV (backN m 0 32)) M) : ∀ (j i : Nat), i + j = 32 → backN m i (32 - i) = backN m 0 32 → b_X11_period_26 Q (j + 1) (nI m) (nI (regN m (i + 1))) (nI (i + 1)) M := by
  intro j
  induction j with
  | zero =>
    intro i hi he
    have : i = 32 := by omega
    subst this
    have hnone : backN m 0 32 = none := he.symm
    refine ⟨fun n => absurd ((nI_eq (Nat.lt_trans (regN_lt hm _) (by decide)) (by decide)).mp n) (h33 hnone), fun n => ⟨fun _ => ⟨fun _ => by rw [hnone] at hb; exact hb, fun z => absurd z n⟩, fun z => absurd (by decide) z⟩⟩
  | succ j ih =>
    intro i hi he
    have e1 : backN m i (32 - i) = if regN m (i + 1) = 31 then some (i + 1) else backN m (i + 1) (32 - (i + 1)) := by
      rw [show 32 - i = (32 - (i + 1)) + 1 from by omega]; rfl
    refine ⟨fun n => ⟨fun z => absurd n z, fun _ => ?_⟩, fun n => ⟨fun z => ?_, fun _ => t11_stepped (regN_lt hm _) hm ?_⟩⟩
    · have hn : regN m (i + 1) = 31 := (nI_eq (by have := regN_lt hm (i + 1); omega) (by decide)).mp n
      rw [e1, if_pos hn] at he
      rw [← he] at hb
      exact hb
    · exact absurd z (by rw [show (33 : Int32) = nI 33 from rfl]; exact nI_ge (by omega) (by omega))
    · rintro x9 rfl
      rw [nI_1, ← regN_s]
      refine ih (i + 1) (by omega) ?_
      rw [if_neg (fun z => n (by rw [z]; rfl))] at e1
      rw [← e1]; exact he
theorem op_6 (X Y : Mem) (a1 : Int32) (hR : Rel X Y) : p_X10_period a1 X (fun r X1 => p_X11_period a1 Y (fun r1 Y1 => r = r1 ∧ Rel X1 Y1)) := by
  have no : (a1 < 1 ∨ 31 < a1) → p_X11_period a1 Y (fun r1 Y1 => -1 = r1 ∧ Rel X Y1) := by
    rintro h M1 rfl
    exact t_isIn (fun _ => ⟨fun n => absurd rfl n, fun _ => ⟨rfl, hR.th 0⟩⟩) (fun n n' => h.elim (fun z => absurd z n) (fun z => absurd z n'))
  refine ⟨fun h => no (Or.inl h), fun h => ⟨fun h' => ?_, fun h' => no (Or.inr (Int32.not_le.mp h'))⟩⟩
  obtain ⟨m, hm, rfl⟩ : ∃ m, m < 32 ∧ a1 = nI m := by
    rcases pk_ix a1 (n := 32) (by decide) with z | z | z
    · exact absurd (Int32.lt_trans z (by decide)) h
    · exact absurd (Int32.le_trans z h') (by decide)
    · exact z
  refine ⟨33, t10_period_l hm 32 0 rfl ?_⟩
  rintro M1 rfl
  refine t_isIn (fun z => ?_) (fun _ _ => ⟨fun _ => t11_stepped (by decide) hm ⟨33, t11_period_l hm (back_33 m hm) ⟨rfl, hR.th 0⟩ 32 0 rfl rfl⟩, fun n => absurd n (by decide)⟩)
  exact z.elim (fun z => absurd z h) (fun z => absurd h' (Int32.not_le.mpr z))
