/-! op 0: feed -/
def byN (v : Int32) (k : Nat) : Nat := v.toBitVec.toNat / 2 ^ k % 256
theorem byN_lt (v : Int32) (k : Nat) : byN v k < 256 := Nat.mod_lt _ (by decide)
theorem ush_byte (v : Int32) {k : Nat} (hk : k < 32) : (((v : Int32).toUInt32 >>> ((nI k : Int32).toUInt32 &&& Int32.toUInt32 31)).toInt32 &&& 255) = nI (byN v k) := by
  have hs : ∀ k, k < 32 → (((nI k : Int32).toUInt32 &&& Int32.toUInt32 31).toBitVec % 32).toNat = k := by decide +kernel
  have h := pk_and ((v : Int32).toUInt32 >>> ((nI k : Int32).toUInt32 &&& Int32.toUInt32 31)).toInt32 (m := 255) 8 (by decide)
  rw [h, pk_ushr v (nI k) k (hs k hk)]
  rfl
theorem sar_byte (v : Int32) {k : Nat} (hk : k = 0 ∨ k = 8 ∨ k = 16 ∨ k = 24) : ((v >>> (nI k &&& 31)) &&& 255) = nI (byN v k) := by
  have hs : ∀ k, k < 31 → ((nI k &&& 31 : Int32).toBitVec.smod 32).toNat = k := by decide +kernel
  have h := pk_and (v >>> (nI k &&& 31)) (m := 255) 8 (by decide)
  have e := pk_shr v (nI k &&& 31) k (hs k (by omega))
  rw [h]
  have t1 : (v >>> (nI k &&& 31)).toInt = (v >>> (nI k &&& 31)).toBitVec.toInt := rfl
  have t2 : v.toInt = v.toBitVec.toInt := rfl
  rw [t1, t2, BitVec.toInt_eq_toNat_cond, BitVec.toInt_eq_toNat_cond, Int.shiftRight_eq_div_pow] at e
  have l1 := (v >>> (nI k &&& 31)).toBitVec.isLt
  have l2 := v.toBitVec.isLt
  congr 1
  unfold byN
  generalize (v >>> (nI k &&& 31)).toBitVec.toNat = a at *
  generalize v.toBitVec.toNat = b at *
  rcases hk with rfl | rfl | rfl | rfl <;> (simp at e ⊢; split at e <;> split at e <;> omega)
/-- four bytes more on the class's tape -/
def P4 (v : Int32) (n : Nat) (M Z : Mem) : Prop := Z.2 = M.2 ∧ Z.1 0 0 1 = nI (n + 4) ∧ (∀ r, r < 4 → Z.1 1 0 (n + r) = nI (byN v (24 - 8 * r))) ∧ ∀ f i k, ¬ (f = 0 ∧ i = 0 ∧ k = 1) → ¬ (f = 1 ∧ i = 0 ∧ n ≤ k ∧ k < n + 4) → Z.1 f i k = M.1 f i k
theorem t10_putFour {v : Int32} {n : Nat} (hn : n + 4 ≤ 700) {M : Mem} (hl : M.1 0 0 1 = nI n) {Q : Mem → Prop} (h : ∀ Z, P4 v n M Z → Q Z) : p_X10_putFour v M Q := by
  have go : ∀ (d r : Nat) (Z : Mem), r + d = 4 → Z.2 = M.2 → Z.1 0 0 1 = nI (n + r) → (∀ s, s < r → Z.1 1 0 (n + s) = nI (byN v (24 - 8 * s))) → (∀ f i k, ¬ (f = 0 ∧ i = 0 ∧ k = 1) → ¬ (f = 1 ∧ i = 0 ∧ n ≤ k ∧ k < n + 4) → Z.1 f i k = M.1 f i k) → b_X10_putFour_3 Q (d + 1) v (if r = 4 then -8 else nI (24 - 8 * r)) Z := by
    intro d
    induction d with
    | zero =>
      intro r Z hr z1 z2 z3 z4
      have : r = 4 := by omega
      subst this
      exact ⟨fun _ => h Z ⟨z1, z2, z3, z4⟩, fun z => absurd (by decide) z⟩
    | succ d ih =>
      intro r Z hr z1 z2 z3 z4
      rw [if_neg (by omega)]
      refine ⟨fun z => absurd z (nI_pos (by omega)), fun _ => ⟨fun z => absurd z ?_, fun _ => ?_⟩⟩
      · rw [z2, show (700 : Int32) = nI 700 from rfl]; exact nI_ge (by omega) (by omega)
      · rw [z2, nI_clamp (by omega), ush_byte v (by omega)]
        refine ⟨vp_in_nI (by omega) (by omega), ?_⟩
        rintro M4 rfl M5 rfl x3 rfl
        have ex : (nI (24 - 8 * r) + (-8) : Int32) = (if r + 1 = 4 then -8 else nI (24 - 8 * (r + 1))) := by
          have : r = 0 ∨ r = 1 ∨ r = 2 ∨ r = 3 := by omega
          rcases this with rfl | rfl | rfl | rfl <;> decide
        rw [ex]
        refine ih (r + 1) _ (by omega) z1 ?_ (fun s hs => ?_) (fun f i k a b => ?_)
        · rw [sI_s, sI_n (by omega), z2, nI_1]; rfl
        · rw [sI_n (by omega)]
          by_cases hsr : s = r
          · subst hsr; rw [sI_s]
          · rw [sI_n (by omega)]; exact z3 s (by omega)
        · rw [sI_n a, sI_n (fun z => b ⟨z.1, z.2.1, by omega, by omega⟩)]; exact z4 f i k a b
  exact ⟨5, go 4 0 M rfl rfl hl (fun s hs => absurd hs (Nat.not_lt_zero s)) (fun _ _ _ _ _ => rfl)⟩
