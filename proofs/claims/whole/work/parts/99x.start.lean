/-! the whole: both constructed, then the loop -/
theorem lw_all {p : Program} {l : Launch} {e : Env} {s : State} {m : MethodId} {below : List Frame} {meth : Method} {c : Code} {g : Geo} {b L o : Nat} {xs : Nat → Int32} (hL : L ≤ 3072) (C : CX g p s m #[Value.ref b] meth c cL_law 7 ret RL) (hX : va_X b L xs s s.heap) (hbl : b < s.heap.size) (hAd : ∀ i, i < NN → s.heap.size ≤ g.2.1 i) (hoA : ¬ AX g o) (hoS : s.heap.size ≤ o) (hl0 : l.stackTraces = false) {sa1 sa2 : Nat} (hT : TH g o sa1 sa2 s) (hlocks : meth.locks = false) : ∀ (n i : Nat) (x4 : Int32) (X Y : Mem) (H : Heap) (locs : List Loc) (cells slots : Nat) (ls : Array Slot), i ≤ L → L + 6 ≤ i + 6 * n → x4 = nI i → Rel X Y → cells + n ≤ 601024 → slots + 20 * n ≤ 7293034 → va_P g.1 clz (xw g X) H → va_P g.1 clz (yw g Y) H → OUT g o H → va_S (fun q => s.heap.size ≤ q) s.heap H locs → lv_has ls 7 [(4, .int x4), (0, .ref b), (1, .ref (g.2.1 (0 + 0))), (2, .ref (g.2.1 (138 + 0))), (3, .ref o)] → W p l e room_1 s m #[Value.ref b] below meth c H locs cells slots (lw_Z below #[Value.ref b] s) (F0 m 23 ls []) :=
  lw_loop_open hL C hX hbl hAd hoA Rel hlocks op_0 op_1 op_2 op_3 op_5 op_6 op_7 op_8 op_9 op_10 op_11 op_12 op_13 op_14 op_15 op_16 op_17 op_18 op_19 op_20 op_21 op_22 op_23 op_24 op_25 op_26 op_27 op_28 op_29 op_30 op_31 op_32 op_33 op_34 op_35 op_36 op_37 op_38 op_39 op_40 op_41
    (fun X Y hR _ _ ex4 hi6 _ _ hcs _ _ _ hP hPy hO hS hl kk => lw_case_4 hL C hX hbl hAd hoA hoS hl0 hT X Y hR ex4 hi6 hcs hP hPy hO hS hl kk)
theorem wX_len {g : Geo} {hx : Nat} {u : Nat → Nat} {fw : Nat → Int32} : (wX10 g hx u fw).length = 138 := by
  have := congrArg List.length (adr_X (g := g) (hx := hx) (u := u) (fw := fw))
  simpa using this
theorem kD_one {x : Nat × va_E} : va_D (fun _ => True) [x] := dk_iff.mpr ⟨List.pairwise_singleton _ _, fun _ _ => trivial⟩
/-- where each address stands in the list behind both constructors -/
def sgm (i : Nat) : Nat := if i < 138 then piL.getD i 0 else i
theorem sgm_lt {i : Nat} (h : i < 157) : sgm i < 157 := by
  unfold sgm
  by_cases h1 : i < 138
  · rw [if_pos h1]; have := pi_lt i h1; omega
  · rw [if_neg h1]; exact h
theorem sgm_inj {i j : Nat} (hi : i < 157) (hj : j < 157) (h : sgm i = sgm j) : i = j := by
  unfold sgm at h
  by_cases h1 : i < 138
  · have a1 := pi_lt i h1
    by_cases h2 : j < 138
    · rw [if_pos h1, if_pos h2] at h
      exact pi_inj i h1 j h2 h
    · rw [if_pos h1, if_neg h2] at h; omega
  · by_cases h2 : j < 138
    · have a2 := pi_lt j h2
      rw [if_neg h1, if_pos h2] at h; omega
    · rw [if_neg h1, if_neg h2] at h; exact h
theorem sgm_at {g : Geo} {hx hy : Nat} {u v : Nat → Nat} {fw : Nat → Int32} {Y : Mem} {x : va_W} {i : Nat} (hi : i < 157) : ∃ e, (wX10 g hx u fw ++ yw (mkG g hx u hy v) Y ++ x)[sgm i]? = some ((mkG g hx u hy v).2.1 i, e) := by
  have hlen : (yw (mkG g hx u hy v) Y).length = 19 := by simp [yw]
  have hl2 : (wX10 g hx u fw ++ yw (mkG g hx u hy v) Y).length = 157 := by rw [List.length_append, wX_len, hlen]
  rw [List.getElem?_append_left (by rw [hl2]; exact sgm_lt hi)]
  unfold sgm
  by_cases h : i < 138
  · rw [if_pos h, List.getElem?_append_left (by rw [wX_len]; exact pi_lt i h), mkG_X h]
    exact adr_at (pi_lt i h)
  · rw [if_neg h, List.getElem?_append_right (by rw [wX_len]; omega), wX_len, yw_at (by omega)]
    rw [show 138 + (i - 138) = i by omega]
    exact ⟨_, rfl⟩
