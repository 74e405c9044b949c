def piL : List Nat := [0, 1, 2, 4, 3, 29, 30, 31, 32, 33, 34, 35, 36, 130, 131, 132, 133, 134, 135, 136, 137, 58, 59, 5, 17, 6, 18, 7, 9, 11, 13, 15, 19, 21, 23, 25, 27, 8, 10, 12, 14, 16, 20, 22, 24, 26, 28, 37, 44, 51, 60, 67, 74, 81, 88, 95, 102, 109, 116, 123, 38, 45, 52, 61, 68, 75, 82, 89, 96, 103, 110, 117, 124, 39, 46, 53, 62, 69, 76, 83, 90, 97, 104, 111, 118, 125, 40, 41, 42, 43, 47, 48, 49, 50, 54, 55, 56, 57, 63, 64, 65, 66, 70, 71, 72, 73, 77, 78, 79, 80, 84, 85, 86, 87, 91, 92, 93, 94, 98, 99, 100, 101, 105, 106, 107, 108, 112, 113, 114, 115, 119, 120, 121, 122, 126, 127, 128, 129]
/-- the address at a place of the class's list -/
def adr (hx : Nat) (u : Nat → Nat) (k : Nat) : Nat := if k = 0 then hx else u (k - 1)
def mkG (g : Geo) (hx : Nat) (u : Nat → Nat) (hy : Nat) (v : Nat → Nat) : Geo := (g.1, fun i => if i < 138 then adr hx u (piL.getD i 0) else if i = 138 then hy else v (i - 139), g.2.2)
/-- the class's numbers at the start -/
def mX0 (fw : Nat → Int32) : Mem := (fun f _ k => if f = 23 then (if k = 3 then 5 else if k = 4 then 29 else if k = 5 then go5 else if k = 6 then go29 else if k = 9 then 15 else 0) else if f = 29 then -1 else if f = 20 then fw k else if f = 2 then (if k = 1 then -1 else 0) else if f = 5 then (if k = 4 then -1 else 0) else 0, fun _ _ _ => 0, fun f _ k => if f = 0 then (if k = 3 then some 23 else if k = 4 then some 24 else none) else if f = 2 then (if k = 2 then some 4 else none) else none)
theorem arrV_congr {cI : ClassId} {N : Nat} {f f' : Nat → Value} (h : ∀ k, k < N → f k = f' k) : arrV cI N f = arrV cI N f' := by
  unfold arrV
  congr 2
  funext j
  exact h j.val j.isLt
theorem atI {D : va_G} {cl : List vw_C} {a n : Nat} {t : ClassId} {f f' : Nat → Int32} {H : Heap} (h : va_at D cl (a, .inl (t, n, .inl f)) H) (hf : ∀ k, k < n → f k = f' k) : va_at D cl (a, .inl (t, n, .inl f')) H := by
  show H[a]? = some (vp_cell t (n, .inl f'))
  rw [vp_cell_i, ← arrV_congr (f := fun j => .int (f j)) (fun k hk => by rw [hf k hk])]
  exact h
theorem atR {D : va_G} {cl : List vw_C} {a n : Nat} {t : ClassId} {f f' : Nat → Option Nat} {H : Heap} (h : va_at D cl (a, .inl (t, n, .inr (.inr (.inr (.inr f))))) H) (hf : ∀ k, k < n → f k = f' k) : va_at D cl (a, .inl (t, n, .inr (.inr (.inr (.inr f'))))) H := by
  have e : ∀ g : Nat → Option Nat, vp_cell t (n, .inr (.inr (.inr (.inr g)))) = arrV t n (fun j => va_rf (g j)) := fun _ => rfl
  show H[a]? = some (vp_cell t (n, .inr (.inr (.inr (.inr f')))))
  rw [e, ← arrV_congr (f := fun j => va_rf (f j)) (fun k hk => by rw [hf k hk]), ← e]
  exact h
theorem al_0 {P : Nat → Prop} : ∀ i, i < 0 → P i := fun _ h => absurd h (Nat.not_lt_zero _)
theorem al_s {P : Nat → Prop} {n : Nat} (h : ∀ i, i < n → P i) (hn : P n) : ∀ i, i < n + 1 → P i := fun i hi => by
  rcases Nat.lt_or_ge i n with z | z
  · exact h i z
  · have : i = n := by omega
    rw [this]; exact hn
def PX (g : Geo) (hx : Nat) (u : Nat → Nat) (hy : Nat) (v : Nat → Nat) (fw : Nat → Int32) (H : Heap) (i : Nat) : Prop := va_at g.1 clz ((mkG g hx u hy v).2.1 i, xE (mkG g hx u hy v) (mX0 fw) i) H
theorem fa_app {P : Nat × va_E → Prop} {A B : va_W} (h : ∀ q ∈ A ++ B, P q) : (∀ q ∈ A, P q) ∧ ∀ q ∈ B, P q := ⟨fun q hq => h q (List.mem_append_left _ hq), fun q hq => h q (List.mem_append_right _ hq)⟩
theorem fa_cons {P : Nat × va_E → Prop} {x : Nat × va_E} {A : va_W} (h : ∀ q ∈ x :: A, P q) : P x ∧ ∀ q ∈ A, P q := ⟨h x List.mem_cons_self, fun q hq => h q (List.mem_cons_of_mem _ hq)⟩
theorem xE_f {g : Geo} {M : Mem} (i f j : Nat) (h1 : fm i = f) (h2 : ix i = j) : xE g M i = ent g f j (M.1 f j) (M.2.1 f j) (M.2.2 f j) := by
  unfold xE; rw [h1, h2]
set_option maxHeartbeats 8000000 in
set_option maxRecDepth 100000 in
theorem cvX_138 {g : Geo} {hx : Nat} {u : Nat → Nat} {fw : Nat → Int32} {H : Heap} (hy : Nat) (v : Nat → Nat) (hP : va_P g.1 clz (wX10 g hx u fw) H) : ∀ i, i < 138 → PX g hx u hy v fw H i := by
  have h := dk_P.mp hP
  unfold wX10 at h
  obtain ⟨h, hV⟩ := fa_app h
  obtain ⟨h, hF⟩ := fa_app h
  obtain ⟨h, hQ⟩ := fa_app h
  obtain ⟨h, hS2⟩ := fa_app h
  obtain ⟨h, hS1⟩ := fa_app h
  obtain ⟨h, hS0⟩ := fa_app h
  obtain ⟨h, hH⟩ := fa_app h
  obtain ⟨h, hE⟩ := fa_app h
  obtain ⟨h, hW1⟩ := fa_app h
  obtain ⟨h, hW0⟩ := fa_app h
  obtain ⟨h, hR⟩ := fa_app h
  have hA := h
  unfold wX5 at hQ
  obtain ⟨hQ, hQ10⟩ := fa_app hQ
  obtain ⟨hQ, hQ9⟩ := fa_app hQ
  obtain ⟨hQ, hQ8⟩ := fa_app hQ
  obtain ⟨hQ, hQ7⟩ := fa_app hQ
  obtain ⟨hQ, hQ6⟩ := fa_app hQ
  obtain ⟨hQ, hQ5⟩ := fa_app hQ
  obtain ⟨hQ, hQ4⟩ := fa_app hQ
  obtain ⟨hQ, hQ3⟩ := fa_app hQ
  obtain ⟨hQ, hQ2⟩ := fa_app hQ
  obtain ⟨hQ, hQ1⟩ := fa_app hQ
  obtain ⟨c0, hA⟩ := fa_cons hA
  obtain ⟨c1, hA⟩ := fa_cons hA
  unfold wX6 at hR
  obtain ⟨c2, hR⟩ := fa_cons hR
  obtain ⟨c3, hR⟩ := fa_cons hR
  obtain ⟨c4, hR⟩ := fa_cons hR
  unfold wX9 at hW0
  obtain ⟨c5, hW0⟩ := fa_cons hW0
  obtain ⟨c6, hW0⟩ := fa_cons hW0
  obtain ⟨c7, hW0⟩ := fa_cons hW0
  obtain ⟨c8, hW0⟩ := fa_cons hW0
  obtain ⟨c9, hW0⟩ := fa_cons hW0
  obtain ⟨c10, hW0⟩ := fa_cons hW0
  obtain ⟨c11, hW0⟩ := fa_cons hW0
  obtain ⟨c12, hW0⟩ := fa_cons hW0
  obtain ⟨c13, hW0⟩ := fa_cons hW0
  obtain ⟨c14, hW0⟩ := fa_cons hW0
  obtain ⟨c15, hW0⟩ := fa_cons hW0
  obtain ⟨c16, hW0⟩ := fa_cons hW0
  unfold wX9 at hW1
  obtain ⟨c17, hW1⟩ := fa_cons hW1
  obtain ⟨c18, hW1⟩ := fa_cons hW1
  obtain ⟨c19, hW1⟩ := fa_cons hW1
  obtain ⟨c20, hW1⟩ := fa_cons hW1
  obtain ⟨c21, hW1⟩ := fa_cons hW1
  obtain ⟨c22, hW1⟩ := fa_cons hW1
  obtain ⟨c23, hW1⟩ := fa_cons hW1
  obtain ⟨c24, hW1⟩ := fa_cons hW1
  obtain ⟨c25, hW1⟩ := fa_cons hW1
  obtain ⟨c26, hW1⟩ := fa_cons hW1
  obtain ⟨c27, hW1⟩ := fa_cons hW1
  obtain ⟨c28, hW1⟩ := fa_cons hW1
  unfold wX2 at hE
  obtain ⟨c29, hE⟩ := fa_cons hE
  obtain ⟨c30, hE⟩ := fa_cons hE
  obtain ⟨c31, hE⟩ := fa_cons hE
  obtain ⟨c32, hE⟩ := fa_cons hE
  obtain ⟨c33, hE⟩ := fa_cons hE
  obtain ⟨c34, hE⟩ := fa_cons hE
  unfold wX4 at hH
  obtain ⟨c35, hH⟩ := fa_cons hH
  obtain ⟨c36, hH⟩ := fa_cons hH
  unfold wX8 at hS0
  obtain ⟨c37, hS0⟩ := fa_cons hS0
  obtain ⟨c38, hS0⟩ := fa_cons hS0
  obtain ⟨c39, hS0⟩ := fa_cons hS0
  obtain ⟨c40, hS0⟩ := fa_cons hS0
  obtain ⟨c41, hS0⟩ := fa_cons hS0
  obtain ⟨c42, hS0⟩ := fa_cons hS0
  obtain ⟨c43, hS0⟩ := fa_cons hS0
  unfold wX8 at hS1
  obtain ⟨c44, hS1⟩ := fa_cons hS1
  obtain ⟨c45, hS1⟩ := fa_cons hS1
  obtain ⟨c46, hS1⟩ := fa_cons hS1
  obtain ⟨c47, hS1⟩ := fa_cons hS1
  obtain ⟨c48, hS1⟩ := fa_cons hS1
  obtain ⟨c49, hS1⟩ := fa_cons hS1
  obtain ⟨c50, hS1⟩ := fa_cons hS1
  unfold wX8 at hS2
  obtain ⟨c51, hS2⟩ := fa_cons hS2
  obtain ⟨c52, hS2⟩ := fa_cons hS2
  obtain ⟨c53, hS2⟩ := fa_cons hS2
  obtain ⟨c54, hS2⟩ := fa_cons hS2
  obtain ⟨c55, hS2⟩ := fa_cons hS2
  obtain ⟨c56, hS2⟩ := fa_cons hS2
  obtain ⟨c57, hS2⟩ := fa_cons hS2
  obtain ⟨c58, hQ⟩ := fa_cons hQ
  obtain ⟨c59, hQ⟩ := fa_cons hQ
  unfold wX8 at hQ1
  obtain ⟨c60, hQ1⟩ := fa_cons hQ1
  obtain ⟨c61, hQ1⟩ := fa_cons hQ1
  obtain ⟨c62, hQ1⟩ := fa_cons hQ1
  obtain ⟨c63, hQ1⟩ := fa_cons hQ1
  obtain ⟨c64, hQ1⟩ := fa_cons hQ1
  obtain ⟨c65, hQ1⟩ := fa_cons hQ1
  obtain ⟨c66, hQ1⟩ := fa_cons hQ1
  unfold wX8 at hQ2
  obtain ⟨c67, hQ2⟩ := fa_cons hQ2
  obtain ⟨c68, hQ2⟩ := fa_cons hQ2
  obtain ⟨c69, hQ2⟩ := fa_cons hQ2
  obtain ⟨c70, hQ2⟩ := fa_cons hQ2
  obtain ⟨c71, hQ2⟩ := fa_cons hQ2
  obtain ⟨c72, hQ2⟩ := fa_cons hQ2
  obtain ⟨c73, hQ2⟩ := fa_cons hQ2
  unfold wX8 at hQ3
  obtain ⟨c74, hQ3⟩ := fa_cons hQ3
  obtain ⟨c75, hQ3⟩ := fa_cons hQ3
  obtain ⟨c76, hQ3⟩ := fa_cons hQ3
  obtain ⟨c77, hQ3⟩ := fa_cons hQ3
  obtain ⟨c78, hQ3⟩ := fa_cons hQ3
  obtain ⟨c79, hQ3⟩ := fa_cons hQ3
  obtain ⟨c80, hQ3⟩ := fa_cons hQ3
  unfold wX8 at hQ4
  obtain ⟨c81, hQ4⟩ := fa_cons hQ4
  obtain ⟨c82, hQ4⟩ := fa_cons hQ4
  obtain ⟨c83, hQ4⟩ := fa_cons hQ4
  obtain ⟨c84, hQ4⟩ := fa_cons hQ4
  obtain ⟨c85, hQ4⟩ := fa_cons hQ4
  obtain ⟨c86, hQ4⟩ := fa_cons hQ4
  obtain ⟨c87, hQ4⟩ := fa_cons hQ4
  unfold wX8 at hQ5
  obtain ⟨c88, hQ5⟩ := fa_cons hQ5
  obtain ⟨c89, hQ5⟩ := fa_cons hQ5
  obtain ⟨c90, hQ5⟩ := fa_cons hQ5
  obtain ⟨c91, hQ5⟩ := fa_cons hQ5
  obtain ⟨c92, hQ5⟩ := fa_cons hQ5
  obtain ⟨c93, hQ5⟩ := fa_cons hQ5
  obtain ⟨c94, hQ5⟩ := fa_cons hQ5
  unfold wX8 at hQ6
  obtain ⟨c95, hQ6⟩ := fa_cons hQ6
  obtain ⟨c96, hQ6⟩ := fa_cons hQ6
  obtain ⟨c97, hQ6⟩ := fa_cons hQ6
  obtain ⟨c98, hQ6⟩ := fa_cons hQ6
  obtain ⟨c99, hQ6⟩ := fa_cons hQ6
  obtain ⟨c100, hQ6⟩ := fa_cons hQ6
  obtain ⟨c101, hQ6⟩ := fa_cons hQ6
  unfold wX8 at hQ7
  obtain ⟨c102, hQ7⟩ := fa_cons hQ7
  obtain ⟨c103, hQ7⟩ := fa_cons hQ7
  obtain ⟨c104, hQ7⟩ := fa_cons hQ7
  obtain ⟨c105, hQ7⟩ := fa_cons hQ7
  obtain ⟨c106, hQ7⟩ := fa_cons hQ7
  obtain ⟨c107, hQ7⟩ := fa_cons hQ7
  obtain ⟨c108, hQ7⟩ := fa_cons hQ7
  unfold wX8 at hQ8
  obtain ⟨c109, hQ8⟩ := fa_cons hQ8
  obtain ⟨c110, hQ8⟩ := fa_cons hQ8
  obtain ⟨c111, hQ8⟩ := fa_cons hQ8
  obtain ⟨c112, hQ8⟩ := fa_cons hQ8
  obtain ⟨c113, hQ8⟩ := fa_cons hQ8
  obtain ⟨c114, hQ8⟩ := fa_cons hQ8
  obtain ⟨c115, hQ8⟩ := fa_cons hQ8
  unfold wX8 at hQ9
  obtain ⟨c116, hQ9⟩ := fa_cons hQ9
  obtain ⟨c117, hQ9⟩ := fa_cons hQ9
  obtain ⟨c118, hQ9⟩ := fa_cons hQ9
  obtain ⟨c119, hQ9⟩ := fa_cons hQ9
  obtain ⟨c120, hQ9⟩ := fa_cons hQ9
  obtain ⟨c121, hQ9⟩ := fa_cons hQ9
  obtain ⟨c122, hQ9⟩ := fa_cons hQ9
  unfold wX8 at hQ10
  obtain ⟨c123, hQ10⟩ := fa_cons hQ10
  obtain ⟨c124, hQ10⟩ := fa_cons hQ10
  obtain ⟨c125, hQ10⟩ := fa_cons hQ10
  obtain ⟨c126, hQ10⟩ := fa_cons hQ10
  obtain ⟨c127, hQ10⟩ := fa_cons hQ10
  obtain ⟨c128, hQ10⟩ := fa_cons hQ10
  obtain ⟨c129, hQ10⟩ := fa_cons hQ10
  unfold wX3 at hF
  obtain ⟨c130, hF⟩ := fa_cons hF
  obtain ⟨c131, hF⟩ := fa_cons hF
  obtain ⟨c132, hF⟩ := fa_cons hF
  obtain ⟨c133, hF⟩ := fa_cons hF
  unfold wX7 wSv at hV
  obtain ⟨c134, hV⟩ := fa_cons hV
  obtain ⟨c135, hV⟩ := fa_cons hV
  obtain ⟨c136, hV⟩ := fa_cons hV
  obtain ⟨c137, hV⟩ := fa_cons hV
  have a0 : ∀ i, i < 0 → PX g hx u hy v fw H i := al_0
  have b0 : PX g hx u hy v fw H 0 := by unfold PX; rw [xE_f 0 0 0 rfl rfl]; exact c0
  have a1 : ∀ i, i < 1 → PX g hx u hy v fw H i := al_s a0 b0
  have b1 : PX g hx u hy v fw H 1 := by unfold PX; rw [xE_f 1 1 0 rfl rfl]; exact c1
  have a2 : ∀ i, i < 2 → PX g hx u hy v fw H i := al_s a1 b1
  have b2 : PX g hx u hy v fw H 2 := by unfold PX; rw [xE_f 2 2 0 rfl rfl]; exact c2
  have a3 : ∀ i, i < 3 → PX g hx u hy v fw H i := al_s a2 b2
  have b3 : PX g hx u hy v fw H 3 := by unfold PX; rw [xE_f 3 3 0 rfl rfl]; exact c4
  have a4 : ∀ i, i < 4 → PX g hx u hy v fw H i := al_s a3 b3
  have b4 : PX g hx u hy v fw H 4 := by unfold PX; rw [xE_f 4 4 0 rfl rfl]; exact c3
  have a5 : ∀ i, i < 5 → PX g hx u hy v fw H i := al_s a4 b4
  have b5 : PX g hx u hy v fw H 5 := by unfold PX; rw [xE_f 5 5 0 rfl rfl]; exact c29
  have a6 : ∀ i, i < 6 → PX g hx u hy v fw H i := al_s a5 b5
  have b6 : PX g hx u hy v fw H 6 := by unfold PX; rw [xE_f 6 6 0 rfl rfl]; exact c30
  have a7 : ∀ i, i < 7 → PX g hx u hy v fw H i := al_s a6 b6
  have b7 : PX g hx u hy v fw H 7 := by unfold PX; rw [xE_f 7 7 0 rfl rfl]; exact c31
  have a8 : ∀ i, i < 8 → PX g hx u hy v fw H i := al_s a7 b7
  have b8 : PX g hx u hy v fw H 8 := by unfold PX; rw [xE_f 8 8 0 rfl rfl]; exact c32
  have a9 : ∀ i, i < 9 → PX g hx u hy v fw H i := al_s a8 b8
  have b9 : PX g hx u hy v fw H 9 := by unfold PX; rw [xE_f 9 9 0 rfl rfl]; exact c33
  have a10 : ∀ i, i < 10 → PX g hx u hy v fw H i := al_s a9 b9
  have b10 : PX g hx u hy v fw H 10 := by unfold PX; rw [xE_f 10 10 0 rfl rfl]; exact c34
  have a11 : ∀ i, i < 11 → PX g hx u hy v fw H i := al_s a10 b10
  have b11 : PX g hx u hy v fw H 11 := by unfold PX; rw [xE_f 11 11 0 rfl rfl]; exact c35
  have a12 : ∀ i, i < 12 → PX g hx u hy v fw H i := al_s a11 b11
  have b12 : PX g hx u hy v fw H 12 := by unfold PX; rw [xE_f 12 12 0 rfl rfl]; exact c36
  have a13 : ∀ i, i < 13 → PX g hx u hy v fw H i := al_s a12 b12
  have b13 : PX g hx u hy v fw H 13 := by unfold PX; rw [xE_f 13 13 0 rfl rfl]; exact c130
  have a14 : ∀ i, i < 14 → PX g hx u hy v fw H i := al_s a13 b13
  have b14 : PX g hx u hy v fw H 14 := by unfold PX; rw [xE_f 14 14 0 rfl rfl]; exact c131
  have a15 : ∀ i, i < 15 → PX g hx u hy v fw H i := al_s a14 b14
  have b15 : PX g hx u hy v fw H 15 := by unfold PX; rw [xE_f 15 15 0 rfl rfl]; exact c132
  have a16 : ∀ i, i < 16 → PX g hx u hy v fw H i := al_s a15 b15
  have b16 : PX g hx u hy v fw H 16 := by unfold PX; rw [xE_f 16 16 0 rfl rfl]; exact c133
  have a17 : ∀ i, i < 17 → PX g hx u hy v fw H i := al_s a16 b16
  have b17 : PX g hx u hy v fw H 17 := by unfold PX; rw [xE_f 17 17 0 rfl rfl]; exact c134
  have a18 : ∀ i, i < 18 → PX g hx u hy v fw H i := al_s a17 b17
  have b18 : PX g hx u hy v fw H 18 := by unfold PX; rw [xE_f 18 18 0 rfl rfl]; exact c135
  have a19 : ∀ i, i < 19 → PX g hx u hy v fw H i := al_s a18 b18
  have b19 : PX g hx u hy v fw H 19 := by unfold PX; rw [xE_f 19 19 0 rfl rfl]; exact c136
  have a20 : ∀ i, i < 20 → PX g hx u hy v fw H i := al_s a19 b19
  have b20 : PX g hx u hy v fw H 20 := by unfold PX; rw [xE_f 20 20 0 rfl rfl]; exact c137
  have a21 : ∀ i, i < 21 → PX g hx u hy v fw H i := al_s a20 b20
  have b21 : PX g hx u hy v fw H 21 := by unfold PX; rw [xE_f 21 21 0 rfl rfl]; exact c58
  have a22 : ∀ i, i < 22 → PX g hx u hy v fw H i := al_s a21 b21
  have b22 : PX g hx u hy v fw H 22 := by unfold PX; rw [xE_f 22 22 0 rfl rfl]; exact atR c59 (fun k hk => by rcases (show k = 0 ∨ k = 1 ∨ k = 2 ∨ k = 3 ∨ k = 4 ∨ k = 5 ∨ k = 6 ∨ k = 7 ∨ k = 8 ∨ k = 9 by omega) with rfl | rfl | rfl | rfl | rfl | rfl | rfl | rfl | rfl | rfl <;> rfl)
  have a23 : ∀ i, i < 23 → PX g hx u hy v fw H i := al_s a22 b22
  have b23 : PX g hx u hy v fw H 23 := by unfold PX; rw [xE_f 23 23 0 rfl rfl]; exact c5
  have a24 : ∀ i, i < 24 → PX g hx u hy v fw H i := al_s a23 b23
  have b24 : PX g hx u hy v fw H 24 := by unfold PX; rw [xE_f 24 23 1 rfl rfl]; exact c17
  have a25 : ∀ i, i < 25 → PX g hx u hy v fw H i := al_s a24 b24
  have b25 : PX g hx u hy v fw H 25 := by unfold PX; rw [xE_f 25 24 0 rfl rfl]; exact atR c6 (fun k hk => by rcases (show k = 0 ∨ k = 1 ∨ k = 2 ∨ k = 3 ∨ k = 4 by omega) with rfl | rfl | rfl | rfl | rfl <;> rfl)
  have a26 : ∀ i, i < 26 → PX g hx u hy v fw H i := al_s a25 b25
  have b26 : PX g hx u hy v fw H 26 := by unfold PX; rw [xE_f 26 24 1 rfl rfl]; exact atR c18 (fun k hk => by rcases (show k = 0 ∨ k = 1 ∨ k = 2 ∨ k = 3 ∨ k = 4 by omega) with rfl | rfl | rfl | rfl | rfl <;> rfl)
  have a27 : ∀ i, i < 27 → PX g hx u hy v fw H i := al_s a26 b26
  have b27 : PX g hx u hy v fw H 27 := by unfold PX; rw [xE_f 27 25 0 rfl rfl]; exact c7
  have a28 : ∀ i, i < 28 → PX g hx u hy v fw H i := al_s a27 b27
  have b28 : PX g hx u hy v fw H 28 := by unfold PX; rw [xE_f 28 25 1 rfl rfl]; exact c9
  have a29 : ∀ i, i < 29 → PX g hx u hy v fw H i := al_s a28 b28
  have b29 : PX g hx u hy v fw H 29 := by unfold PX; rw [xE_f 29 25 2 rfl rfl]; exact c11
  have a30 : ∀ i, i < 30 → PX g hx u hy v fw H i := al_s a29 b29
  have b30 : PX g hx u hy v fw H 30 := by unfold PX; rw [xE_f 30 25 3 rfl rfl]; exact c13
  have a31 : ∀ i, i < 31 → PX g hx u hy v fw H i := al_s a30 b30
  have b31 : PX g hx u hy v fw H 31 := by unfold PX; rw [xE_f 31 25 4 rfl rfl]; exact c15
  have a32 : ∀ i, i < 32 → PX g hx u hy v fw H i := al_s a31 b31
  have b32 : PX g hx u hy v fw H 32 := by unfold PX; rw [xE_f 32 25 5 rfl rfl]; exact c19
  have a33 : ∀ i, i < 33 → PX g hx u hy v fw H i := al_s a32 b32
  have b33 : PX g hx u hy v fw H 33 := by unfold PX; rw [xE_f 33 25 6 rfl rfl]; exact c21
  have a34 : ∀ i, i < 34 → PX g hx u hy v fw H i := al_s a33 b33
  have b34 : PX g hx u hy v fw H 34 := by unfold PX; rw [xE_f 34 25 7 rfl rfl]; exact c23
  have a35 : ∀ i, i < 35 → PX g hx u hy v fw H i := al_s a34 b34
  have b35 : PX g hx u hy v fw H 35 := by unfold PX; rw [xE_f 35 25 8 rfl rfl]; exact c25
  have a36 : ∀ i, i < 36 → PX g hx u hy v fw H i := al_s a35 b35
  have b36 : PX g hx u hy v fw H 36 := by unfold PX; rw [xE_f 36 25 9 rfl rfl]; exact c27
  have a37 : ∀ i, i < 37 → PX g hx u hy v fw H i := al_s a36 b36
  have b37 : PX g hx u hy v fw H 37 := by unfold PX; rw [xE_f 37 26 0 rfl rfl]; exact c8
  have a38 : ∀ i, i < 38 → PX g hx u hy v fw H i := al_s a37 b37
  have b38 : PX g hx u hy v fw H 38 := by unfold PX; rw [xE_f 38 26 1 rfl rfl]; exact c10
  have a39 : ∀ i, i < 39 → PX g hx u hy v fw H i := al_s a38 b38
  have b39 : PX g hx u hy v fw H 39 := by unfold PX; rw [xE_f 39 26 2 rfl rfl]; exact c12
  have a40 : ∀ i, i < 40 → PX g hx u hy v fw H i := al_s a39 b39
  have b40 : PX g hx u hy v fw H 40 := by unfold PX; rw [xE_f 40 26 3 rfl rfl]; exact c14
  have a41 : ∀ i, i < 41 → PX g hx u hy v fw H i := al_s a40 b40
  have b41 : PX g hx u hy v fw H 41 := by unfold PX; rw [xE_f 41 26 4 rfl rfl]; exact c16
  have a42 : ∀ i, i < 42 → PX g hx u hy v fw H i := al_s a41 b41
  have b42 : PX g hx u hy v fw H 42 := by unfold PX; rw [xE_f 42 26 5 rfl rfl]; exact c20
  have a43 : ∀ i, i < 43 → PX g hx u hy v fw H i := al_s a42 b42
  have b43 : PX g hx u hy v fw H 43 := by unfold PX; rw [xE_f 43 26 6 rfl rfl]; exact c22
  have a44 : ∀ i, i < 44 → PX g hx u hy v fw H i := al_s a43 b43
  have b44 : PX g hx u hy v fw H 44 := by unfold PX; rw [xE_f 44 26 7 rfl rfl]; exact c24
  have a45 : ∀ i, i < 45 → PX g hx u hy v fw H i := al_s a44 b44
  have b45 : PX g hx u hy v fw H 45 := by unfold PX; rw [xE_f 45 26 8 rfl rfl]; exact c26
  have a46 : ∀ i, i < 46 → PX g hx u hy v fw H i := al_s a45 b45
  have b46 : PX g hx u hy v fw H 46 := by unfold PX; rw [xE_f 46 26 9 rfl rfl]; exact c28
  have a47 : ∀ i, i < 47 → PX g hx u hy v fw H i := al_s a46 b46
  have b47 : PX g hx u hy v fw H 47 := by unfold PX; rw [xE_f 47 27 0 rfl rfl]; exact c37
  have a48 : ∀ i, i < 48 → PX g hx u hy v fw H i := al_s a47 b47
  have b48 : PX g hx u hy v fw H 48 := by unfold PX; rw [xE_f 48 27 1 rfl rfl]; exact c44
  have a49 : ∀ i, i < 49 → PX g hx u hy v fw H i := al_s a48 b48
  have b49 : PX g hx u hy v fw H 49 := by unfold PX; rw [xE_f 49 27 2 rfl rfl]; exact c51
  have a50 : ∀ i, i < 50 → PX g hx u hy v fw H i := al_s a49 b49
  have b50 : PX g hx u hy v fw H 50 := by unfold PX; rw [xE_f 50 27 3 rfl rfl]; exact c60
  have a51 : ∀ i, i < 51 → PX g hx u hy v fw H i := al_s a50 b50
  have b51 : PX g hx u hy v fw H 51 := by unfold PX; rw [xE_f 51 27 4 rfl rfl]; exact c67
  have a52 : ∀ i, i < 52 → PX g hx u hy v fw H i := al_s a51 b51
  have b52 : PX g hx u hy v fw H 52 := by unfold PX; rw [xE_f 52 27 5 rfl rfl]; exact c74
  have a53 : ∀ i, i < 53 → PX g hx u hy v fw H i := al_s a52 b52
  have b53 : PX g hx u hy v fw H 53 := by unfold PX; rw [xE_f 53 27 6 rfl rfl]; exact c81
  have a54 : ∀ i, i < 54 → PX g hx u hy v fw H i := al_s a53 b53
  have b54 : PX g hx u hy v fw H 54 := by unfold PX; rw [xE_f 54 27 7 rfl rfl]; exact c88
  have a55 : ∀ i, i < 55 → PX g hx u hy v fw H i := al_s a54 b54
  have b55 : PX g hx u hy v fw H 55 := by unfold PX; rw [xE_f 55 27 8 rfl rfl]; exact c95
  have a56 : ∀ i, i < 56 → PX g hx u hy v fw H i := al_s a55 b55
  have b56 : PX g hx u hy v fw H 56 := by unfold PX; rw [xE_f 56 27 9 rfl rfl]; exact c102
  have a57 : ∀ i, i < 57 → PX g hx u hy v fw H i := al_s a56 b56
  have b57 : PX g hx u hy v fw H 57 := by unfold PX; rw [xE_f 57 27 10 rfl rfl]; exact c109
  have a58 : ∀ i, i < 58 → PX g hx u hy v fw H i := al_s a57 b57
  have b58 : PX g hx u hy v fw H 58 := by unfold PX; rw [xE_f 58 27 11 rfl rfl]; exact c116
  have a59 : ∀ i, i < 59 → PX g hx u hy v fw H i := al_s a58 b58
  have b59 : PX g hx u hy v fw H 59 := by unfold PX; rw [xE_f 59 27 12 rfl rfl]; exact c123
  have a60 : ∀ i, i < 60 → PX g hx u hy v fw H i := al_s a59 b59
  have b60 : PX g hx u hy v fw H 60 := by unfold PX; rw [xE_f 60 28 0 rfl rfl]; exact atR c38 (fun k hk => by rcases (show k = 0 ∨ k = 1 ∨ k = 2 ∨ k = 3 by omega) with rfl | rfl | rfl | rfl <;> rfl)
  have a61 : ∀ i, i < 61 → PX g hx u hy v fw H i := al_s a60 b60
  have b61 : PX g hx u hy v fw H 61 := by unfold PX; rw [xE_f 61 28 1 rfl rfl]; exact atR c45 (fun k hk => by rcases (show k = 0 ∨ k = 1 ∨ k = 2 ∨ k = 3 by omega) with rfl | rfl | rfl | rfl <;> rfl)
  have a62 : ∀ i, i < 62 → PX g hx u hy v fw H i := al_s a61 b61
  have b62 : PX g hx u hy v fw H 62 := by unfold PX; rw [xE_f 62 28 2 rfl rfl]; exact atR c52 (fun k hk => by rcases (show k = 0 ∨ k = 1 ∨ k = 2 ∨ k = 3 by omega) with rfl | rfl | rfl | rfl <;> rfl)
  have a63 : ∀ i, i < 63 → PX g hx u hy v fw H i := al_s a62 b62
  have b63 : PX g hx u hy v fw H 63 := by unfold PX; rw [xE_f 63 28 3 rfl rfl]; exact atR c61 (fun k hk => by rcases (show k = 0 ∨ k = 1 ∨ k = 2 ∨ k = 3 by omega) with rfl | rfl | rfl | rfl <;> rfl)
  have a64 : ∀ i, i < 64 → PX g hx u hy v fw H i := al_s a63 b63
  have b64 : PX g hx u hy v fw H 64 := by unfold PX; rw [xE_f 64 28 4 rfl rfl]; exact atR c68 (fun k hk => by rcases (show k = 0 ∨ k = 1 ∨ k = 2 ∨ k = 3 by omega) with rfl | rfl | rfl | rfl <;> rfl)
  have a65 : ∀ i, i < 65 → PX g hx u hy v fw H i := al_s a64 b64
  have b65 : PX g hx u hy v fw H 65 := by unfold PX; rw [xE_f 65 28 5 rfl rfl]; exact atR c75 (fun k hk => by rcases (show k = 0 ∨ k = 1 ∨ k = 2 ∨ k = 3 by omega) with rfl | rfl | rfl | rfl <;> rfl)
  have a66 : ∀ i, i < 66 → PX g hx u hy v fw H i := al_s a65 b65
  have b66 : PX g hx u hy v fw H 66 := by unfold PX; rw [xE_f 66 28 6 rfl rfl]; exact atR c82 (fun k hk => by rcases (show k = 0 ∨ k = 1 ∨ k = 2 ∨ k = 3 by omega) with rfl | rfl | rfl | rfl <;> rfl)
  have a67 : ∀ i, i < 67 → PX g hx u hy v fw H i := al_s a66 b66
  have b67 : PX g hx u hy v fw H 67 := by unfold PX; rw [xE_f 67 28 7 rfl rfl]; exact atR c89 (fun k hk => by rcases (show k = 0 ∨ k = 1 ∨ k = 2 ∨ k = 3 by omega) with rfl | rfl | rfl | rfl <;> rfl)
  have a68 : ∀ i, i < 68 → PX g hx u hy v fw H i := al_s a67 b67
  have b68 : PX g hx u hy v fw H 68 := by unfold PX; rw [xE_f 68 28 8 rfl rfl]; exact atR c96 (fun k hk => by rcases (show k = 0 ∨ k = 1 ∨ k = 2 ∨ k = 3 by omega) with rfl | rfl | rfl | rfl <;> rfl)
  have a69 : ∀ i, i < 69 → PX g hx u hy v fw H i := al_s a68 b68
  have b69 : PX g hx u hy v fw H 69 := by unfold PX; rw [xE_f 69 28 9 rfl rfl]; exact atR c103 (fun k hk => by rcases (show k = 0 ∨ k = 1 ∨ k = 2 ∨ k = 3 by omega) with rfl | rfl | rfl | rfl <;> rfl)
  have a70 : ∀ i, i < 70 → PX g hx u hy v fw H i := al_s a69 b69
  have b70 : PX g hx u hy v fw H 70 := by unfold PX; rw [xE_f 70 28 10 rfl rfl]; exact atR c110 (fun k hk => by rcases (show k = 0 ∨ k = 1 ∨ k = 2 ∨ k = 3 by omega) with rfl | rfl | rfl | rfl <;> rfl)
  have a71 : ∀ i, i < 71 → PX g hx u hy v fw H i := al_s a70 b70
  have b71 : PX g hx u hy v fw H 71 := by unfold PX; rw [xE_f 71 28 11 rfl rfl]; exact atR c117 (fun k hk => by rcases (show k = 0 ∨ k = 1 ∨ k = 2 ∨ k = 3 by omega) with rfl | rfl | rfl | rfl <;> rfl)
  have a72 : ∀ i, i < 72 → PX g hx u hy v fw H i := al_s a71 b71
  have b72 : PX g hx u hy v fw H 72 := by unfold PX; rw [xE_f 72 28 12 rfl rfl]; exact atR c124 (fun k hk => by rcases (show k = 0 ∨ k = 1 ∨ k = 2 ∨ k = 3 by omega) with rfl | rfl | rfl | rfl <;> rfl)
  have a73 : ∀ i, i < 73 → PX g hx u hy v fw H i := al_s a72 b72
  have b73 : PX g hx u hy v fw H 73 := by unfold PX; rw [xE_f 73 29 0 rfl rfl]; exact atI c39 (fun k hk => by rcases (show k = 0 ∨ k = 1 ∨ k = 2 ∨ k = 3 ∨ k = 4 by omega) with rfl | rfl | rfl | rfl | rfl <;> rfl)
  have a74 : ∀ i, i < 74 → PX g hx u hy v fw H i := al_s a73 b73
  have b74 : PX g hx u hy v fw H 74 := by unfold PX; rw [xE_f 74 29 1 rfl rfl]; exact atI c46 (fun k hk => by rcases (show k = 0 ∨ k = 1 ∨ k = 2 ∨ k = 3 ∨ k = 4 by omega) with rfl | rfl | rfl | rfl | rfl <;> rfl)
  have a75 : ∀ i, i < 75 → PX g hx u hy v fw H i := al_s a74 b74
  have b75 : PX g hx u hy v fw H 75 := by unfold PX; rw [xE_f 75 29 2 rfl rfl]; exact atI c53 (fun k hk => by rcases (show k = 0 ∨ k = 1 ∨ k = 2 ∨ k = 3 ∨ k = 4 by omega) with rfl | rfl | rfl | rfl | rfl <;> rfl)
  have a76 : ∀ i, i < 76 → PX g hx u hy v fw H i := al_s a75 b75
  have b76 : PX g hx u hy v fw H 76 := by unfold PX; rw [xE_f 76 29 3 rfl rfl]; exact atI c62 (fun k hk => by rcases (show k = 0 ∨ k = 1 ∨ k = 2 ∨ k = 3 ∨ k = 4 by omega) with rfl | rfl | rfl | rfl | rfl <;> rfl)
  have a77 : ∀ i, i < 77 → PX g hx u hy v fw H i := al_s a76 b76
  have b77 : PX g hx u hy v fw H 77 := by unfold PX; rw [xE_f 77 29 4 rfl rfl]; exact atI c69 (fun k hk => by rcases (show k = 0 ∨ k = 1 ∨ k = 2 ∨ k = 3 ∨ k = 4 by omega) with rfl | rfl | rfl | rfl | rfl <;> rfl)
  have a78 : ∀ i, i < 78 → PX g hx u hy v fw H i := al_s a77 b77
  have b78 : PX g hx u hy v fw H 78 := by unfold PX; rw [xE_f 78 29 5 rfl rfl]; exact atI c76 (fun k hk => by rcases (show k = 0 ∨ k = 1 ∨ k = 2 ∨ k = 3 ∨ k = 4 by omega) with rfl | rfl | rfl | rfl | rfl <;> rfl)
  have a79 : ∀ i, i < 79 → PX g hx u hy v fw H i := al_s a78 b78
  have b79 : PX g hx u hy v fw H 79 := by unfold PX; rw [xE_f 79 29 6 rfl rfl]; exact atI c83 (fun k hk => by rcases (show k = 0 ∨ k = 1 ∨ k = 2 ∨ k = 3 ∨ k = 4 by omega) with rfl | rfl | rfl | rfl | rfl <;> rfl)
  have a80 : ∀ i, i < 80 → PX g hx u hy v fw H i := al_s a79 b79
  have b80 : PX g hx u hy v fw H 80 := by unfold PX; rw [xE_f 80 29 7 rfl rfl]; exact atI c90 (fun k hk => by rcases (show k = 0 ∨ k = 1 ∨ k = 2 ∨ k = 3 ∨ k = 4 by omega) with rfl | rfl | rfl | rfl | rfl <;> rfl)
  have a81 : ∀ i, i < 81 → PX g hx u hy v fw H i := al_s a80 b80
  have b81 : PX g hx u hy v fw H 81 := by unfold PX; rw [xE_f 81 29 8 rfl rfl]; exact atI c97 (fun k hk => by rcases (show k = 0 ∨ k = 1 ∨ k = 2 ∨ k = 3 ∨ k = 4 by omega) with rfl | rfl | rfl | rfl | rfl <;> rfl)
  have a82 : ∀ i, i < 82 → PX g hx u hy v fw H i := al_s a81 b81
  have b82 : PX g hx u hy v fw H 82 := by unfold PX; rw [xE_f 82 29 9 rfl rfl]; exact atI c104 (fun k hk => by rcases (show k = 0 ∨ k = 1 ∨ k = 2 ∨ k = 3 ∨ k = 4 by omega) with rfl | rfl | rfl | rfl | rfl <;> rfl)
  have a83 : ∀ i, i < 83 → PX g hx u hy v fw H i := al_s a82 b82
  have b83 : PX g hx u hy v fw H 83 := by unfold PX; rw [xE_f 83 29 10 rfl rfl]; exact atI c111 (fun k hk => by rcases (show k = 0 ∨ k = 1 ∨ k = 2 ∨ k = 3 ∨ k = 4 by omega) with rfl | rfl | rfl | rfl | rfl <;> rfl)
  have a84 : ∀ i, i < 84 → PX g hx u hy v fw H i := al_s a83 b83
  have b84 : PX g hx u hy v fw H 84 := by unfold PX; rw [xE_f 84 29 11 rfl rfl]; exact atI c118 (fun k hk => by rcases (show k = 0 ∨ k = 1 ∨ k = 2 ∨ k = 3 ∨ k = 4 by omega) with rfl | rfl | rfl | rfl | rfl <;> rfl)
  have a85 : ∀ i, i < 85 → PX g hx u hy v fw H i := al_s a84 b84
  have b85 : PX g hx u hy v fw H 85 := by unfold PX; rw [xE_f 85 29 12 rfl rfl]; exact atI c125 (fun k hk => by rcases (show k = 0 ∨ k = 1 ∨ k = 2 ∨ k = 3 ∨ k = 4 by omega) with rfl | rfl | rfl | rfl | rfl <;> rfl)
  have a86 : ∀ i, i < 86 → PX g hx u hy v fw H i := al_s a85 b85
  have b86 : PX g hx u hy v fw H 86 := by unfold PX; rw [xE_f 86 30 0 rfl rfl]; exact c40
  have a87 : ∀ i, i < 87 → PX g hx u hy v fw H i := al_s a86 b86
  have b87 : PX g hx u hy v fw H 87 := by unfold PX; rw [xE_f 87 30 1 rfl rfl]; exact c41
  have a88 : ∀ i, i < 88 → PX g hx u hy v fw H i := al_s a87 b87
  have b88 : PX g hx u hy v fw H 88 := by unfold PX; rw [xE_f 88 30 2 rfl rfl]; exact c42
  have a89 : ∀ i, i < 89 → PX g hx u hy v fw H i := al_s a88 b88
  have b89 : PX g hx u hy v fw H 89 := by unfold PX; rw [xE_f 89 30 3 rfl rfl]; exact c43
  have a90 : ∀ i, i < 90 → PX g hx u hy v fw H i := al_s a89 b89
  have b90 : PX g hx u hy v fw H 90 := by unfold PX; rw [xE_f 90 30 4 rfl rfl]; exact c47
  have a91 : ∀ i, i < 91 → PX g hx u hy v fw H i := al_s a90 b90
  have b91 : PX g hx u hy v fw H 91 := by unfold PX; rw [xE_f 91 30 5 rfl rfl]; exact c48
  have a92 : ∀ i, i < 92 → PX g hx u hy v fw H i := al_s a91 b91
  have b92 : PX g hx u hy v fw H 92 := by unfold PX; rw [xE_f 92 30 6 rfl rfl]; exact c49
  have a93 : ∀ i, i < 93 → PX g hx u hy v fw H i := al_s a92 b92
  have b93 : PX g hx u hy v fw H 93 := by unfold PX; rw [xE_f 93 30 7 rfl rfl]; exact c50
  have a94 : ∀ i, i < 94 → PX g hx u hy v fw H i := al_s a93 b93
  have b94 : PX g hx u hy v fw H 94 := by unfold PX; rw [xE_f 94 30 8 rfl rfl]; exact c54
  have a95 : ∀ i, i < 95 → PX g hx u hy v fw H i := al_s a94 b94
  have b95 : PX g hx u hy v fw H 95 := by unfold PX; rw [xE_f 95 30 9 rfl rfl]; exact c55
  have a96 : ∀ i, i < 96 → PX g hx u hy v fw H i := al_s a95 b95
  have b96 : PX g hx u hy v fw H 96 := by unfold PX; rw [xE_f 96 30 10 rfl rfl]; exact c56
  have a97 : ∀ i, i < 97 → PX g hx u hy v fw H i := al_s a96 b96
  have b97 : PX g hx u hy v fw H 97 := by unfold PX; rw [xE_f 97 30 11 rfl rfl]; exact c57
  have a98 : ∀ i, i < 98 → PX g hx u hy v fw H i := al_s a97 b97
  have b98 : PX g hx u hy v fw H 98 := by unfold PX; rw [xE_f 98 30 12 rfl rfl]; exact c63
  have a99 : ∀ i, i < 99 → PX g hx u hy v fw H i := al_s a98 b98
  have b99 : PX g hx u hy v fw H 99 := by unfold PX; rw [xE_f 99 30 13 rfl rfl]; exact c64
  have a100 : ∀ i, i < 100 → PX g hx u hy v fw H i := al_s a99 b99
  have b100 : PX g hx u hy v fw H 100 := by unfold PX; rw [xE_f 100 30 14 rfl rfl]; exact c65
  have a101 : ∀ i, i < 101 → PX g hx u hy v fw H i := al_s a100 b100
  have b101 : PX g hx u hy v fw H 101 := by unfold PX; rw [xE_f 101 30 15 rfl rfl]; exact c66
  have a102 : ∀ i, i < 102 → PX g hx u hy v fw H i := al_s a101 b101
  have b102 : PX g hx u hy v fw H 102 := by unfold PX; rw [xE_f 102 30 16 rfl rfl]; exact c70
  have a103 : ∀ i, i < 103 → PX g hx u hy v fw H i := al_s a102 b102
  have b103 : PX g hx u hy v fw H 103 := by unfold PX; rw [xE_f 103 30 17 rfl rfl]; exact c71
  have a104 : ∀ i, i < 104 → PX g hx u hy v fw H i := al_s a103 b103
  have b104 : PX g hx u hy v fw H 104 := by unfold PX; rw [xE_f 104 30 18 rfl rfl]; exact c72
  have a105 : ∀ i, i < 105 → PX g hx u hy v fw H i := al_s a104 b104
  have b105 : PX g hx u hy v fw H 105 := by unfold PX; rw [xE_f 105 30 19 rfl rfl]; exact c73
  have a106 : ∀ i, i < 106 → PX g hx u hy v fw H i := al_s a105 b105
  have b106 : PX g hx u hy v fw H 106 := by unfold PX; rw [xE_f 106 30 20 rfl rfl]; exact c77
  have a107 : ∀ i, i < 107 → PX g hx u hy v fw H i := al_s a106 b106
  have b107 : PX g hx u hy v fw H 107 := by unfold PX; rw [xE_f 107 30 21 rfl rfl]; exact c78
  have a108 : ∀ i, i < 108 → PX g hx u hy v fw H i := al_s a107 b107
  have b108 : PX g hx u hy v fw H 108 := by unfold PX; rw [xE_f 108 30 22 rfl rfl]; exact c79
  have a109 : ∀ i, i < 109 → PX g hx u hy v fw H i := al_s a108 b108
  have b109 : PX g hx u hy v fw H 109 := by unfold PX; rw [xE_f 109 30 23 rfl rfl]; exact c80
  have a110 : ∀ i, i < 110 → PX g hx u hy v fw H i := al_s a109 b109
  have b110 : PX g hx u hy v fw H 110 := by unfold PX; rw [xE_f 110 30 24 rfl rfl]; exact c84
  have a111 : ∀ i, i < 111 → PX g hx u hy v fw H i := al_s a110 b110
  have b111 : PX g hx u hy v fw H 111 := by unfold PX; rw [xE_f 111 30 25 rfl rfl]; exact c85
  have a112 : ∀ i, i < 112 → PX g hx u hy v fw H i := al_s a111 b111
  have b112 : PX g hx u hy v fw H 112 := by unfold PX; rw [xE_f 112 30 26 rfl rfl]; exact c86
  have a113 : ∀ i, i < 113 → PX g hx u hy v fw H i := al_s a112 b112
  have b113 : PX g hx u hy v fw H 113 := by unfold PX; rw [xE_f 113 30 27 rfl rfl]; exact c87
  have a114 : ∀ i, i < 114 → PX g hx u hy v fw H i := al_s a113 b113
  have b114 : PX g hx u hy v fw H 114 := by unfold PX; rw [xE_f 114 30 28 rfl rfl]; exact c91
  have a115 : ∀ i, i < 115 → PX g hx u hy v fw H i := al_s a114 b114
  have b115 : PX g hx u hy v fw H 115 := by unfold PX; rw [xE_f 115 30 29 rfl rfl]; exact c92
  have a116 : ∀ i, i < 116 → PX g hx u hy v fw H i := al_s a115 b115
  have b116 : PX g hx u hy v fw H 116 := by unfold PX; rw [xE_f 116 30 30 rfl rfl]; exact c93
  have a117 : ∀ i, i < 117 → PX g hx u hy v fw H i := al_s a116 b116
  have b117 : PX g hx u hy v fw H 117 := by unfold PX; rw [xE_f 117 30 31 rfl rfl]; exact c94
  have a118 : ∀ i, i < 118 → PX g hx u hy v fw H i := al_s a117 b117
  have b118 : PX g hx u hy v fw H 118 := by unfold PX; rw [xE_f 118 30 32 rfl rfl]; exact c98
  have a119 : ∀ i, i < 119 → PX g hx u hy v fw H i := al_s a118 b118
  have b119 : PX g hx u hy v fw H 119 := by unfold PX; rw [xE_f 119 30 33 rfl rfl]; exact c99
  have a120 : ∀ i, i < 120 → PX g hx u hy v fw H i := al_s a119 b119
  have b120 : PX g hx u hy v fw H 120 := by unfold PX; rw [xE_f 120 30 34 rfl rfl]; exact c100
  have a121 : ∀ i, i < 121 → PX g hx u hy v fw H i := al_s a120 b120
  have b121 : PX g hx u hy v fw H 121 := by unfold PX; rw [xE_f 121 30 35 rfl rfl]; exact c101
  have a122 : ∀ i, i < 122 → PX g hx u hy v fw H i := al_s a121 b121
  have b122 : PX g hx u hy v fw H 122 := by unfold PX; rw [xE_f 122 30 36 rfl rfl]; exact c105
  have a123 : ∀ i, i < 123 → PX g hx u hy v fw H i := al_s a122 b122
  have b123 : PX g hx u hy v fw H 123 := by unfold PX; rw [xE_f 123 30 37 rfl rfl]; exact c106
  have a124 : ∀ i, i < 124 → PX g hx u hy v fw H i := al_s a123 b123
  have b124 : PX g hx u hy v fw H 124 := by unfold PX; rw [xE_f 124 30 38 rfl rfl]; exact c107
  have a125 : ∀ i, i < 125 → PX g hx u hy v fw H i := al_s a124 b124
  have b125 : PX g hx u hy v fw H 125 := by unfold PX; rw [xE_f 125 30 39 rfl rfl]; exact c108
  have a126 : ∀ i, i < 126 → PX g hx u hy v fw H i := al_s a125 b125
  have b126 : PX g hx u hy v fw H 126 := by unfold PX; rw [xE_f 126 30 40 rfl rfl]; exact c112
  have a127 : ∀ i, i < 127 → PX g hx u hy v fw H i := al_s a126 b126
  have b127 : PX g hx u hy v fw H 127 := by unfold PX; rw [xE_f 127 30 41 rfl rfl]; exact c113
  have a128 : ∀ i, i < 128 → PX g hx u hy v fw H i := al_s a127 b127
  have b128 : PX g hx u hy v fw H 128 := by unfold PX; rw [xE_f 128 30 42 rfl rfl]; exact c114
  have a129 : ∀ i, i < 129 → PX g hx u hy v fw H i := al_s a128 b128
  have b129 : PX g hx u hy v fw H 129 := by unfold PX; rw [xE_f 129 30 43 rfl rfl]; exact c115
  have a130 : ∀ i, i < 130 → PX g hx u hy v fw H i := al_s a129 b129
  have b130 : PX g hx u hy v fw H 130 := by unfold PX; rw [xE_f 130 30 44 rfl rfl]; exact c119
  have a131 : ∀ i, i < 131 → PX g hx u hy v fw H i := al_s a130 b130
  have b131 : PX g hx u hy v fw H 131 := by unfold PX; rw [xE_f 131 30 45 rfl rfl]; exact c120
  have a132 : ∀ i, i < 132 → PX g hx u hy v fw H i := al_s a131 b131
  have b132 : PX g hx u hy v fw H 132 := by unfold PX; rw [xE_f 132 30 46 rfl rfl]; exact c121
  have a133 : ∀ i, i < 133 → PX g hx u hy v fw H i := al_s a132 b132
  have b133 : PX g hx u hy v fw H 133 := by unfold PX; rw [xE_f 133 30 47 rfl rfl]; exact c122
  have a134 : ∀ i, i < 134 → PX g hx u hy v fw H i := al_s a133 b133
  have b134 : PX g hx u hy v fw H 134 := by unfold PX; rw [xE_f 134 30 48 rfl rfl]; exact c126
  have a135 : ∀ i, i < 135 → PX g hx u hy v fw H i := al_s a134 b134
  have b135 : PX g hx u hy v fw H 135 := by unfold PX; rw [xE_f 135 30 49 rfl rfl]; exact c127
  have a136 : ∀ i, i < 136 → PX g hx u hy v fw H i := al_s a135 b135
  have b136 : PX g hx u hy v fw H 136 := by unfold PX; rw [xE_f 136 30 50 rfl rfl]; exact c128
  have a137 : ∀ i, i < 137 → PX g hx u hy v fw H i := al_s a136 b136
  have b137 : PX g hx u hy v fw H 137 := by unfold PX; rw [xE_f 137 30 51 rfl rfl]; exact c129
  have a138 : ∀ i, i < 138 → PX g hx u hy v fw H i := al_s a137 b137
  exact a138
theorem cvX {g : Geo} {hx : Nat} {u : Nat → Nat} {fw : Nat → Int32} {H : Heap} (hy : Nat) (v : Nat → Nat) (hP : va_P g.1 clz (wX10 g hx u fw) H) : va_P g.1 clz (xw (mkG g hx u hy v) (mX0 fw)) H := by
  have a := cvX_138 hy v hP
  intro k q hq
  by_cases hk : k < 138
  · rw [xw_at hk] at hq
    cases hq
    exact a k hk
  · rw [xw_out hk] at hq
    cases hq
set_option maxRecDepth 100000 in
theorem adr_X {g : Geo} {hx : Nat} {u : Nat → Nat} {fw : Nat → Int32} : (wX10 g hx u fw).map Prod.fst = (List.range 138).map (adr hx u) := rfl
theorem pi_lt : ∀ i, i < 138 → piL.getD i 0 < 138 := by decide +kernel
theorem pi_inj : ∀ i, i < 138 → ∀ j, j < 138 → piL.getD i 0 = piL.getD j 0 → i = j := by decide +kernel
theorem adr_at {g : Geo} {hx : Nat} {u : Nat → Nat} {fw : Nat → Int32} {k : Nat} (hk : k < 138) : ∃ e, (wX10 g hx u fw)[k]? = some (adr hx u k, e) := by
  have h : ((wX10 g hx u fw).map Prod.fst)[k]? = some (adr hx u k) := by rw [adr_X]; simp [hk]
  rw [List.getElem?_map] at h
  cases e : (wX10 g hx u fw)[k]? with
  | none => rw [e] at h; cases h
  | some q =>
    rw [e] at h
    obtain ⟨a, b⟩ := q
    have : a = adr hx u k := Option.some.inj h
    exact ⟨b, by rw [this]⟩
