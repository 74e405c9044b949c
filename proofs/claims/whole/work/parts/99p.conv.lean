def piL : List Nat := [0, 1, 2, 4, 3, 29, 30, 31, 32, 33, 34, 35, 36, 130, 131, 132, 133, 134, 135, 136, 137, 58, 59, 5, 17, 6, 18, 7, 9, 11, 13, 15, 19, 21, 23, 25, 27, 8, 10, 12, 14, 16, 20, 22, 24, 26, 28, 37, 44, 51, 60, 67, 74, 81, 88, 95, 102, 109, 116, 123, 38, 45, 52, 61, 68, 75, 82, 89, 96, 103, 110, 117, 124, 39, 46, 53, 62, 69, 76, 83, 90, 97, 104, 111, 118, 125, 40, 41, 42, 43, 47, 48, 49, 50, 54, 55, 56, 57, 63, 64, 65, 66, 70, 71, 72, 73, 77, 78, 79, 80, 84, 85, 86, 87, 91, 92, 93, 94, 98, 99, 100, 101, 105, 106, 107, 108, 112, 113, 114, 115, 119, 120, 121, 122, 126, 127, 128, 129]
/-- the address at a place of the class's list -/
def adr (hx : Nat) (u : Nat → Nat) (k : Nat) : Nat := if k = 0 then hx else u (k - 1)
def mkG (g : Geo) (hx : Nat) (u : Nat → Nat) (hy : Nat) (v : Nat → Nat) : Geo := (g.1, fun i => if i < 138 then adr hx u (piL.getD i 0) else if i = 138 then hy else v (i - 139), g.2.2)
/-- the class's numbers at the start -/
def mX0 (fw : Nat → Int32) : Mem := (fun f _ k => if f = 23 then (if k = 3 then 5 else if k = 4 then 29 else if k = 5 then go5 else if k = 6 then go29 else if k = 9 then 15 else 0) else if f = 29 then -1 else if f = 20 then fw k else if f = 2 then (if k = 1 then -1 else 0) else if f = 5 then (if k = 4 then -1 else 0) else 0, fun _ _ _ => 0, fun f _ k => if f = 0 then (if k = 3 then some 23 else if k = 4 then some 24 else none) else if f = 2 then (if k = 2 then some 4 else none) else none)
theorem arrV_congr {cI : ClassId} {N : Nat} {f f' : Nat → Value} (h : ∀ k, k < N → f k = f' k) : arrV cI N f = arrV cI N f' := by
  unfold arrV
  congr 2
  funext j
  exact h j.val j.isLt
theorem atI {D : va_G} {cl : List vw_C} {a n : Nat} {t : ClassId} {f f' : Nat → Int32} {H : Heap} (h : va_at D cl (a, .inl (t, n, .inl f)) H) (hf : ∀ k, k < n → f k = f' k) : va_at D cl (a, .inl (t, n, .inl f')) H := by
  show H[a]? = some (vp_cell t (n, .inl f'))
  rw [vp_cell_i, ← arrV_congr (f := fun j => .int (f j)) (fun k hk => by rw [hf k hk])]
  exact h
theorem atR {D : va_G} {cl : List vw_C} {a n : Nat} {t : ClassId} {f f' : Nat → Option Nat} {H : Heap} (h : va_at D cl (a, .inl (t, n, .inr (.inr (.inr (.inr f))))) H) (hf : ∀ k, k < n → f k = f' k) : va_at D cl (a, .inl (t, n, .inr (.inr (.inr (.inr f'))))) H := by
  have e : ∀ g : Nat → Option Nat, vp_cell t (n, .inr (.inr (.inr (.inr g)))) = arrV t n (fun j => va_rf (g j)) := fun _ => rfl
  show H[a]? = some (vp_cell t (n, .inr (.inr (.inr (.inr f')))))
  rw [e, ← arrV_congr (f := fun j => va_rf (f j)) (fun k hk => by rw [hf k hk]), ← e]
  exact h
theorem al_0 {P : Nat → Prop} : ∀ i, i < 0 → P i := fun _ h => absurd h (Nat.not_lt_zero _)
theorem al_s {P : Nat → Prop} {n : Nat} (h : ∀ i, i < n → P i) (hn : P n) : ∀ i, i < n + 1 → P i := fun i hi => by
  rcases Nat.lt_or_ge i n with z | z
  · exact h i z
  · have : i = n := by omega
    rw [this]; exact hn
def PX (g : Geo) (hx : Nat) (u : Nat → Nat) (hy : Nat) (v : Nat → Nat) (fw : Nat → Int32) (H : Heap) (i : Nat) : Prop := va_at g.1 clz ((mkG g hx u hy v).2.1 i, xE (mkG g hx u hy v) (mX0 fw) i) H
set_option maxHeartbeats 4000000 in
set_option maxRecDepth 100000 in
theorem cvX_23 {g : Geo} {hx : Nat} {u : Nat → Nat} {fw : Nat → Int32} {H : Heap} (hy : Nat) (v : Nat → Nat) (hP : va_P g.1 clz (wX10 g hx u fw) H) : ∀ i, i < 23 → PX g hx u hy v fw H i := by
  have a0 : ∀ i, i < 0 → PX g hx u hy v fw H i := al_0
  have a1 : ∀ i, i < 1 → PX g hx u hy v fw H i := al_s a0 (hP 0 _ rfl)
  have a2 : ∀ i, i < 2 → PX g hx u hy v fw H i := al_s a1 (hP 1 _ rfl)
  have a3 : ∀ i, i < 3 → PX g hx u hy v fw H i := al_s a2 (hP 2 _ rfl)
  have a4 : ∀ i, i < 4 → PX g hx u hy v fw H i := al_s a3 (hP 4 _ rfl)
  have a5 : ∀ i, i < 5 → PX g hx u hy v fw H i := al_s a4 (hP 3 _ rfl)
  have a6 : ∀ i, i < 6 → PX g hx u hy v fw H i := al_s a5 (hP 29 _ rfl)
  have a7 : ∀ i, i < 7 → PX g hx u hy v fw H i := al_s a6 (hP 30 _ rfl)
  have a8 : ∀ i, i < 8 → PX g hx u hy v fw H i := al_s a7 (hP 31 _ rfl)
  have a9 : ∀ i, i < 9 → PX g hx u hy v fw H i := al_s a8 (hP 32 _ rfl)
  have a10 : ∀ i, i < 10 → PX g hx u hy v fw H i := al_s a9 (hP 33 _ rfl)
  have a11 : ∀ i, i < 11 → PX g hx u hy v fw H i := al_s a10 (hP 34 _ rfl)
  have a12 : ∀ i, i < 12 → PX g hx u hy v fw H i := al_s a11 (hP 35 _ rfl)
  have a13 : ∀ i, i < 13 → PX g hx u hy v fw H i := al_s a12 (hP 36 _ rfl)
  have a14 : ∀ i, i < 14 → PX g hx u hy v fw H i := al_s a13 (hP 130 _ rfl)
  have a15 : ∀ i, i < 15 → PX g hx u hy v fw H i := al_s a14 (hP 131 _ rfl)
  have a16 : ∀ i, i < 16 → PX g hx u hy v fw H i := al_s a15 (hP 132 _ rfl)
  have a17 : ∀ i, i < 17 → PX g hx u hy v fw H i := al_s a16 (hP 133 _ rfl)
  have a18 : ∀ i, i < 18 → PX g hx u hy v fw H i := al_s a17 (hP 134 _ rfl)
  have a19 : ∀ i, i < 19 → PX g hx u hy v fw H i := al_s a18 (hP 135 _ rfl)
  have a20 : ∀ i, i < 20 → PX g hx u hy v fw H i := al_s a19 (hP 136 _ rfl)
  have a21 : ∀ i, i < 21 → PX g hx u hy v fw H i := al_s a20 (hP 137 _ rfl)
  have a22 : ∀ i, i < 22 → PX g hx u hy v fw H i := al_s a21 (hP 58 _ rfl)
  have a23 : ∀ i, i < 23 → PX g hx u hy v fw H i := al_s a22 (atR (hP 59 _ rfl) (fun k hk => by rcases (show k = 0 ∨ k = 1 ∨ k = 2 ∨ k = 3 ∨ k = 4 ∨ k = 5 ∨ k = 6 ∨ k = 7 ∨ k = 8 ∨ k = 9 by omega) with rfl | rfl | rfl | rfl | rfl | rfl | rfl | rfl | rfl | rfl <;> rfl))
  exact a23
set_option maxHeartbeats 4000000 in
set_option maxRecDepth 100000 in
theorem cvX_46 {g : Geo} {hx : Nat} {u : Nat → Nat} {fw : Nat → Int32} {H : Heap} (hy : Nat) (v : Nat → Nat) (hP : va_P g.1 clz (wX10 g hx u fw) H) (a23 : ∀ i, i < 23 → PX g hx u hy v fw H i) : ∀ i, i < 46 → PX g hx u hy v fw H i := by
  have a24 : ∀ i, i < 24 → PX g hx u hy v fw H i := al_s a23 (hP 5 _ rfl)
  have a25 : ∀ i, i < 25 → PX g hx u hy v fw H i := al_s a24 (hP 17 _ rfl)
  have a26 : ∀ i, i < 26 → PX g hx u hy v fw H i := al_s a25 (atR (hP 6 _ rfl) (fun k hk => by rcases (show k = 0 ∨ k = 1 ∨ k = 2 ∨ k = 3 ∨ k = 4 by omega) with rfl | rfl | rfl | rfl | rfl <;> rfl))
  have a27 : ∀ i, i < 27 → PX g hx u hy v fw H i := al_s a26 (atR (hP 18 _ rfl) (fun k hk => by rcases (show k = 0 ∨ k = 1 ∨ k = 2 ∨ k = 3 ∨ k = 4 by omega) with rfl | rfl | rfl | rfl | rfl <;> rfl))
  have a28 : ∀ i, i < 28 → PX g hx u hy v fw H i := al_s a27 (hP 7 _ rfl)
  have a29 : ∀ i, i < 29 → PX g hx u hy v fw H i := al_s a28 (hP 9 _ rfl)
  have a30 : ∀ i, i < 30 → PX g hx u hy v fw H i := al_s a29 (hP 11 _ rfl)
  have a31 : ∀ i, i < 31 → PX g hx u hy v fw H i := al_s a30 (hP 13 _ rfl)
  have a32 : ∀ i, i < 32 → PX g hx u hy v fw H i := al_s a31 (hP 15 _ rfl)
  have a33 : ∀ i, i < 33 → PX g hx u hy v fw H i := al_s a32 (hP 19 _ rfl)
  have a34 : ∀ i, i < 34 → PX g hx u hy v fw H i := al_s a33 (hP 21 _ rfl)
  have a35 : ∀ i, i < 35 → PX g hx u hy v fw H i := al_s a34 (hP 23 _ rfl)
  have a36 : ∀ i, i < 36 → PX g hx u hy v fw H i := al_s a35 (hP 25 _ rfl)
  have a37 : ∀ i, i < 37 → PX g hx u hy v fw H i := al_s a36 (hP 27 _ rfl)
  have a38 : ∀ i, i < 38 → PX g hx u hy v fw H i := al_s a37 (hP 8 _ rfl)
  have a39 : ∀ i, i < 39 → PX g hx u hy v fw H i := al_s a38 (hP 10 _ rfl)
  have a40 : ∀ i, i < 40 → PX g hx u hy v fw H i := al_s a39 (hP 12 _ rfl)
  have a41 : ∀ i, i < 41 → PX g hx u hy v fw H i := al_s a40 (hP 14 _ rfl)
  have a42 : ∀ i, i < 42 → PX g hx u hy v fw H i := al_s a41 (hP 16 _ rfl)
  have a43 : ∀ i, i < 43 → PX g hx u hy v fw H i := al_s a42 (hP 20 _ rfl)
  have a44 : ∀ i, i < 44 → PX g hx u hy v fw H i := al_s a43 (hP 22 _ rfl)
  have a45 : ∀ i, i < 45 → PX g hx u hy v fw H i := al_s a44 (hP 24 _ rfl)
  have a46 : ∀ i, i < 46 → PX g hx u hy v fw H i := al_s a45 (hP 26 _ rfl)
  exact a46
set_option maxHeartbeats 4000000 in
set_option maxRecDepth 100000 in
theorem cvX_69 {g : Geo} {hx : Nat} {u : Nat → Nat} {fw : Nat → Int32} {H : Heap} (hy : Nat) (v : Nat → Nat) (hP : va_P g.1 clz (wX10 g hx u fw) H) (a46 : ∀ i, i < 46 → PX g hx u hy v fw H i) : ∀ i, i < 69 → PX g hx u hy v fw H i := by
  have a47 : ∀ i, i < 47 → PX g hx u hy v fw H i := al_s a46 (hP 28 _ rfl)
  have a48 : ∀ i, i < 48 → PX g hx u hy v fw H i := al_s a47 (hP 37 _ rfl)
  have a49 : ∀ i, i < 49 → PX g hx u hy v fw H i := al_s a48 (hP 44 _ rfl)
  have a50 : ∀ i, i < 50 → PX g hx u hy v fw H i := al_s a49 (hP 51 _ rfl)
  have a51 : ∀ i, i < 51 → PX g hx u hy v fw H i := al_s a50 (hP 60 _ rfl)
  have a52 : ∀ i, i < 52 → PX g hx u hy v fw H i := al_s a51 (hP 67 _ rfl)
  have a53 : ∀ i, i < 53 → PX g hx u hy v fw H i := al_s a52 (hP 74 _ rfl)
  have a54 : ∀ i, i < 54 → PX g hx u hy v fw H i := al_s a53 (hP 81 _ rfl)
  have a55 : ∀ i, i < 55 → PX g hx u hy v fw H i := al_s a54 (hP 88 _ rfl)
  have a56 : ∀ i, i < 56 → PX g hx u hy v fw H i := al_s a55 (hP 95 _ rfl)
  have a57 : ∀ i, i < 57 → PX g hx u hy v fw H i := al_s a56 (hP 102 _ rfl)
  have a58 : ∀ i, i < 58 → PX g hx u hy v fw H i := al_s a57 (hP 109 _ rfl)
  have a59 : ∀ i, i < 59 → PX g hx u hy v fw H i := al_s a58 (hP 116 _ rfl)
  have a60 : ∀ i, i < 60 → PX g hx u hy v fw H i := al_s a59 (hP 123 _ rfl)
  have a61 : ∀ i, i < 61 → PX g hx u hy v fw H i := al_s a60 (atR (hP 38 _ rfl) (fun k hk => by rcases (show k = 0 ∨ k = 1 ∨ k = 2 ∨ k = 3 by omega) with rfl | rfl | rfl | rfl <;> rfl))
  have a62 : ∀ i, i < 62 → PX g hx u hy v fw H i := al_s a61 (atR (hP 45 _ rfl) (fun k hk => by rcases (show k = 0 ∨ k = 1 ∨ k = 2 ∨ k = 3 by omega) with rfl | rfl | rfl | rfl <;> rfl))
  have a63 : ∀ i, i < 63 → PX g hx u hy v fw H i := al_s a62 (atR (hP 52 _ rfl) (fun k hk => by rcases (show k = 0 ∨ k = 1 ∨ k = 2 ∨ k = 3 by omega) with rfl | rfl | rfl | rfl <;> rfl))
  have a64 : ∀ i, i < 64 → PX g hx u hy v fw H i := al_s a63 (atR (hP 61 _ rfl) (fun k hk => by rcases (show k = 0 ∨ k = 1 ∨ k = 2 ∨ k = 3 by omega) with rfl | rfl | rfl | rfl <;> rfl))
  have a65 : ∀ i, i < 65 → PX g hx u hy v fw H i := al_s a64 (atR (hP 68 _ rfl) (fun k hk => by rcases (show k = 0 ∨ k = 1 ∨ k = 2 ∨ k = 3 by omega) with rfl | rfl | rfl | rfl <;> rfl))
  have a66 : ∀ i, i < 66 → PX g hx u hy v fw H i := al_s a65 (atR (hP 75 _ rfl) (fun k hk => by rcases (show k = 0 ∨ k = 1 ∨ k = 2 ∨ k = 3 by omega) with rfl | rfl | rfl | rfl <;> rfl))
  have a67 : ∀ i, i < 67 → PX g hx u hy v fw H i := al_s a66 (atR (hP 82 _ rfl) (fun k hk => by rcases (show k = 0 ∨ k = 1 ∨ k = 2 ∨ k = 3 by omega) with rfl | rfl | rfl | rfl <;> rfl))
  have a68 : ∀ i, i < 68 → PX g hx u hy v fw H i := al_s a67 (atR (hP 89 _ rfl) (fun k hk => by rcases (show k = 0 ∨ k = 1 ∨ k = 2 ∨ k = 3 by omega) with rfl | rfl | rfl | rfl <;> rfl))
  have a69 : ∀ i, i < 69 → PX g hx u hy v fw H i := al_s a68 (atR (hP 96 _ rfl) (fun k hk => by rcases (show k = 0 ∨ k = 1 ∨ k = 2 ∨ k = 3 by omega) with rfl | rfl | rfl | rfl <;> rfl))
  exact a69
set_option maxHeartbeats 4000000 in
set_option maxRecDepth 100000 in
theorem cvX_92 {g : Geo} {hx : Nat} {u : Nat → Nat} {fw : Nat → Int32} {H : Heap} (hy : Nat) (v : Nat → Nat) (hP : va_P g.1 clz (wX10 g hx u fw) H) (a69 : ∀ i, i < 69 → PX g hx u hy v fw H i) : ∀ i, i < 92 → PX g hx u hy v fw H i := by
  have a70 : ∀ i, i < 70 → PX g hx u hy v fw H i := al_s a69 (atR (hP 103 _ rfl) (fun k hk => by rcases (show k = 0 ∨ k = 1 ∨ k = 2 ∨ k = 3 by omega) with rfl | rfl | rfl | rfl <;> rfl))
  have a71 : ∀ i, i < 71 → PX g hx u hy v fw H i := al_s a70 (atR (hP 110 _ rfl) (fun k hk => by rcases (show k = 0 ∨ k = 1 ∨ k = 2 ∨ k = 3 by omega) with rfl | rfl | rfl | rfl <;> rfl))
  have a72 : ∀ i, i < 72 → PX g hx u hy v fw H i := al_s a71 (atR (hP 117 _ rfl) (fun k hk => by rcases (show k = 0 ∨ k = 1 ∨ k = 2 ∨ k = 3 by omega) with rfl | rfl | rfl | rfl <;> rfl))
  have a73 : ∀ i, i < 73 → PX g hx u hy v fw H i := al_s a72 (atR (hP 124 _ rfl) (fun k hk => by rcases (show k = 0 ∨ k = 1 ∨ k = 2 ∨ k = 3 by omega) with rfl | rfl | rfl | rfl <;> rfl))
  have a74 : ∀ i, i < 74 → PX g hx u hy v fw H i := al_s a73 (atI (hP 39 _ rfl) (fun k hk => by rcases (show k = 0 ∨ k = 1 ∨ k = 2 ∨ k = 3 ∨ k = 4 by omega) with rfl | rfl | rfl | rfl | rfl <;> rfl))
  have a75 : ∀ i, i < 75 → PX g hx u hy v fw H i := al_s a74 (atI (hP 46 _ rfl) (fun k hk => by rcases (show k = 0 ∨ k = 1 ∨ k = 2 ∨ k = 3 ∨ k = 4 by omega) with rfl | rfl | rfl | rfl | rfl <;> rfl))
  have a76 : ∀ i, i < 76 → PX g hx u hy v fw H i := al_s a75 (atI (hP 53 _ rfl) (fun k hk => by rcases (show k = 0 ∨ k = 1 ∨ k = 2 ∨ k = 3 ∨ k = 4 by omega) with rfl | rfl | rfl | rfl | rfl <;> rfl))
  have a77 : ∀ i, i < 77 → PX g hx u hy v fw H i := al_s a76 (atI (hP 62 _ rfl) (fun k hk => by rcases (show k = 0 ∨ k = 1 ∨ k = 2 ∨ k = 3 ∨ k = 4 by omega) with rfl | rfl | rfl | rfl | rfl <;> rfl))
  have a78 : ∀ i, i < 78 → PX g hx u hy v fw H i := al_s a77 (atI (hP 69 _ rfl) (fun k hk => by rcases (show k = 0 ∨ k = 1 ∨ k = 2 ∨ k = 3 ∨ k = 4 by omega) with rfl | rfl | rfl | rfl | rfl <;> rfl))
  have a79 : ∀ i, i < 79 → PX g hx u hy v fw H i := al_s a78 (atI (hP 76 _ rfl) (fun k hk => by rcases (show k = 0 ∨ k = 1 ∨ k = 2 ∨ k = 3 ∨ k = 4 by omega) with rfl | rfl | rfl | rfl | rfl <;> rfl))
  have a80 : ∀ i, i < 80 → PX g hx u hy v fw H i := al_s a79 (atI (hP 83 _ rfl) (fun k hk => by rcases (show k = 0 ∨ k = 1 ∨ k = 2 ∨ k = 3 ∨ k = 4 by omega) with rfl | rfl | rfl | rfl | rfl <;> rfl))
  have a81 : ∀ i, i < 81 → PX g hx u hy v fw H i := al_s a80 (atI (hP 90 _ rfl) (fun k hk => by rcases (show k = 0 ∨ k = 1 ∨ k = 2 ∨ k = 3 ∨ k = 4 by omega) with rfl | rfl | rfl | rfl | rfl <;> rfl))
  have a82 : ∀ i, i < 82 → PX g hx u hy v fw H i := al_s a81 (atI (hP 97 _ rfl) (fun k hk => by rcases (show k = 0 ∨ k = 1 ∨ k = 2 ∨ k = 3 ∨ k = 4 by omega) with rfl | rfl | rfl | rfl | rfl <;> rfl))
  have a83 : ∀ i, i < 83 → PX g hx u hy v fw H i := al_s a82 (atI (hP 104 _ rfl) (fun k hk => by rcases (show k = 0 ∨ k = 1 ∨ k = 2 ∨ k = 3 ∨ k = 4 by omega) with rfl | rfl | rfl | rfl | rfl <;> rfl))
  have a84 : ∀ i, i < 84 → PX g hx u hy v fw H i := al_s a83 (atI (hP 111 _ rfl) (fun k hk => by rcases (show k = 0 ∨ k = 1 ∨ k = 2 ∨ k = 3 ∨ k = 4 by omega) with rfl | rfl | rfl | rfl | rfl <;> rfl))
  have a85 : ∀ i, i < 85 → PX g hx u hy v fw H i := al_s a84 (atI (hP 118 _ rfl) (fun k hk => by rcases (show k = 0 ∨ k = 1 ∨ k = 2 ∨ k = 3 ∨ k = 4 by omega) with rfl | rfl | rfl | rfl | rfl <;> rfl))
  have a86 : ∀ i, i < 86 → PX g hx u hy v fw H i := al_s a85 (atI (hP 125 _ rfl) (fun k hk => by rcases (show k = 0 ∨ k = 1 ∨ k = 2 ∨ k = 3 ∨ k = 4 by omega) with rfl | rfl | rfl | rfl | rfl <;> rfl))
  have a87 : ∀ i, i < 87 → PX g hx u hy v fw H i := al_s a86 (hP 40 _ rfl)
  have a88 : ∀ i, i < 88 → PX g hx u hy v fw H i := al_s a87 (hP 41 _ rfl)
  have a89 : ∀ i, i < 89 → PX g hx u hy v fw H i := al_s a88 (hP 42 _ rfl)
  have a90 : ∀ i, i < 90 → PX g hx u hy v fw H i := al_s a89 (hP 43 _ rfl)
  have a91 : ∀ i, i < 91 → PX g hx u hy v fw H i := al_s a90 (hP 47 _ rfl)
  have a92 : ∀ i, i < 92 → PX g hx u hy v fw H i := al_s a91 (hP 48 _ rfl)
  exact a92
set_option maxHeartbeats 4000000 in
set_option maxRecDepth 100000 in
theorem cvX_115 {g : Geo} {hx : Nat} {u : Nat → Nat} {fw : Nat → Int32} {H : Heap} (hy : Nat) (v : Nat → Nat) (hP : va_P g.1 clz (wX10 g hx u fw) H) (a92 : ∀ i, i < 92 → PX g hx u hy v fw H i) : ∀ i, i < 115 → PX g hx u hy v fw H i := by
  have a93 : ∀ i, i < 93 → PX g hx u hy v fw H i := al_s a92 (hP 49 _ rfl)
  have a94 : ∀ i, i < 94 → PX g hx u hy v fw H i := al_s a93 (hP 50 _ rfl)
  have a95 : ∀ i, i < 95 → PX g hx u hy v fw H i := al_s a94 (hP 54 _ rfl)
  have a96 : ∀ i, i < 96 → PX g hx u hy v fw H i := al_s a95 (hP 55 _ rfl)
  have a97 : ∀ i, i < 97 → PX g hx u hy v fw H i := al_s a96 (hP 56 _ rfl)
  have a98 : ∀ i, i < 98 → PX g hx u hy v fw H i := al_s a97 (hP 57 _ rfl)
  have a99 : ∀ i, i < 99 → PX g hx u hy v fw H i := al_s a98 (hP 63 _ rfl)
  have a100 : ∀ i, i < 100 → PX g hx u hy v fw H i := al_s a99 (hP 64 _ rfl)
  have a101 : ∀ i, i < 101 → PX g hx u hy v fw H i := al_s a100 (hP 65 _ rfl)
  have a102 : ∀ i, i < 102 → PX g hx u hy v fw H i := al_s a101 (hP 66 _ rfl)
  have a103 : ∀ i, i < 103 → PX g hx u hy v fw H i := al_s a102 (hP 70 _ rfl)
  have a104 : ∀ i, i < 104 → PX g hx u hy v fw H i := al_s a103 (hP 71 _ rfl)
  have a105 : ∀ i, i < 105 → PX g hx u hy v fw H i := al_s a104 (hP 72 _ rfl)
  have a106 : ∀ i, i < 106 → PX g hx u hy v fw H i := al_s a105 (hP 73 _ rfl)
  have a107 : ∀ i, i < 107 → PX g hx u hy v fw H i := al_s a106 (hP 77 _ rfl)
  have a108 : ∀ i, i < 108 → PX g hx u hy v fw H i := al_s a107 (hP 78 _ rfl)
  have a109 : ∀ i, i < 109 → PX g hx u hy v fw H i := al_s a108 (hP 79 _ rfl)
  have a110 : ∀ i, i < 110 → PX g hx u hy v fw H i := al_s a109 (hP 80 _ rfl)
  have a111 : ∀ i, i < 111 → PX g hx u hy v fw H i := al_s a110 (hP 84 _ rfl)
  have a112 : ∀ i, i < 112 → PX g hx u hy v fw H i := al_s a111 (hP 85 _ rfl)
  have a113 : ∀ i, i < 113 → PX g hx u hy v fw H i := al_s a112 (hP 86 _ rfl)
  have a114 : ∀ i, i < 114 → PX g hx u hy v fw H i := al_s a113 (hP 87 _ rfl)
  have a115 : ∀ i, i < 115 → PX g hx u hy v fw H i := al_s a114 (hP 91 _ rfl)
  exact a115
set_option maxHeartbeats 4000000 in
set_option maxRecDepth 100000 in
theorem cvX_138 {g : Geo} {hx : Nat} {u : Nat → Nat} {fw : Nat → Int32} {H : Heap} (hy : Nat) (v : Nat → Nat) (hP : va_P g.1 clz (wX10 g hx u fw) H) (a115 : ∀ i, i < 115 → PX g hx u hy v fw H i) : ∀ i, i < 138 → PX g hx u hy v fw H i := by
  have a116 : ∀ i, i < 116 → PX g hx u hy v fw H i := al_s a115 (hP 92 _ rfl)
  have a117 : ∀ i, i < 117 → PX g hx u hy v fw H i := al_s a116 (hP 93 _ rfl)
  have a118 : ∀ i, i < 118 → PX g hx u hy v fw H i := al_s a117 (hP 94 _ rfl)
  have a119 : ∀ i, i < 119 → PX g hx u hy v fw H i := al_s a118 (hP 98 _ rfl)
  have a120 : ∀ i, i < 120 → PX g hx u hy v fw H i := al_s a119 (hP 99 _ rfl)
  have a121 : ∀ i, i < 121 → PX g hx u hy v fw H i := al_s a120 (hP 100 _ rfl)
  have a122 : ∀ i, i < 122 → PX g hx u hy v fw H i := al_s a121 (hP 101 _ rfl)
  have a123 : ∀ i, i < 123 → PX g hx u hy v fw H i := al_s a122 (hP 105 _ rfl)
  have a124 : ∀ i, i < 124 → PX g hx u hy v fw H i := al_s a123 (hP 106 _ rfl)
  have a125 : ∀ i, i < 125 → PX g hx u hy v fw H i := al_s a124 (hP 107 _ rfl)
  have a126 : ∀ i, i < 126 → PX g hx u hy v fw H i := al_s a125 (hP 108 _ rfl)
  have a127 : ∀ i, i < 127 → PX g hx u hy v fw H i := al_s a126 (hP 112 _ rfl)
  have a128 : ∀ i, i < 128 → PX g hx u hy v fw H i := al_s a127 (hP 113 _ rfl)
  have a129 : ∀ i, i < 129 → PX g hx u hy v fw H i := al_s a128 (hP 114 _ rfl)
  have a130 : ∀ i, i < 130 → PX g hx u hy v fw H i := al_s a129 (hP 115 _ rfl)
  have a131 : ∀ i, i < 131 → PX g hx u hy v fw H i := al_s a130 (hP 119 _ rfl)
  have a132 : ∀ i, i < 132 → PX g hx u hy v fw H i := al_s a131 (hP 120 _ rfl)
  have a133 : ∀ i, i < 133 → PX g hx u hy v fw H i := al_s a132 (hP 121 _ rfl)
  have a134 : ∀ i, i < 134 → PX g hx u hy v fw H i := al_s a133 (hP 122 _ rfl)
  have a135 : ∀ i, i < 135 → PX g hx u hy v fw H i := al_s a134 (hP 126 _ rfl)
  have a136 : ∀ i, i < 136 → PX g hx u hy v fw H i := al_s a135 (hP 127 _ rfl)
  have a137 : ∀ i, i < 137 → PX g hx u hy v fw H i := al_s a136 (hP 128 _ rfl)
  have a138 : ∀ i, i < 138 → PX g hx u hy v fw H i := al_s a137 (hP 129 _ rfl)
  exact a138
theorem cvX {g : Geo} {hx : Nat} {u : Nat → Nat} {fw : Nat → Int32} {H : Heap} (hy : Nat) (v : Nat → Nat) (hP : va_P g.1 clz (wX10 g hx u fw) H) : va_P g.1 clz (xw (mkG g hx u hy v) (mX0 fw)) H := by
  have a := cvX_138 hy v hP (cvX_115 hy v hP (cvX_92 hy v hP (cvX_69 hy v hP (cvX_46 hy v hP (cvX_23 hy v hP)))))
  intro k q hq
  by_cases hk : k < 138
  · rw [xw_at hk] at hq
    cases hq
    exact a k hk
  · rw [xw_out hk] at hq
    cases hq
set_option maxRecDepth 100000 in
theorem adr_X {g : Geo} {hx : Nat} {u : Nat → Nat} {fw : Nat → Int32} : (wX10 g hx u fw).map Prod.fst = (List.range 138).map (adr hx u) := rfl
theorem pi_lt : ∀ i, i < 138 → piL.getD i 0 < 138 := by decide +kernel
theorem pi_inj : ∀ i, i < 138 → ∀ j, j < 138 → piL.getD i 0 = piL.getD j 0 → i = j := by decide +kernel
theorem adr_at {g : Geo} {hx : Nat} {u : Nat → Nat} {fw : Nat → Int32} {k : Nat} (hk : k < 138) : ∃ e, (wX10 g hx u fw)[k]? = some (adr hx u k, e) := by
  have h : ((wX10 g hx u fw).map Prod.fst)[k]? = some (adr hx u k) := by rw [adr_X]; simp [hk]
  rw [List.getElem?_map] at h
  cases e : (wX10 g hx u fw)[k]? with
  | none => rw [e] at h; cases h
  | some q =>
    rw [e] at h
    obtain ⟨a, b⟩ := q
    have : a = adr hx u k := Option.some.inj h
    exact ⟨b, by rw [this]⟩
