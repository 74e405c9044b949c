/-! the relation of the two memories: T the text's numbers (T 0: whole; T (1+b): bird b; T 6: what is sent), w which World is told -/
abbrev Txt : Type := Nat → Nat → Nat
def EqB (u v : Int32) (m : Nat) : Prop := ∃ t, t < m ∧ u = nI t ∧ v = nI t
/-- the register by a mask -/
def regN (mask : Nat) : Nat → Nat
  | 0 => 31
  | i + 1 => (regN mask i) / 2 + 16 * (((List.range 5).foldl (fun a k => a + (if (regN mask i &&& mask).testBit k then 1 else 0)) 0) % 2)
def fbit (mask i : Nat) : Bool := (regN mask i).testBit 0
/-- whether the chip i by the masks and a delay is 1 -/
def chipB (T : Txt) (d i : Nat) : Bool := fbit (T 0 2) i == fbit (T 0 3) ((i + d) % 31)
/-- a subframe's sixteen bits -/
def parN (e : Nat) : Nat := (List.range 4).foldl (fun a j => 2 * a + ((List.range 8).foldl (fun c k => c + (if (k + 1).testBit j && e.testBit (7 - k) then 1 else 0)) 0) % 2) 0
def frmN (kind value : Nat) : Nat := 45056 + 16 * (64 * kind + value) + parN (64 * kind + value)
/-- the places of what bird b sends -/
def sndL (T : Txt) (b : Nat) : List Nat := (List.range (T 0 1)).filter (fun i => T 6 (3 * i) == b)
def TBb (T : Txt) (b : Nat) : Prop := T (1 + b) 0 < 2 ^ 30 ∧ T (1 + b) 1 < 31 ∧ T (1 + b) 2 < 2 ∧ T (1 + b) 3 < 62 ∧ T (1 + b) 4 < 15 ∧ T (1 + b) 5 < 16 ∧ T (1 + b) 6 < 10 ∧ T (1 + b) 7 < 21 ∧ T (1 + b) 8 < 200 ∧ T (1 + b) 9 = (sndL T b).length ∧ T (1 + b) 10 < 2 ∧ T (1 + b) 11 < 16 ∧ T (1 + b) 12 < 16 ∧ T (1 + b) 13 < 16 ∧ (0 < T (1 + b) 6 ↔ T (1 + b) 2 = 1)
def TB (T : Txt) : Prop := T 0 0 ≤ 5 ∧ T 0 1 ≤ 10 ∧ (1 ≤ T 0 2 ∧ T 0 2 < 32) ∧ (1 ≤ T 0 3 ∧ T 0 3 < 32) ∧ T 0 4 < 100 ∧ T 0 5 < 100000 ∧ (10 ≤ T 0 6 ∧ T 0 6 < 100) ∧ T 0 7 < 2 ∧ T 0 8 < 16 ∧ T 0 9 < 16 ∧ T 0 10 < 16 ∧ T 0 11 < 21 ∧ (∀ b, b < T 0 0 → TBb T b) ∧ ∀ i, i < T 0 1 → T 6 (3 * i) < T 0 0 ∧ T 6 (3 * i + 1) < 4 ∧ T 6 (3 * i + 2) < 64
/-- the class's bird q as the text's bird b -/
def BX (T : Txt) (b q : Nat) (X : Mem) : Prop :=
  (X.1 25 (q) 0) = nI (T (1 + b) 0) ∧ (X.1 25 (q) 1) = nI (T (1 + b) 1) ∧ (X.1 25 (q) 6) = nI (T (1 + b) 6) ∧ (T (1 + b) 2 = 1 → (X.1 25 (q) 3) = nI (T (1 + b) 3) ∧ (X.1 25 (q) 4) = nI (T (1 + b) 4) ∧ (X.1 25 (q) 5) = nI (T (1 + b) 5)) ∧
  (X.1 25 (q) 7) = nI (T (1 + b) 7) ∧ (X.1 25 (q) 8) = nI (T (1 + b) 8) ∧ (X.1 25 (q) 14) = nI (T (1 + b) 9) ∧ (X.1 25 (q) 9) = nI (T (1 + b) 10) ∧ (T (1 + b) 10 = 1 → (X.1 25 (q) 10) = nI (T (1 + b) 11) ∧ (X.1 25 (q) 11) = nI (T (1 + b) 12) ∧ (X.1 25 (q) 12) = nI (T (1 + b) 13)) ∧
  ∀ k i, (sndL T b)[k]? = some i → (X.1 26 (q) (k)) = nI (frmN (T 6 (3 * i + 1)) (T 6 (3 * i + 2)))
def CodeX (T : Txt) (b q : Nat) (X : Mem) : Prop := ∃ cv, cv < 2 ^ 31 ∧ (X.1 25 (q) 2) = nI cv ∧ ∀ i, i < 31 → cv.testBit i = chipB T (T (1 + b) 1) i
def WXw (T : Txt) (w : Nat) (X : Mem) : Prop :=
  (X.1 23 (w) 1) = nI (T 0 0) ∧ (X.1 23 (w) 2) = nI (T 0 1) ∧ (X.1 23 (w) 3) = nI (T 0 2) ∧ (X.1 23 (w) 4) = nI (T 0 3) ∧ (X.1 23 (w) 7) = nI (T 0 4) ∧ (X.1 23 (w) 8) = nI (T 0 5) ∧ (X.1 23 (w) 9) = nI (T 0 6) ∧ (X.1 23 (w) 10) = nI (T 0 7) ∧
  (T 0 7 = 1 → (X.1 23 (w) 11) = nI (T 0 8) ∧ (X.1 23 (w) 12) = nI (T 0 9) ∧ (X.1 23 (w) 13) = nI (T 0 10) ∧ (X.1 23 (w) 14) = nI (T 0 11)) ∧ ∀ b, b < T 0 0 → BX T b (5 * w + b) X
def OutX (T : Txt) (w : Nat) (X : Mem) : Prop := (∃ v, v < 2 ^ 31 ∧ (X.1 23 (w) 5) = nI v ∧ ∀ i, i < 31 → v.testBit i = fbit (T 0 2) i) ∧ (∃ v, v < 2 ^ 31 ∧ (X.1 23 (w) 6) = nI v ∧ ∀ i, i < 31 → v.testBit i = fbit (T 0 3) i) ∧ ∀ b, b < T 0 0 → CodeX T b (5 * w + b) X
def TYr (T : Txt) (Y : Mem) : Prop :=
  (Y.1 40 0 11) = nI (T 0 0) ∧ (Y.1 40 0 14) = nI (T 0 1) ∧ (∀ b k, b < T 0 0 → k < 14 → (Y.1 43 (0) (14 * b + k)) = nI (T (1 + b) k)) ∧ (∀ i, i < T 0 1 → ∀ j, j < 3 → (Y.1 44 (0) (3 * i + j)) = nI (T 6 (3 * i + j))) ∧ (∀ k, k < 5 → (Y.1 45 (0) (7 + k)) = nI (T 0 (2 + k))) ∧ (∀ k, k < 5 → (Y.1 45 (0) (12 + k)) = nI (T 0 (7 + k))) ∧ (∀ i, i < 31 → (Y.1 47 (0) (i)) = (if fbit (T 0 2) i then 1 else 0) ∧ (Y.1 47 (0) (31 + i)) = (if fbit (T 0 3) i then 1 else 0))
/-- the reference's numbers between calls -/
def MYr (T : Txt) (Y : Mem) : Prop := (Y.1 40 0 35) = 0 ∧ (Y.1 40 0 22) = nI (T 0 4) ∧ (Y.1 40 0 23) = nI (T 0 5) ∧ (Y.1 40 0 24) = -1 ∧ (∀ k, k < 16 → (Y.1 48 (0) (k)) = stab 4 k) ∧ (∀ k, k < 68 → (Y.1 42 (0) (k)) = nI (([98, 105, 114, 100, 32, 104, 101, 97, 114, 100, 32, 100, 114, 105, 102, 116, 32, 102, 97, 100, 101, 32, 115, 101, 110, 100, 32, 112, 108, 97, 99, 101, 32, 104, 111, 109, 101, 32, 102, 105, 114, 115, 116, 32, 115, 101, 99, 111, 110, 100, 32, 110, 111, 105, 115, 101, 32, 115, 101, 101, 100, 32, 114, 97, 116, 105, 111, 32] : List Nat).getD k 0))
def TapeR (X Y : Mem) : Prop := ∃ n, n ≤ 700 ∧ (X.1 0 (0) 1) = nI n ∧ (Y.1 40 0 1) = nI n ∧ ∀ k, k < n → EqB ((X.1 1 (0) (k))) ((Y.1 41 (0) (k))) 256
def FltR (X Y : Mem) : Prop := (X.1 2 (0) 0) = (Y.1 40 0 4) ∧ (X.1 2 (0) 1) = (Y.1 40 0 5)
def RefR (w : Nat) (X : Mem) : Prop := w < 2 ∧ (X.2.2 0 (0) 3) = some (23 + w) ∧ (X.2.2 0 (0) 4) = some (23 + (1 - w))
/-- a channel c, its cells in the reference from u on, of birds below nb -/
def LogR (X : Mem) (c : Nat) (Y : Mem) (u : Nat) : Prop := ∃ n, n ≤ 64 ∧ (X.1 30 (c) 9) = nI n ∧ (Y.1 54 (0) (u + 8)) = nI n ∧ ∀ i, i < n → (Y.1 54 (0) (u + 9 + i)) = (if ((X.2.1 30 (c) 8)).toBitVec.toNat.testBit (n - 1 - i) then 1 else 0)
/-- the next period, no less than the bits that there are -/
def NextR (a b l : Int32) : Prop := ∃ t, t < 201 ∧ a = nI t ∧ b = nI t ∧ ∃ n, n ≤ t ∧ l = nI n
/-- weak, below three while it is not lost -/
def WkR (a b l : Int32) : Prop := ∃ t, t < 4 ∧ a = nI t ∧ b = nI t ∧ (l = 0 → t < 3)
theorem WkR.eq {a b l : Int32} (h : WkR a b l) : EqB a b 4 := h.elim (fun t h => ⟨t, h.1, h.2.1, h.2.2.1⟩)
def LostR (a b : Int32) : Prop := (a = -2 ∧ b = 0) ∨ ∃ t, t < 200 ∧ a = nI t ∧ b = nI (t + 1)
def ChR (nb : Nat) (X : Mem) (c : Nat) (Y : Mem) (u : Nat) : Prop :=
  EqB ((X.1 30 (c) 0)) ((Y.1 54 (0) (u))) nb ∧ EqB ((X.1 30 (c) 1)) ((Y.1 54 (0) (u + 1))) 248 ∧ EqB ((X.1 30 (c) 2)) ((Y.1 54 (0) (u + 2))) 15 ∧ EqB ((X.1 30 (c) 3)) ((Y.1 54 (0) (u + 3))) 16 ∧ EqB ((X.1 30 (c) 4)) ((Y.1 54 (0) (u + 4))) (2 ^ 29) ∧ NextR ((X.1 30 (c) 5)) ((Y.1 54 (0) (u + 5))) ((X.1 30 (c) 9)) ∧ WkR ((X.1 30 (c) 6)) ((Y.1 54 (0) (u + 6))) ((Y.1 54 (0) (u + 7))) ∧ LostR ((X.1 30 (c) 7)) ((Y.1 54 (0) (u + 7))) ∧ LogR X c Y u
def RngR (nb b : Nat) (a c : Int32) : Prop := a = c ∧ (a = -1 ∨ ∃ r, r < 401 ∧ a = nI r) ∧ (nb ≤ b → a = -1)
/-- the class's State q and the reference's bank k -/
def StR (nb : Nat) (X : Mem) (q : Nat) (Y : Mem) (k : Nat) : Prop := ∃ n, n ≤ 4 ∧ (X.1 27 (q) 1) = nI n ∧ (Y.1 54 (0) (298 * k + 292)) = nI n ∧ (∀ j, j < n → ChR nb X (4 * q + j) Y (298 * k + 73 * j)) ∧ ∀ b, b < 5 → RngR nb b ((X.1 29 (q) (b))) ((Y.1 54 (0) (298 * k + 293 + b)))
def ImgR (nb : Nat) (X Y : Mem) : Prop := (X.1 0 (0) 9) = (Y.1 40 0 37) ∧ ((X.1 0 (0) 9) = 0 ∨ (X.1 0 (0) 9) = 1) ∧ ((X.1 0 (0) 9) = 1 → StR nb X 1 Y 2)
def PastR (nb : Nat) (X Y : Mem) : Prop := ∃ n v, n ≤ 10 ∧ v < 10 ∧ (X.1 21 (0) 2) = nI n ∧ (Y.1 40 0 36) = nI n ∧ (X.1 21 (0) 1) = nI v ∧ ∀ i, i < n → StR nb X (3 + (v + 10 - i) % 10) Y (3 + (n - 1 - i))
/-- the distances' row: rootN s is the greatest r with r * r at most 16 * s -/
def isRoot (r s : Nat) : Prop := r * r ≤ 16 * s ∧ 16 * s < (r + 1) * (r + 1)
def WaysR (X : Mem) : Prop := ∀ s, s < 676 → ∃ r, isRoot r s ∧ (X.1 20 (0) (s)) = nI r
/-! samples -/
def tabZ (a : Nat) : Int := ([10, 9, 7, 4, 0, -4, -7, -9, -10, -9, -7, -4, 0, 4, 7, 9] : List Int).getD a 0
def angN (sh tu n : Nat) : Nat := (((((sh : Int) - 7) * n) / 8 + tu) % 16).toNat
def startN (T : Txt) (b p : Nat) : Nat := T (1 + b) 3 + (if T (1 + b) 7 = 0 then 0 else p / T (1 + b) 7)
def loudB (T : Txt) (only : Option Nat) (b p : Nat) : Bool := T (1 + b) 2 == 1 && (T (1 + b) 8 == 0 || decide (p < T (1 + b) 8)) && (only == none || only == some b)
def bitN (T : Txt) (b : Nat) (number : Int) : Bool := if number < 0 ∨ T (1 + b) 9 = 0 then false else
  let i := (sndL T b).getD (number.toNat / 16 % T (1 + b) 9) 0
  (frmN (T 6 (3 * i + 1)) (T 6 (3 * i + 2))).testBit (15 - number.toNat % 16)
/-- a sample's factor: strength, chip, bit -/
def byZ (T : Txt) (b p n : Nat) : Int :=
  let pl : Int := (n : Int) - startN T b p
  (T (1 + b) 6 : Int) * (if chipB T (T (1 + b) 1) ((pl % 62).toNat / 2) then 1 else -1) * (if bitN T b (pl / 62) then -1 else 1)
def nxtN (x : Nat) : Nat := (x * 1103515245 + 12345) % 2147483648
def errZ (x k : Nat) : Int := ((x / 65536 % (2 * k + 1) : Nat) : Int) - k
def sumB (f : Nat → Int) : Nat → Int
  | 0 => 0
  | b + 1 => sumB f b + f b
def sreZ (T : Txt) (p noise seed : Nat) (only : Option Nat) (k : Nat) : Int := sumB (fun b => if loudB T only b p then byZ T b p (62 * p + k) * tabZ (angN (T (1 + b) 4) (T (1 + b) 5) (62 * p + k)) else 0) (T 0 0) + errZ (nxtN (seed + 62 * p + k)) noise
def simZ (T : Txt) (p noise seed : Nat) (only : Option Nat) (k : Nat) : Int := sumB (fun b => if loudB T only b p then byZ T b p (62 * p + k) * tabZ ((angN (T (1 + b) 4) (T (1 + b) 5) (62 * p + k) + 12) % 16) else 0) (T 0 0) + errZ (nxtN (nxtN (seed + 62 * p + k))) noise
def iI (z : Int) : Int32 := Int32.ofInt z
def HeardX (T : Txt) (p noise seed : Nat) (only : Option Nat) (X : Mem) : Prop := ∀ k, k < 62 → (X.1 6 (0) (k)) = iI (sreZ T p noise seed only k) ∧ (X.1 7 (0) (k)) = iI (simZ T p noise seed only k)
/-- what the ear holds, if it holds a period, is what is heard there as told -/
def CacheX (T : Txt) (X : Mem) : Prop := (X.1 5 (0) 4) = -1 ∨ ∃ p, p < 200 ∧ (X.1 5 (0) 4) = nI p ∧ HeardX T p (T 0 4) (T 0 5) none X
def Rel (X Y : Mem) : Prop := ∃ (T : Txt) (w : Nat), TB T ∧ RefR w X ∧ WXw T w X ∧ OutX T w X ∧ TYr T Y ∧ MYr T Y ∧ TapeR X Y ∧ FltR X Y ∧ StR (T 0 0) X 0 Y 0 ∧ ImgR (T 0 0) X Y ∧ PastR (T 0 0) X Y ∧ WaysR X ∧ CacheX T X
