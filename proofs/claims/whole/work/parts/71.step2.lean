/-! the reference: a channel followed -/
def FQ (u : Nat) (Y Z : Mem) : Prop := ∀ f i k, (f < 49 ∨ 53 < f) → ¬ (f = 40 ∧ (k = 29 ∨ k = 30 ∨ k = 32)) → ¬ (f = 54 ∧ u ≤ k ∧ k < u + 73) → Z.1 f i k = Y.1 f i k
theorem FQ.tr {u : Nat} {Y Z V : Mem} (h : FQ u Y Z) (h2 : FQ u Z V) : FQ u Y V := fun f i k a b c => (h2 f i k a b c).trans (h f i k a b c)
theorem EY.fq {u : Nat} {Y Z : Mem} (h : EY Y Z) : FQ u Y Z := fun f i k a b _ => h f i k a b
theorem FQ.cy {T : Txt} {u : Nat} {Y Z : Mem} (h1 : TB T) (h : FQ u Y Z) (H : CY T Y) : CY T Z := by
  refine ⟨?_, fun k hk => (h 48 0 k (by omega) (by omega) (by omega)).trans (H.2 k hk)⟩
  refine H.1.ag h1 (fun f k e => h f 0 k ?_ ?_ ?_)
  · unfold kYt at e
    split at e <;> first | omega | exact absurd e (by decide)
  · rintro ⟨rfl, rfl | rfl | rfl⟩ <;> exact absurd e (by decide)
  · rintro ⟨rfl, _⟩; exact Bool.false_ne_true e
theorem FQ.ns {noise seed : Nat} {only : Option Nat} {u : Nat} {Y Z : Mem} (h : FQ u Y Z) (H : NsY noise seed only Y) : NsY noise seed only Z := ⟨(h 40 0 22 (by omega) (by omega) (by omega)).trans H.1, (h 40 0 23 (by omega) (by omega) (by omega)).trans H.2.1, (h 40 0 24 (by omega) (by omega) (by omega)).trans H.2.2⟩
theorem mk_put {kk c k : Nat} (hk : kk < 2) (h : 73 * c + k < 298) {v : Int32} {Y : Mem} (hb : Y.1 40 0 35 = nI kk) {Q : Mem → Prop} (q : Q (sI Y 54 0 (298 * kk + 73 * c + k) v)) : p_X11_put (nI c) (nI k) v Y Q := by
  unfold p_X11_put
  rw [show (73 : Int32) = nI 73 from rfl, pk_mul, nI_add]
  refine mk_lay hk h hb ?_
  rw [← Nat.add_assoc]
  exact q
/-- the reference's channel as numbers g, on the way -/
def RY (u kk : Nat) (Y Z : Mem) (g : Nat → Nat) : Prop := FQ u Y Z ∧ YS g Z u ∧ Z.1 40 0 35 = nI kk
theorem YS.put {g : Nat → Nat} {u k v : Nat} {Z : Mem} (hk : k < 8) (h : YS g Z u) : YS (gU g k v) (sI Z 54 0 (u + k) (nI v)) u := by
  have e8 : gU g k v 8 = g 8 := if_neg (by omega)
  have e9 : gU g k v 9 = g 9 := if_neg (by omega)
  refine ⟨fun j hj => ?_, fun i hi => ?_⟩
  · by_cases y : j = k
    · rw [y, sI_s]; congr 1; exact (if_pos rfl).symm
    · rw [sI_n (by omega), h.1 j hj]; congr 1; exact (if_neg y).symm
  · rw [e8] at hi
    rw [sI_n (by omega), e8, e9]; exact h.2 i hi
theorem RY.put {u kk k v : Nat} {Y Z : Mem} {g : Nat → Nat} (hk : k < 8) (h : RY u kk Y Z g) : RY u kk Y (sI Z 54 0 (u + k) (nI v)) (gU g k v) :=
  ⟨h.1.tr (fun f i j a b c => sI_n (by omega)), h.2.1.put hk, (sI_n (by omega)).trans h.2.2⟩
theorem tb_0 (L : Nat) (b : Bool) : (2 * L + bN b).testBit 0 = b := by
  rw [Nat.testBit_zero]
  cases b
  · exact decide_eq_false (by show ¬ (2 * L + 0) % 2 = 1; omega)
  · exact decide_eq_true (by show (2 * L + 1) % 2 = 1; omega)
theorem tb_s (L : Nat) (b : Bool) (j : Nat) : (2 * L + bN b).testBit (j + 1) = L.testBit j := by
  have hb : bN b < 2 := by cases b <;> decide
  rw [Nat.testBit_succ, show (2 * L + bN b) / 2 = L from by omega]
theorem tb_m (x : Nat) {j : Nat} (hj : j < 64) : (x % 2 ^ 64).testBit j = x.testBit j := by
  rw [Nat.testBit_mod_two_pow, decide_eq_true hj, Bool.true_and]
def Lg (u len L : Nat) (Z : Mem) : Prop := ∀ i, i < len → Z.1 54 0 (u + 9 + i) = bitV (L.testBit (len - 1 - i))
theorem t11_logs55 {kk c n L : Nat} {b : Bool} (hk : kk < 2) (hc : c < 4) (hn : n < 64) {Y : Mem} (hb : Y.1 40 0 35 = nI kk) (hL : ∀ i, i < n → Y.1 54 0 (298 * kk + 73 * c + 9 + i) = bitV (L.testBit (n - i))) (h0 : L.testBit 0 = b) {Q : Mem → Prop} (h : ∀ Z, (∀ f i k, ¬ (f = 54 ∧ 298 * kk + 73 * c + 8 ≤ k ∧ k < 298 * kk + 73 * c + 73) → Z.1 f i k = Y.1 f i k) → Z.1 54 0 (298 * kk + 73 * c + 8) = nI (n + 1) → Lg (298 * kk + 73 * c) (n + 1) L Z → Q Z) : b_X11_logs_55 Q (nI c) (bitV b) (nI n) Y := by
  unfold b_X11_logs_55
  rw [show (9 : Int32) = nI 9 from rfl, nI_add, nI_1]
  refine mk_put hk (by omega) hb ?_
  refine mk_put (k := 8) hk (by omega) (by rw [sI_n (by omega)]; exact hb) ?_
  refine h _ (fun f i k e => by rw [sI_n (by omega), sI_n (by omega)]) sI_s (fun i hi => ?_)
  by_cases y : i = n
  · subst y
    rw [sI_n (by omega), ← Nat.add_assoc, sI_s, show i + 1 - 1 - i = 0 from by omega, h0]
  · rw [sI_n (by omega), sI_n (by omega), hL i (by omega), show n + 1 - 1 - i = n - i from by omega]
theorem t11_shift_l {kk c L : Nat} {b : Bool} (hk : kk < 2) (hc : c < 4) {Y : Mem} (hb : Y.1 40 0 35 = nI kk) (hL : Lg (298 * kk + 73 * c) 64 L Y) {Q : Mem → Prop} (h : ∀ Z, (∀ f i k, ¬ (f = 54 ∧ 298 * kk + 73 * c + 8 ≤ k ∧ k < 298 * kk + 73 * c + 73) → Z.1 f i k = Y.1 f i k) → Z.1 54 0 (298 * kk + 73 * c + 8) = nI 64 → Lg (298 * kk + 73 * c) 64 ((2 * L + bN b) % 2 ^ 64) Z → Q Z) : ∀ (d k : Nat) (Z : Mem), k + d = 64 → 1 ≤ k → (∀ f i j, ¬ (f = 54 ∧ 298 * kk + 73 * c + 9 ≤ j ∧ j < 298 * kk + 73 * c + 73) → Z.1 f i j = Y.1 f i j) → (∀ i, i < k - 1 → Z.1 54 0 (298 * kk + 73 * c + 9 + i) = bitV (L.testBit (62 - i))) → (∀ i, k - 1 ≤ i → i < 64 → Z.1 54 0 (298 * kk + 73 * c + 9 + i) = bitV (L.testBit (63 - i))) → b_X11_logs_17 Q (fun v1 v2 v3 M => b_X11_logs_55 Q v1 v2 v3 M) (d + 1) (nI c) (bitV b) (nI k) Z := by
  intro d
  induction d with
  | zero =>
    intro k Z hk2 h1 h2 h3 h4
    have : k = 64 := by omega
    subst this
    refine ⟨fun _ => ?_, fun z => absurd (by decide) z⟩
    refine t11_logs55 (n := 63) (L := (2 * L + bN b) % 2 ^ 64) hk hc (by decide) ((h2 40 0 35 (by omega)).trans hb) (fun i hi => ?_) ?_ (fun Z' a1 a2 a3 => h Z' (fun f i k e => (a1 f i k e).trans (h2 f i k (by omega))) a2 a3)
    · rw [h3 i (by omega), tb_m _ (by omega), show 63 - i = (62 - i) + 1 from by omega, tb_s]
    · rw [tb_m _ (by decide), tb_0]
  | succ d ih =>
    intro k Z hk2 h1 h2 h3 h4
    refine ⟨fun z => absurd z (by rw [show (64 : Int32) = nI 64 from rfl]; exact nI_ge (by omega) (by omega)), fun _ => ?_⟩
    have zb := (h2 40 0 35 (by omega)).trans hb
    rw [show (9 : Int32) = nI 9 from rfl, nI_add, show (1 : Int32) = nI 1 from rfl, pk_sub (by omega)]
    refine mk_at hk (by omega) zb ?_
    refine mk_put (k := 9 + k - 1) hk (by omega) zb ?_
    rintro x8 rfl
    rw [nI_add]
    have e1 : Z.1 54 0 (298 * kk + 73 * c + (9 + k)) = bitV (L.testBit (63 - k)) := by rw [← Nat.add_assoc]; exact h4 k (by omega) (by omega)
    rw [e1, show 298 * kk + 73 * c + (9 + k - 1) = 298 * kk + 73 * c + 9 + (k - 1) from by omega]
    refine ih (k + 1) _ (by omega) (by omega) (fun f i j e => by rw [sI_n (by omega)]; exact h2 f i j e) (fun i hi => ?_) (fun i hi hi2 => by rw [sI_n (by omega)]; exact h4 i (by omega) hi2)
    by_cases y : i = k - 1
    · rw [y, sI_s, show 62 - (k - 1) = 63 - k from by omega]
    · rw [sI_n (by omega)]; exact h3 i (by omega)
theorem t11_logs {kk c len L : Nat} {b : Bool} (hk : kk < 2) (hc : c < 4) (hlen : len ≤ 64) {Y : Mem} (hb : Y.1 40 0 35 = nI kk) (h8 : Y.1 54 0 (298 * kk + 73 * c + 8) = nI len) (hL : Lg (298 * kk + 73 * c) len L Y) {Q : Mem → Prop} (h : ∀ Z, (∀ f i k, ¬ (f = 54 ∧ 298 * kk + 73 * c + 8 ≤ k ∧ k < 298 * kk + 73 * c + 73) → Z.1 f i k = Y.1 f i k) → Z.1 54 0 (298 * kk + 73 * c + 8) = nI (min 64 (len + 1)) → Lg (298 * kk + 73 * c) (min 64 (len + 1)) ((2 * L + bN b) % 2 ^ 64) Z → Q Z) : p_X11_logs (nI c) (bitV b) Y Q := by
  refine mk_at (j := 8) hk (by omega) hb ?_
  rw [h8]
  refine ⟨fun n => ?_, fun n => ?_⟩
  · have hne : len ≠ 64 := fun y => n (by rw [y]; rfl)
    rw [Nat.min_eq_right (by omega)] at h
    refine t11_logs55 (L := (2 * L + bN b) % 2 ^ 64) hk hc (by omega) hb (fun i hi => ?_) (by rw [tb_m _ (by decide), tb_0]) h
    rw [hL i hi, tb_m _ (by omega), show len - i = (len - 1 - i) + 1 from by omega, tb_s]
  · have he : len = 64 := (nI_eq (a := len) (b := 64) (by omega) (by decide)).mp n
    subst he
    rw [show min 64 (64 + 1) = 64 from rfl] at h
    exact ⟨64, t11_shift_l hk hc hb hL h 63 1 Y rfl (Nat.le_refl _) (fun _ _ _ _ => rfl) (fun i hi => absurd hi (by omega)) (fun i _ hi => hL i hi)⟩
theorem lg_ge {a b : Nat} (ha : a < 2 ^ 63) (hb : b < 2 ^ 63) : 0 ≤ lg_cmp (lN a) (lN b) ↔ b ≤ a := by
  rw [← Int32.not_lt, lg_lt ha hb]; omega
def Sv (T : Txt) (S : Nat → Nat) (st : Nat) (Y : Mem) : Mem := sI (sI Y 40 0 29 (iI (chSi T S st))) 40 0 30 (iI (chSq T S st))
theorem Sv_o {T : Txt} {S : Nat → Nat} {st : Nat} {Y : Mem} {f i k : Nat} (h : ¬ (f = 40 ∧ (k = 29 ∨ k = 30))) : (Sv T S st Y).1 f i k = Y.1 f i k := by
  unfold Sv; rw [sI_n (by omega), sI_n (by omega)]
theorem Sv_ey {T : Txt} {S : Nat → Nat} {st : Nat} {Y : Mem} : EY Y (Sv T S st Y) := fun f i k _ e => Sv_o (by omega)
theorem Sv_29 {T : Txt} {S : Nat → Nat} {st : Nat} {Y : Mem} : (Sv T S st Y).1 40 0 29 = iI (chSi T S st) := by unfold Sv; rw [sI_n (by omega), sI_s]
theorem Sv_30 {T : Txt} {S : Nat → Nat} {st : Nat} {Y : Mem} : (Sv T S st Y).1 40 0 30 = iI (chSq T S st) := by unfold Sv; rw [sI_s]
theorem Sv_U {T : Txt} {S : Nat → Nat} {st p sh tu : Nat} {re im : Nat → Int} {Y : Mem} (h : UY re im p sh tu Y) : UY re im p sh tu (Sv T S st Y) := fun k hk => by rw [Sv_o (by omega), Sv_o (by omega)]; exact h k hk
theorem YS.ey {g : Nat → Nat} {u : Nat} {Y Z : Mem} (h : EY Y Z) (H : YS g Y u) : YS g Z u := ⟨fun k hk => (h 54 0 _ (by omega) (by omega)).trans (H.1 k hk), fun i hi => (h 54 0 _ (by omega) (by omega)).trans (H.2 i hi)⟩
theorem RY.log {u kk len L : Nat} {Y Z Z' : Mem} {g : Nat → Nat} {b : Bool} (hl : g 8 = len) (h9 : g 9 = L) (hlen : len ≤ 64) (h : RY u kk Y Z g) (a1 : ∀ f i k, ¬ (f = 54 ∧ u + 8 ≤ k ∧ k < u + 73) → Z'.1 f i k = Z.1 f i k) (a2 : Z'.1 54 0 (u + 8) = nI (min 64 (len + 1))) (a3 : Lg u (min 64 (len + 1)) ((2 * L + bN b) % 2 ^ 64) Z') : RY u kk Y Z' (gU (gU g 8 (min 64 (len + 1))) 9 ((2 * L + bN b) % 2 ^ 64)) := by
  have e8 : gU (gU g 8 (min 64 (len + 1))) 9 ((2 * L + bN b) % 2 ^ 64) 8 = min 64 (len + 1) := by unfold gU; rw [if_neg (by decide), if_pos rfl]
  have e9 : gU (gU g 8 (min 64 (len + 1))) 9 ((2 * L + bN b) % 2 ^ 64) 9 = (2 * L + bN b) % 2 ^ 64 := by unfold gU; rw [if_pos rfl]
  refine ⟨h.1.tr (fun f i k x y z => a1 f i k (by omega)), ⟨fun k hk => ?_, fun i hi => ?_⟩, (a1 40 0 35 (by omega)).trans h.2.2⟩
  · by_cases y : k = 8
    · subst y; rw [e8]; exact a2
    · rw [a1 54 0 _ (by omega), h.2.1.1 k hk]
      congr 1
      unfold gU
      rw [if_neg (by omega), if_neg y]
  · rw [e8] at hi
    rw [e8, e9]
    exact a3 i hi
theorem YS.congr {g g' : Nat → Nat} {u : Nat} {Y : Mem} (e : ∀ k, k < 10 → g k = g' k) (h : YS g Y u) : YS g' Y u := by
  refine ⟨fun k hk => ?_, fun i hi => ?_⟩
  · rw [← e k (by omega)]; exact h.1 k hk
  · rw [← e 8 (by decide)] at hi
    rw [← e 8 (by decide), ← e 9 (by decide)]; exact h.2 i hi
