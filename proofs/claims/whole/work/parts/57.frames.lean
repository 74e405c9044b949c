/-! the bank by its number; frames: ops 25, 26, 28 -/
theorem mk_of {k u : Nat} (hk : k < 2) (hu : u < 298) {Y : Mem} (hb : Y.1 40 0 35 = nI k) {Q : Int32 → Mem → Prop} (h : Q (Y.1 54 0 (298 * k + u)) Y) : p_X11_of (nI u) Y Q := by
  show vp_in ((298 : Int32) * Y.1 40 0 35 + nI u) 3874 ∧ Q (Y.1 54 0 ((298 : Int32) * Y.1 40 0 35 + nI u).toNatClampNeg) Y
  rw [hb, show (298 : Int32) = nI 298 from rfl, pk_mul, nI_add, nI_clamp (by omega)]
  exact ⟨vp_in_nI (by omega) (by omega), h⟩
theorem mk_lay {k u : Nat} (hk : k < 2) (hu : u < 298) {v : Int32} {Y : Mem} (hb : Y.1 40 0 35 = nI k) {Q : Mem → Prop} (h : Q (sI Y 54 0 (298 * k + u) v)) : p_X11_lay (nI u) v Y Q := by
  show vp_in ((298 : Int32) * Y.1 40 0 35 + nI u) 3874 ∧ ∀ M1, M1 = sI Y 54 0 ((298 : Int32) * Y.1 40 0 35 + nI u).toNatClampNeg v → Q M1
  rw [hb, show (298 : Int32) = nI 298 from rfl, pk_mul, nI_add, nI_clamp (by omega)]
  exact ⟨vp_in_nI (by omega) (by omega), fun M1 e => by rw [e]; exact h⟩
theorem mk_at {k c j : Nat} (hk : k < 2) (hcj : 73 * c + j < 292) {Y : Mem} (hb : Y.1 40 0 35 = nI k) {Q : Int32 → Mem → Prop} (h : Q (Y.1 54 0 (298 * k + 73 * c + j)) Y) : p_X11_at (nI c) (nI j) Y Q := by
  show p_X11_of ((73 : Int32) * nI c + nI j) Y (fun r1 M1 => Q r1 M1)
  rw [show (73 : Int32) = nI 73 from rfl, pk_mul, nI_add]
  refine mk_of hk (by omega) hb ?_
  rw [← Nat.add_assoc]
  exact h
/-- the sixteen bits from place p on of a log of n bits -/
def wrd (L n p : Nat) : Nat := L / 2 ^ (n - 16 - p) % 65536
theorem wrd_lt (L n p : Nat) : wrd L n p < 65536 := Nat.mod_lt _ (by decide)
def ovr (w : Nat) : Bool := decide (w / 4096 = 4)
def upr (w : Nat) : Nat := if w / 4096 = 4 then 65535 - w else w
def isF (w : Nat) : Bool := decide (upr w / 4096 = 11)
def rgt (w : Nat) : Bool := isF w && decide (parN (upr w / 16 % 256) = upr w % 16)
theorem upr_lt {w : Nat} (h : w < 65536) : upr w < 65536 := by unfold upr; split <;> omega
def frF (L n : Nat) : Nat → Nat → List Nat × Nat
  | 0, _ => ([], 0)
  | f + 1, p => if n < p + 16 then ([], 0) else if rgt (wrd L n p) then (p :: (frF L n f (p + 16)).1, (frF L n f (p + 16)).2) else ((frF L n f (p + 1)).1, (if isF (wrd L n p) then 1 else 0) + (frF L n f (p + 1)).2)
theorem frF_len {L n : Nat} : ∀ f p, 16 * (frF L n f p).1.length + p ≤ max n p
  | 0, p => by simp only [frF, List.length_nil]; omega
  | f + 1, p => by
    rw [frF]
    split
    · simp only [List.length_nil]; omega
    · split
      · have := @frF_len L n f (p + 16)
        simp only [List.length_cons]; omega
      · have := @frF_len L n f (p + 1)
        simp only; omega
theorem app_some {l : List Nat} {p k q : Nat} (h : (l ++ [p])[k]? = some q) : (k < l.length ∧ l[k]? = some q) ∨ (k = l.length ∧ q = p) := by
  rcases Nat.lt_or_ge k l.length with hk | hk
  · rw [List.getElem?_append_left hk] at h; exact Or.inl ⟨hk, h⟩
  · rw [List.getElem?_append_right hk] at h
    rcases Nat.eq_or_lt_of_le hk with e | e
    · rw [← e, Nat.sub_self] at h
      exact Or.inr ⟨e.symm, by simpa using h.symm⟩
    · rw [List.getElem?_eq_none (by simp only [List.length_singleton]; omega)] at h; cases h
/-- the class's frames so far -/
def FX (L n : Nat) (l : List Nat) (c : Nat) (X Z : Mem) : Prop := Z.2 = X.2 ∧ Z.1 13 0 0 = nI l.length ∧ Z.1 13 0 1 = nI c ∧ (∀ k p, l[k]? = some p → Z.1 14 0 k = nI p ∧ Z.1 15 0 k = nI (upr (wrd L n p)) ∧ Z.1 16 0 k = bitV (ovr (wrd L n p))) ∧ ∀ f i k, (f < 13 ∨ 16 < f) → Z.1 f i k = X.1 f i k
theorem xor_all : ∀ a, a < 64 → ∀ b, b < 64 → (nI (16384 + 64 * a + b) ^^^ 65535) = nI (65535 - (16384 + 64 * a + b)) := by decide +kernel
theorem xor_up {w : Nat} (h : w / 4096 = 4) : (nI w ^^^ 65535) = nI (65535 - w) := by
  have := xor_all ((w - 16384) / 64) (by omega) ((w - 16384) % 64) (by omega)
  rwa [show 16384 + 64 * ((w - 16384) / 64) + (w - 16384) % 64 = w from by omega] at this
theorem t10_word44 {L n p c : Nat} {l : List Nat} {X Z : Mem} (hF : FX L n l c X Z) (hl : l.length < 4) (hi : isF (wrd L n p) = true) {Q : Int32 → Mem → Prop} (h1 : rgt (wrd L n p) = true → ∀ Z', FX L n (l ++ [p]) c X Z' → Q 1 Z') (h0 : rgt (wrd L n p) = false → ∀ Z', FX L n l (c + 1) X Z' → Q 0 Z') : b_X3_readWord_44 Q (nI p) (bitV (ovr (wrd L n p))) (nI (upr (wrd L n p))) Z := by
  have hu := upr_lt (wrd_lt L n p)
  obtain ⟨f1, f2, f3, f4, f5⟩ := hF
  unfold b_X3_readWord_44
  rw [pk_ushrN (by omega) (4 : Int32) 4 (by decide), pk_andN (n := upr (wrd L n p) / 2 ^ 4) (m := 255) (by omega) 8 (by decide), pk_andN (n := upr (wrd L n p)) (m := 15) (by omega) 4 (by decide)]
  refine t10_par ?_
  rw [show (2 : Nat) ^ 4 = 16 from rfl, show (2 : Nat) ^ 8 = 256 from rfl, par10_e _ (Nat.mod_lt _ (by decide))]
  have hp16 : ∀ e, e < 256 → parN e < 16 := by decide +kernel
  have hpl := hp16 (upr (wrd L n p) / 16 % 256) (Nat.mod_lt _ (by decide))
  have hr : rgt (wrd L n p) = decide (parN (upr (wrd L n p) / 16 % 256) = upr (wrd L n p) % 16) := by unfold rgt; rw [hi, Bool.true_and]
  refine ⟨fun z => ⟨fun y => absurd y ?_, fun _ => ?_⟩, fun z => ?_⟩
  · rw [f2, show (4 : Int32) = nI 4 from rfl]; exact nI_ge hl (by omega)
  · have he := (nI_eq (by omega) (by omega)).mp z
    have hr1 : rgt (wrd L n p) = true := by rw [hr, decide_eq_true_eq]; exact he.symm
    rw [f2, nI_clamp (by omega)]
    refine ⟨vp_in_nI hl (by omega), ?_⟩
    rintro M8 rfl
    rw [sI_n (by omega), f2, nI_clamp (by omega)]
    refine ⟨vp_in_nI hl (by omega), ?_⟩
    rintro M9 rfl
    rw [sI_n (by omega), sI_n (by omega), f2, nI_clamp (by omega)]
    refine ⟨vp_in_nI hl (by omega), ?_⟩
    rintro M10 rfl M11 rfl
    refine h1 hr1 _ ⟨f1, ?_, ?_, fun k q hq => ?_, fun f i k hf => ?_⟩
    · rw [sI_s, sI_n (by omega), sI_n (by omega), sI_n (by omega), f2, nI_1, List.length_append]; rfl
    · rw [sI_n (by omega), sI_n (by omega), sI_n (by omega), sI_n (by omega)]; exact f3
    · rcases app_some hq with ⟨hk, hq'⟩ | ⟨rfl, rfl⟩
      · obtain ⟨g1, g2, g3⟩ := f4 k q hq'
        refine ⟨?_, ?_, ?_⟩
        · rw [sI_n (by omega), sI_n (by omega), sI_n (by omega), sI_n (by omega)]; exact g1
        · rw [sI_n (by omega), sI_n (by omega), sI_n (by omega), sI_n (by omega)]; exact g2
        · rw [sI_n (by omega), sI_n (by omega), sI_n (by omega), sI_n (by omega)]; exact g3
      · refine ⟨?_, ?_, ?_⟩
        · rw [sI_n (by omega), sI_n (by omega), sI_n (by omega), sI_s]
        · rw [sI_n (by omega), sI_n (by omega), sI_s]
        · rw [sI_n (by omega), sI_s]
    · rw [sI_n (by omega), sI_n (by omega), sI_n (by omega), sI_n (by omega)]; exact f5 f i k hf
  · have hr0 : rgt (wrd L n p) = false := by
      rw [hr, decide_eq_false_iff_not]
      exact fun y => z (by rw [y])
    rintro M12 rfl
    refine h0 hr0 _ ⟨f1, ?_, ?_, fun k q hq => ?_, fun f i k hf => ?_⟩
    · rw [sI_n (by omega)]; exact f2
    · rw [sI_s, f3, nI_1]
    · obtain ⟨g1, g2, g3⟩ := f4 k q hq
      exact ⟨by rw [sI_n (by omega)]; exact g1, by rw [sI_n (by omega)]; exact g2, by rw [sI_n (by omega)]; exact g3⟩
    · rw [sI_n (by omega)]; exact f5 f i k hf
theorem t10_word {L n p c : Nat} {l : List Nat} {X Z : Mem} (hF : FX L n l c X Z) (hl : l.length < 4) {Q : Int32 → Mem → Prop} (h1 : rgt (wrd L n p) = true → ∀ Z', FX L n (l ++ [p]) c X Z' → Q 1 Z') (h0 : rgt (wrd L n p) = false → ∀ Z', FX L n l (c + if isF (wrd L n p) then 1 else 0) X Z' → Q 0 Z') : p_X3_readWord (nI p) (nI (wrd L n p)) Z Q := by
  have hw := wrd_lt L n p
  have key := @t10_word44 L n p c l X Z hF hl
  rintro x1 rfl
  rw [pk_ushrN (by omega) (12 : Int32) 12 (by decide), show (2 : Nat) ^ 12 = 4096 from rfl]
  have no : isF (wrd L n p) = false → Q 0 Z := fun hi => by
    refine h0 (by unfold rgt; rw [hi]; rfl) Z ?_
    rw [hi]; exact hF
  refine ⟨fun z => ?_, fun z => ⟨fun y => ?_, fun y => no ?_⟩⟩
  · have e := (nI_eq (a := wrd L n p / 4096) (b := 11) (by omega) (by omega)).mp z
    have hu : upr (wrd L n p) = wrd L n p := if_neg (by omega)
    have hi : isF (wrd L n p) = true := by unfold isF; rw [hu, e]; rfl
    have ho : ovr (wrd L n p) = false := by unfold ovr; rw [e]; rfl
    have k := key hi h1 (fun a b => h0 a b |> fun f => by rw [hi] at f; exact f)
    rw [hu, ho] at k
    exact ⟨fun _ => ⟨fun _ => k, fun q => absurd q (by decide)⟩, fun q => absurd (z.symm.trans q) (by decide)⟩
  · have e := (nI_eq (a := wrd L n p / 4096) (b := 4) (by omega) (by omega)).mp y
    have hu : upr (wrd L n p) = 65535 - wrd L n p := if_pos e
    have ho : ovr (wrd L n p) = true := by unfold ovr; rw [e]; rfl
    have hi : isF (wrd L n p) = true := by unfold isF; rw [hu, decide_eq_true_eq]; omega
    have k := key hi h1 (fun a b => h0 a b |> fun f => by rw [hi] at f; exact f)
    rw [hu, ho] at k
    refine ⟨fun q => absurd y q, fun _ => ⟨fun q => absurd rfl q, fun _ => ?_⟩⟩
    rw [xor_up e]; exact k
  · have e1 : wrd L n p / 4096 ≠ 11 := fun q => z (by rw [q]; rfl)
    have e2 : wrd L n p / 4096 ≠ 4 := fun q => y (by rw [q]; rfl)
    unfold isF
    rw [show upr (wrd L n p) = wrd L n p from if_neg e2, decide_eq_false_iff_not]
    exact e1
theorem i32_andk (x : Int64) {m : Int32} (k : Nat) (hk : k ≤ 32) (hm : m.toBitVec.toNat = 2 ^ k - 1) : (x.toInt32 &&& m) = nI (x.toBitVec.toNat % 2 ^ k) := by
  rw [pk_and x.toInt32 k hm]
  congr 1
  have e : x.toInt32.toBitVec.toNat = x.toBitVec.toNat % 2 ^ 32 := by
    show (BitVec.signExtend 32 x.toBitVec).toNat = _
    rw [BitVec.signExtend_eq_setWidth_of_le _ (by decide), BitVec.toNat_setWidth]
  rw [e]
  exact Nat.mod_mod_of_dvd _ (Nat.pow_dvd_pow 2 hk)
theorem t10_read_l {n : Nat} (hn : n ≤ 64) {v : Int64} {X : Mem} {Q : Mem → Prop} : ∀ (f p : Nat) (l : List Nat) (c : Nat) (Z : Mem), n < p + 16 + f → 16 * l.length ≤ p → p ≤ n → FX v.toBitVec.toNat n l c X Z → (∀ Z', FX v.toBitVec.toNat n (l ++ (frF v.toBitVec.toNat n f p).1) (c + (frF v.toBitVec.toNat n f p).2) X Z' → Q Z') → b_X3_read_13 Q (f + 1) v (nI n) (nI p) Z := by
  intro f
  induction f with
  | zero =>
    intro p l c Z hp hl hpn hF h
    refine ⟨fun _ => h Z (by rw [frF, List.append_nil]; exact hF), fun z => absurd ?_ z⟩
    rw [show (16 : Int32) = nI 16 from rfl, nI_add]; exact nI_lt (by omega) (by omega)
  | succ f ih =>
    intro p l c Z hp hl hpn hF h
    have e16 : (nI p + 16 : Int32) = nI (p + 16) := nI_add p 16
    rw [frF] at h
    refine ⟨fun z => ?_, fun z => ?_⟩
    · rw [e16, nI_ltI (by omega) (by omega)] at z
      rw [if_pos z] at h
      exact h Z (by rw [List.append_nil]; exact hF)
    · rw [e16, nI_ltI (by omega) (by omega)] at z
      rw [if_neg z] at h
      rintro x4 rfl
      rw [show (16 : Int32) = nI 16 from rfl, pk_sub (by omega), pk_sub (by omega), i32_andk _ 16 (by decide) (by decide), uW_sk v (by omega)]
      refine t10_word (L := v.toBitVec.toNat) hF (by omega) (fun hr Z' hF' => ⟨fun y => absurd y (by decide), fun _ => ?_⟩) (fun hr Z' hF' => ⟨fun _ => ?_, fun y => absurd rfl y⟩)
      · rintro x7 rfl
        rw [nI_add]
        rw [if_pos hr] at h
        refine ih (p + 16) (l ++ [p]) c Z' (by omega) (by rw [List.length_append, List.length_singleton]; omega) (by omega) hF' (fun Z'' hF'' => h Z'' ?_)
        rw [List.append_assoc] at hF''
        exact hF''
      · rintro x7 rfl
        rw [nI_1]
        rw [if_neg (by rw [hr]; decide)] at h
        refine ih (p + 1) l _ Z' (by omega) (by omega) (by omega) hF' (fun Z'' hF'' => h Z'' ?_)
        rw [Nat.add_assoc] at hF''
        exact hF''
/-- the frames of the class's channel q -/
theorem t10_frames {q n : Nat} (hn : n ≤ 64) {X : Mem} (hl : X.1 30 q 9 = nI n) {Q : Mem → Prop} (h : ∀ Z, FX (X.2.1 30 q 8).toBitVec.toNat n (frF (X.2.1 30 q 8).toBitVec.toNat n (n + 1) 0).1 (frF (X.2.1 30 q 8).toBitVec.toNat n (n + 1) 0).2 X Z → Q Z) : p_X10_readFrames q X Q := by
  unfold p_X10_readFrames
  rw [hl]
  rintro M1 rfl M2 rfl
  refine ⟨n + 2, t10_read_l (X := X) hn (n + 1) 0 [] 0 _ (by omega) (Nat.zero_le _) (Nat.zero_le _) ⟨rfl, ?_, ?_, fun k p hk => by simp at hk, fun f i k hf => ?_⟩ (fun Z' hF => h Z' ?_)⟩
  · rw [sI_n (by omega), sI_s]; rfl
  · rw [sI_s]; rfl
  · rw [sI_n (by omega), sI_n (by omega)]
  · rw [Nat.zero_add] at hF; exact hF
/-! the reference's frames -/
theorem t11_sixteen {k c n p L : Nat} (hk : k < 2) (hc : c < 4) (hn : n ≤ 64) (hp : p + 16 ≤ n) {Y : Mem} (hb : Y.1 40 0 35 = nI k) (hB : ∀ i, i < n → Y.1 54 0 (298 * k + 73 * c + (9 + i)) = bitV (L.testBit (n - 1 - i))) {Q : Int32 → Mem → Prop} (h : Q (nI (wrd L n p)) Y) : p_X11_sixteen (nI c) (nI p) Y Q := by
  have go : ∀ d j, j + d = 16 → b_X11_sixteen_5 Q (d + 1) (nI c) (nI p) (nI (L / 2 ^ (n - p - j) % 2 ^ j)) (nI j) Y := by
    intro d
    induction d with
    | zero =>
      intro j hj
      have : j = 16 := by omega
      subst this
      refine ⟨fun _ => ?_, fun z => absurd (by decide) z⟩
      rw [show n - p - 16 = n - 16 - p from by omega]
      exact h
    | succ d ih =>
      intro j hj
      refine ⟨fun z => absurd z (by rw [show (16 : Int32) = nI 16 from rfl]; exact nI_ge (by omega) (by omega)), fun _ => ?_⟩
      rw [show (9 : Int32) = nI 9 from rfl, nI_add, nI_add]
      refine mk_at (j := 9 + p + j) hk (by omega) hb ?_
      have e := hB (p + j) (by omega)
      rw [show 298 * k + 73 * c + (9 + (p + j)) = 298 * k + 73 * c + (9 + p + j) from by omega] at e
      rw [e]
      rintro x3 rfl x4 rfl
      rw [nI_1]
      have go2 := ih (j + 1) (by omega)
      have hx : (2 : Nat) ^ (n - p - j) = 2 ^ (n - p - (j + 1)) * 2 := by rw [show n - p - j = (n - p - (j + 1)) + 1 from by omega, Nat.pow_succ]
      have hv : L / 2 ^ (n - p - j) % 2 ^ j < 2 ^ 16 := Nat.lt_of_lt_of_le (Nat.mod_lt _ (Nat.two_pow_pos j)) (Nat.pow_le_pow_right (by decide) (by omega))
      have e2 : ((nI (L / 2 ^ (n - p - j) % 2 ^ j) <<< (1 &&& 31)) ||| bitV (L.testBit (n - 1 - (p + j)))) = nI (L / 2 ^ (n - p - (j + 1)) % 2 ^ (j + 1)) := by
        rw [pk_shlN (1 &&& 31) 1 (by decide) (by omega), show bitV (L.testBit (n - 1 - (p + j))) = nI (L / 2 ^ (n - p - (j + 1)) % 2) from by
          rw [Nat.testBit_eq_decide_div_mod_eq, show n - 1 - (p + j) = n - p - (j + 1) from by omega]
          rcases Nat.mod_two_eq_zero_or_one (L / 2 ^ (n - p - (j + 1))) with z | z
          · rw [z]; rfl
          · rw [z]; rfl]
        rw [Nat.mul_comm, fa_or_sum _ (show L / 2 ^ (n - p - (j + 1)) % 2 < 2 ^ 1 from Nat.mod_lt _ (by decide)), hx, ← Nat.div_div_eq_div_mul]
        congr 1
        rw [show (2 : Nat) ^ (j + 1) = 2 * 2 ^ j from by rw [Nat.pow_succ, Nat.mul_comm], Nat.mod_mul]
        omega
      rw [e2]
      exact go2
  exact ⟨17, by
    have := go 16 0 rfl
    rw [Nat.pow_zero, Nat.mod_one] at this
    exact this⟩
def FY (L n : Nat) (l : List Nat) (c : Nat) (Y Z : Mem) : Prop := Z.2 = Y.2 ∧ Z.1 40 0 41 = nI l.length ∧ Z.1 40 0 42 = nI c ∧ (∀ k p, l[k]? = some p → Z.1 55 0 k = nI p ∧ Z.1 56 0 k = nI (upr (wrd L n p)) ∧ Z.1 57 0 k = bitV (ovr (wrd L n p))) ∧ ∀ f i k, ¬ (f = 40 ∧ i = 0 ∧ (k = 41 ∨ k = 42)) → (f < 55 ∨ 57 < f) → Z.1 f i k = Y.1 f i k
theorem nar_b (x : Bool) : vp_nar .boolean (bitV x) = bitV x := by cases x <;> decide
theorem t11_w154 {L n p c : Nat} {l : List Nat} {Y Z : Mem} (hF : FY L n l c Y Z) {k12 : Int32 → Int32 → Mem → Prop} {Q : Mem → Prop} {v1 : Int32} {i r : Bool} (hri : r = true → i = true) (h1 : r = true → ∀ Z', FY L n l c Y Z' → k12 v1 (nI (p + 16)) Z') (h0 : r = false → ∀ Z', FY L n l (c + if i then 1 else 0) Y Z' → k12 v1 (nI (p + 1)) Z') : b_X11_layFrames_154 Q k12 v1 (nI p) (bitV i) (bitV r) Z := by
  obtain ⟨f1, f2, f3, f4, f5⟩ := hF
  have fin : ∀ (x : Int32) (c' : Nat), Z.1 40 0 42 + x = nI c' → (r = true → ∀ Z', FY L n l c' Y Z' → k12 v1 (nI (p + 16)) Z') → (r = false → ∀ Z', FY L n l c' Y Z' → k12 v1 (nI (p + 1)) Z') → b_X11_layFrames_174 Q k12 v1 (nI p) (bitV r) (Z.1 40 0 42) x Z := by
    intro x c' hx g1 g0
    rintro M12 rfl
    have hF' : FY L n l c' Y (sI Z 40 0 42 (Z.1 40 0 42 + x)) := by
      refine ⟨f1, ?_, ?_, fun k q hq => ?_, fun f i k h2 h3 => ?_⟩
      · rw [sI_n (by omega)]; exact f2
      · rw [sI_s]; exact hx
      · obtain ⟨a1, a2, a3⟩ := f4 k q hq
        exact ⟨by rw [sI_n (by omega)]; exact a1, by rw [sI_n (by omega)]; exact a2, by rw [sI_n (by omega)]; exact a3⟩
      · rw [sI_n (fun z => h2 ⟨z.1, z.2.1, Or.inr z.2.2⟩)]; exact f5 f i k h2 h3
    refine ⟨fun z => ?_, fun z => ?_⟩
    · rintro x14 rfl
      cases r
      · rw [nI_1]; exact g0 rfl _ hF'
      · exact absurd z (by decide)
    · rintro x14 rfl
      cases r
      · exact absurd rfl z
      · rw [show (16 : Int32) = nI 16 from rfl, nI_add]; exact g1 rfl _ hF'
  cases i
  · have hr0 : r = false := by cases r; rfl; exact (hri rfl).symm ▸ rfl
    subst hr0
    refine ⟨fun _ => fin 0 c (by rw [f3, Int32.add_zero]) (fun z => by cases z) (fun _ Z' a => h0 rfl Z' a), fun z => absurd rfl z⟩
  · cases r
    · refine ⟨fun z => absurd z (by decide), fun _ => ⟨fun z => absurd rfl z, fun _ => fin 1 (c + 1) (by rw [f3, nI_1]) (fun z => by cases z) (fun _ Z' a => h0 rfl Z' a)⟩⟩
    · refine ⟨fun z => absurd z (by decide), fun _ => ⟨fun _ => fin 0 c (by rw [f3, Int32.add_zero]) (fun _ Z' a => h1 rfl Z' a) (fun z => by cases z), fun z => absurd z (by decide)⟩⟩
theorem t11_w106 {L n p c : Nat} {l : List Nat} {Y Z : Mem} (hF : FY L n l c Y Z) (hl : l.length < 64) {k12 : Int32 → Int32 → Mem → Prop} {Q : Mem → Prop} {v1 : Int32} {i r : Bool} (hri : r = true → i = true) (h1 : r = true → ∀ Z', FY L n (l ++ [p]) c Y Z' → k12 v1 (nI (p + 16)) Z') (h0 : r = false → ∀ Z', FY L n l (c + if i then 1 else 0) Y Z' → k12 v1 (nI (p + 1)) Z') : b_X11_layFrames_106 Q k12 v1 (nI p) (nI (upr (wrd L n p))) (bitV (ovr (wrd L n p))) (bitV i) (bitV r) Z := by
  cases r
  · exact ⟨fun _ => t11_w154 (r := false) hF hri (fun z => by cases z) h0, fun z => absurd rfl z⟩
  · obtain ⟨f1, f2, f3, f4, f5⟩ := hF
    refine ⟨fun z => absurd z (by decide), fun _ => ?_⟩
    rw [f2, nI_clamp (by omega)]
    refine ⟨vp_in_nI hl (by omega), ?_⟩
    rintro M16 rfl
    rw [sI_n (by omega), f2, nI_clamp (by omega)]
    refine ⟨vp_in_nI hl (by omega), ?_⟩
    rintro M17 rfl
    rw [sI_n (by omega), sI_n (by omega), f2, nI_clamp (by omega), nar_b]
    refine ⟨vp_in_nI hl (by omega), ?_⟩
    rintro M18 rfl M19 rfl
    refine t11_w154 (r := true) (l := l ++ [p]) (c := c) ?_ hri h1 (fun z => by cases z)
    refine ⟨f1, ?_, ?_, fun k q hq => ?_, fun f i k h2 h3 => ?_⟩
    · rw [sI_s, sI_n (by omega), sI_n (by omega), sI_n (by omega), f2, nI_1, List.length_append]; rfl
    · rw [sI_n (by omega), sI_n (by omega), sI_n (by omega), sI_n (by omega)]; exact f3
    · rcases app_some hq with ⟨hk, hq'⟩ | ⟨rfl, rfl⟩
      · obtain ⟨g1, g2, g3⟩ := f4 k q hq'
        refine ⟨?_, ?_, ?_⟩
        · rw [sI_n (by omega), sI_n (by omega), sI_n (by omega), sI_n (by omega)]; exact g1
        · rw [sI_n (by omega), sI_n (by omega), sI_n (by omega), sI_n (by omega)]; exact g2
        · rw [sI_n (by omega), sI_n (by omega), sI_n (by omega), sI_n (by omega)]; exact g3
      · refine ⟨?_, ?_, ?_⟩
        · rw [sI_n (by omega), sI_n (by omega), sI_n (by omega), sI_s]
        · rw [sI_n (by omega), sI_n (by omega), sI_s]
        · rw [sI_n (by omega), sI_s]
    · rw [sI_n (by omega), sI_n (by omega), sI_n (by omega), sI_n (by omega)]; exact f5 f i k h2 h3
theorem t11_word {L n p c : Nat} {l : List Nat} {Y Z : Mem} (hF : FY L n l c Y Z) (hl : l.length < 64) {k12 : Int32 → Int32 → Mem → Prop} {Q : Mem → Prop} {v1 : Int32} (h1 : rgt (wrd L n p) = true → ∀ Z', FY L n (l ++ [p]) c Y Z' → k12 v1 (nI (p + 16)) Z') (h0 : rgt (wrd L n p) = false → ∀ Z', FY L n l (c + if isF (wrd L n p) then 1 else 0) Y Z' → k12 v1 (nI (p + 1)) Z') : b_X11_layFrames_46 Q k12 v1 (nI p) (nI (wrd L n p)) (bitV (ovr (wrd L n p))) Z := by
  have hw := wrd_lt L n p
  have hu := upr_lt hw
  have key : b_X11_layFrames_62 Q k12 v1 (nI p) (bitV (ovr (wrd L n p))) (nI (upr (wrd L n p))) Z := by
    unfold b_X11_layFrames_62
    rw [pk_shrN (by omega) (12 &&& 31) 12 (by decide), show (2 : Nat) ^ 12 = 4096 from rfl]
    refine ⟨fun z => ?_, fun z => ?_⟩
    · have hi : isF (wrd L n p) = false := by
        unfold isF; rw [decide_eq_false_iff_not]; exact fun y => z (by rw [y]; rfl)
      have hr : rgt (wrd L n p) = false := by unfold rgt; rw [hi]; rfl
      refine ⟨fun _ => t11_w106 (i := false) (r := false) hF hl (fun z => by cases z) (fun z => by cases z) (fun _ Z' a => h0 hr Z' (by rw [hi]; exact a)), fun y => absurd rfl y⟩
    · have hi : isF (wrd L n p) = true := by
        unfold isF; rw [decide_eq_true_eq]; exact (nI_eq (a := upr (wrd L n p) / 4096) (b := 11) (by omega) (by omega)).mp z
      refine ⟨fun y => absurd y (by decide), fun _ => ?_⟩
      rw [pk_shrN (by omega) (4 &&& 31) 4 (by decide), pk_andN (n := upr (wrd L n p) / 2 ^ 4) (m := 255) (by omega) 8 (by decide), pk_andN (n := upr (wrd L n p)) (m := 15) (by omega) 4 (by decide)]
      refine t11_par ?_
      rw [show (2 : Nat) ^ 4 = 16 from rfl, show (2 : Nat) ^ 8 = 256 from rfl, par11_e _ (Nat.mod_lt _ (by decide))]
      have hp16 : ∀ e, e < 256 → parN e < 16 := by decide +kernel
      have hpl := hp16 (upr (wrd L n p) / 16 % 256) (Nat.mod_lt _ (by decide))
      have hr : rgt (wrd L n p) = decide (parN (upr (wrd L n p) / 16 % 256) = upr (wrd L n p) % 16) := by unfold rgt; rw [hi, Bool.true_and]
      refine ⟨fun z => ?_, fun z => ?_⟩
      · have hr0 : rgt (wrd L n p) = false := by
          rw [hr, decide_eq_false_iff_not]; exact fun y => z (by rw [y])
        exact t11_w106 (i := true) (r := false) hF hl (fun z => by cases z) (fun z => by cases z) (fun _ Z' a => h0 hr0 Z' (by rw [hi]; exact a))
      · have hr1 : rgt (wrd L n p) = true := by
          rw [hr, decide_eq_true_eq]; exact (nI_eq (by omega) (by omega)).mp z
        exact t11_w106 (i := true) (r := true) hF hl (fun _ => rfl) (fun _ Z' a => h1 hr1 Z' a) (fun z => by cases z)
  by_cases e : wrd L n p / 4096 = 4
  · have ho : ovr (wrd L n p) = true := decide_eq_true e
    rw [ho] at key ⊢
    refine ⟨fun z => absurd z (by decide), fun _ => ?_⟩
    rw [show (65535 : Int32) = nI 65535 from rfl, pk_sub (by omega)]
    rw [show upr (wrd L n p) = 65535 - wrd L n p from if_pos e] at key
    exact key
  · have ho : ovr (wrd L n p) = false := decide_eq_false e
    rw [ho] at key ⊢
    refine ⟨fun _ => ?_, fun z => absurd rfl z⟩
    rw [show upr (wrd L n p) = wrd L n p from if_neg e] at key
    exact key
theorem t11_lay_l {L n k c0 : Nat} (hn : n ≤ 64) (hk : k < 2) (hc : c0 < 4) {Y : Mem} (hb : Y.1 40 0 35 = nI k) (h8 : Y.1 54 0 (298 * k + 73 * c0 + 8) = nI n) (hB : ∀ i, i < n → Y.1 54 0 (298 * k + 73 * c0 + (9 + i)) = bitV (L.testBit (n - 1 - i))) {Q : Mem → Prop} : ∀ (f p : Nat) (l : List Nat) (c : Nat) (Z : Mem), n < p + 16 + f → 16 * l.length ≤ p → p ≤ n → FY L n l c Y Z → (∀ Z', FY L n (l ++ (frF L n f p).1) (c + (frF L n f p).2) Y Z' → Q Z') → b_X11_layFrames_12 Q (f + 1) (nI c0) (nI p) Z := by
  intro f
  induction f with
  | zero =>
    intro p l c Z hp hl hpn hF h
    have zb : Z.1 40 0 35 = nI k := (hF.2.2.2.2 40 0 35 (by omega) (by omega)).trans hb
    refine mk_at (j := 8) hk (by omega) zb ?_
    rw [hF.2.2.2.2 54 0 _ (by omega) (by omega), h8]
    refine ⟨fun _ => h Z (by rw [frF, List.append_nil]; exact hF), fun z => absurd ?_ z⟩
    rw [show (16 : Int32) = nI 16 from rfl, nI_add]; exact nI_lt (by omega) (by omega)
  | succ f ih =>
    intro p l c Z hp hl hpn hF h
    have zb : Z.1 40 0 35 = nI k := (hF.2.2.2.2 40 0 35 (by omega) (by omega)).trans hb
    have e16 : (nI p + 16 : Int32) = nI (p + 16) := nI_add p 16
    rw [frF] at h
    refine mk_at (j := 8) hk (by omega) zb ?_
    rw [hF.2.2.2.2 54 0 _ (by omega) (by omega), h8]
    refine ⟨fun z => ?_, fun z => ?_⟩
    · rw [e16, nI_ltI (by omega) (by omega)] at z
      rw [if_pos z] at h
      exact h Z (by rw [List.append_nil]; exact hF)
    · rw [e16, nI_ltI (by omega) (by omega)] at z
      rw [if_neg z] at h
      refine t11_sixteen (L := L) hk hc hn (by omega) zb (fun i hi => ?_) ?_
      · rw [hF.2.2.2.2 54 0 _ (by omega) (by omega)]; exact hB i hi
      have hw := wrd_lt L n p
      have w := @t11_word L n p c l Y Z hF (by omega) (fun v1 v2 M => b_X11_layFrames_12 Q (f + 1) v1 v2 M) Q (nI c0) (fun hr Z' hF' => by
        rw [if_pos hr] at h
        refine ih (p + 16) (l ++ [p]) c Z' (by omega) (by rw [List.length_append, List.length_singleton]; omega) (by omega) hF' (fun Z'' hF'' => h Z'' ?_)
        rw [List.append_assoc] at hF''
        exact hF'') (fun hr Z' hF' => by
        rw [if_neg (by rw [hr]; decide)] at h
        refine ih (p + 1) l _ Z' (by omega) (by omega) (by omega) hF' (fun Z'' hF'' => h Z'' ?_)
        rw [Nat.add_assoc] at hF''
        exact hF'')
      rw [pk_shrN (by omega) (12 &&& 31) 12 (by decide), show (2 : Nat) ^ 12 = 4096 from rfl]
      refine ⟨fun y => ?_, fun y => ?_⟩
      · have : ovr (wrd L n p) = false := decide_eq_false (fun q => y (by rw [q]; rfl))
        rw [this] at w; exact w
      · have : ovr (wrd L n p) = true := decide_eq_true ((nI_eq (a := wrd L n p / 4096) (b := 4) (by omega) (by omega)).mp y)
        rw [this] at w; exact w
theorem t11_frames {L n k c : Nat} (hn : n ≤ 64) (hk : k < 2) (hc : c < 4) {Y : Mem} (hb : Y.1 40 0 35 = nI k) (h8 : Y.1 54 0 (298 * k + 73 * c + 8) = nI n) (hB : ∀ i, i < n → Y.1 54 0 (298 * k + 73 * c + (9 + i)) = bitV (L.testBit (n - 1 - i))) {Q : Mem → Prop} (h : ∀ Z, FY L n (frF L n (n + 1) 0).1 (frF L n (n + 1) 0).2 Y Z → Q Z) : p_X11_layFrames (nI c) Y Q := by
  rintro M1 rfl M2 rfl
  have ag : ∀ f i j, ¬ (f = 40 ∧ i = 0 ∧ (j = 41 ∨ j = 42)) → (sI (sI Y 40 0 41 0) 40 0 42 0).1 f i j = Y.1 f i j := fun f i j z => by rw [sI_n (fun y => z ⟨y.1, y.2.1, Or.inr y.2.2⟩), sI_n (fun y => z ⟨y.1, y.2.1, Or.inl y.2.2⟩)]
  refine ⟨n + 2, t11_lay_l (L := L) hn hk hc hb h8 hB (n + 1) 0 [] 0 _ (by omega) (Nat.zero_le _) (Nat.zero_le _) ⟨rfl, ?_, ?_, fun k p hk => by simp at hk, fun f i k hf _ => ag f i k hf⟩ (fun Z' hF => h Z' ?_)⟩
  · rw [sI_n (by omega), sI_s]; rfl
  · rw [sI_s]; rfl
  · rw [Nat.zero_add] at hF; exact hF
theorem FX.ag {L n c : Nat} {l : List Nat} {X Z : Mem} (h : FX L n l c X Z) : AgX X Z := by
  refine ⟨fun f i k e => h.2.2.2.2 f i k ?_, fun i _ => by rw [h.1], fun k => by rw [h.1]⟩
  rcases (show (f < 13 ∨ 16 < f) ∨ f = 13 ∨ f = 14 ∨ f = 15 ∨ f = 16 by omega) with z | rfl | rfl | rfl | rfl
  · exact z
  all_goals simp [kX] at e
theorem FX.c {L n c : Nat} {l : List Nat} {X Z : Mem} (h : FX L n l c X Z) : AgC X Z := ⟨h.2.2.2.2 5 0 4 (by decide), fun k => h.2.2.2.2 6 0 k (by decide), fun k => h.2.2.2.2 7 0 k (by decide)⟩
theorem FY.ag {L n c : Nat} {l : List Nat} {Y Z : Mem} (h : FY L n l c Y Z) : AgY Y Z := by
  intro f k e
  refine h.2.2.2.2 f 0 k ?_ ?_
  · rintro ⟨rfl, -, rfl | rfl⟩ <;> simp [kY] at e
  · rcases (show (f < 55 ∨ 57 < f) ∨ f = 55 ∨ f = 56 ∨ f = 57 by omega) with z | rfl | rfl | rfl
    · exact z
    all_goals simp [kY] at e
/-- both sides' frames of a channel -/
theorem fr_len {L n : Nat} (hn : n ≤ 64) : (frF L n (n + 1) 0).1.length ≤ 4 := by
  have := @frF_len L n (n + 1) 0
  omega
/-- op 26: bad -/
theorem op_26 (X Y : Mem) (a1 : Int32) (hR : Rel X Y) : p_X10_bad a1 X (fun r X1 => p_X11_bad a1 Y (fun r1 Y1 => r = r1 ∧ Rel X1 Y1)) := by
  obtain ⟨T, w, h1, h2, h3, h4, h5, h6, h7, h8, h9, h10, h11, h12, h13⟩ := id hR
  obtain ⟨n0, hn0, hc0, hd0, hch, _⟩ := id h9
  have hb0 : (sI Y 40 0 2 0).1 40 0 35 = 0 := by rw [sI_n (by omega)]; exact h6.1
  have hd1 : (sI Y 40 0 2 0).1 54 0 292 = nI n0 := by rw [sI_n (by omega)]; exact hd0
  have R := hR.th 0
  have no : (a1 < 0 ∨ nI n0 ≤ a1) → p_X10_bad a1 X (fun r X1 => p_X11_bad a1 Y (fun r1 Y1 => r = r1 ∧ Rel X1 Y1)) := fun h =>
    t10_isCh0 hc0 h ⟨fun z => absurd rfl z, fun _ => by
      rintro M1 rfl
      exact t11_isCh0 hb0 hd1 h ⟨fun z => absurd rfl z, fun _ => ⟨rfl, R⟩⟩⟩
  rcases pk_ix a1 (n := n0) (by omega) with h | h | ⟨c, hc, rfl⟩
  · exact no (Or.inl h)
  · exact no (Or.inr h)
  obtain ⟨-, -, -, -, -, -, -, -, m, hm, c9, c10, c11⟩ := hch c hc
  simp only [Nat.mul_zero, Nat.zero_add] at c9 c10 c11
  refine t10_isCh1 hc0 hn0 hc ⟨fun _ => ⟨vp_in_nI (by omega) (by omega), ?_⟩, fun z => absurd z (by decide)⟩
  rw [nI_clamp (by omega), Nat.mul_zero, Nat.zero_add]
  refine t10_frames hm c9 (fun Z hF => ?_)
  rintro M1 rfl
  refine t11_isCh1 hb0 hd1 hn0 hc ⟨fun _ => ?_, fun z => absurd z (by decide)⟩
  refine t11_frames (k := 0) (n := m) (L := (X.2.1 30 c 8).toBitVec.toNat) hm (by decide) (by omega) hb0 (by rw [sI_n (by omega), Nat.mul_zero, Nat.zero_add]; exact c10) (fun i hi => ?_) (fun V hV => ⟨?_, Rel.ag hF.ag hF.c hV.ag R⟩)
  · rw [sI_n (by omega), Nat.mul_zero, Nat.zero_add, ← Nat.add_assoc]; exact c11 i hi
  · rw [hF.2.2.1, hV.2.2.1]
/-- what a frame tells -/
theorem up_kind {w : Nat} (hw : w < 65536) : (((nI w : Int32).toUInt32 >>> ((10 : Int32).toUInt32 &&& Int32.toUInt32 31)).toInt32 &&& 3) = nI (w / 1024 % 4) ∧ ((nI w >>> (10 &&& 31)) &&& 3) = nI (w / 1024 % 4) ∧ (((nI w : Int32).toUInt32 >>> ((4 : Int32).toUInt32 &&& Int32.toUInt32 31)).toInt32 &&& 63) = nI (w / 16 % 64) ∧ ((nI w >>> (4 &&& 31)) &&& 63) = nI (w / 16 % 64) := by
  refine ⟨?_, ?_, ?_, ?_⟩
  · rw [pk_ushrN (by omega) (10 : Int32) 10 (by decide), pk_andN (n := w / 2 ^ 10) (m := 3) (by omega) 2 (by decide)]
  · rw [pk_shrN (by omega) (10 &&& 31) 10 (by decide), pk_andN (n := w / 2 ^ 10) (m := 3) (by omega) 2 (by decide)]
  · rw [pk_ushrN (by omega) (4 : Int32) 4 (by decide), pk_andN (n := w / 2 ^ 4) (m := 63) (by omega) 6 (by decide)]
  · rw [pk_shrN (by omega) (4 &&& 31) 4 (by decide), pk_andN (n := w / 2 ^ 4) (m := 63) (by omega) 6 (by decide)]
def latV (L n : Nat) (l : List Nat) (kd : Int32) : Nat → Int32
  | 0 => -2
  | d + 1 => if nI (upr (wrd L n (l.getD d 0)) / 1024 % 4) = kd then nI (upr (wrd L n (l.getD d 0)) / 16 % 64) else latV L n l kd d
theorem getD_some {l : List Nat} {d : Nat} (h : d < l.length) : l[d]? = some (l.getD d 0) := by
  rw [List.getD_eq_getElem?_getD, List.getElem?_eq_getElem h]; rfl
theorem m1_pred (d : Nat) : (nI (d + 1) - 1 : Int32) = nI d := nI_pred d
theorem t10_latest_l {L n c : Nat} {l : List Nat} {X Z : Mem} (hl : l.length ≤ 4) (hF : FX L n l c X Z) {kd : Int32} {Q : Int32 → Mem → Prop} (h : Q (latV L n l kd l.length) Z) : ∀ d, d ≤ l.length → latV L n l kd d = latV L n l kd l.length → b_X10_latest_42 Q (d + 1) kd (nI d - 1) Z := by
  intro d
  induction d with
  | zero =>
    intro _ e
    rw [← e] at h
    exact ⟨fun _ => h, fun z => absurd (by decide) z⟩
  | succ d ih =>
    intro hd e
    rw [m1_pred]
    obtain ⟨g1, g2, g3⟩ := hF.2.2.2.1 d _ (getD_some (by omega))
    obtain ⟨u1, u2, u3, u4⟩ := up_kind (upr_lt (wrd_lt L n (l.getD d 0)))
    have hd0 : ¬ nI d < 0 := nI_pos (by omega)
    have hdl : nI d < Z.1 13 0 0 := by rw [hF.2.1]; exact nI_lt (by omega) (by omega)
    rw [latV] at e
    refine ⟨fun z => absurd z hd0, fun _ => ⟨fun z => absurd z hd0, fun _ => ⟨fun _ => ⟨fun z => absurd z (by decide), fun _ => ⟨vp_in_nI (by omega) (by omega), ?_⟩, fun z => absurd z (by decide), fun _ z => absurd rfl z⟩, fun z => absurd hdl z⟩⟩⟩
    rw [nI_clamp (by omega), g2, u1]
    refine ⟨fun z => ?_, fun z => ?_⟩
    · rintro x11 rfl
      rw [if_neg z] at e
      rw [← Int32.sub_eq_add_neg]
      exact ih (by omega) e
    · rw [if_pos z] at e
      refine ⟨fun z => absurd z hd0, fun _ => ⟨fun _ => ⟨fun z => absurd z (by decide), fun z => absurd z (by decide), fun _ => ⟨vp_in_nI (by omega) (by omega), ?_⟩, fun _ _ z => absurd rfl z⟩, fun z => absurd hdl z⟩⟩
      rw [nI_clamp (by omega), g2, u3, e]
      exact h
theorem t11_latest_l {L n c : Nat} {l : List Nat} {Y Z : Mem} (hl : l.length ≤ 4) (hF : FY L n l c Y Z) {kd : Int32} {Q : Int32 → Mem → Prop} (h : Q (latV L n l kd l.length) Z) : ∀ d, d ≤ l.length → latV L n l kd d = latV L n l kd l.length → b_X11_latest_36 Q (d + 1) kd (nI d - 1) Z := by
  intro d
  induction d with
  | zero =>
    intro _ e
    rw [← e] at h
    exact ⟨fun _ => h, fun z => absurd (by decide) z⟩
  | succ d ih =>
    intro hd e
    rw [m1_pred]
    obtain ⟨g1, g2, g3⟩ := hF.2.2.2.1 d _ (getD_some (by omega))
    obtain ⟨u1, u2, u3, u4⟩ := up_kind (upr_lt (wrd_lt L n (l.getD d 0)))
    have hd0 : ¬ nI d < 0 := nI_pos (by omega)
    rw [latV] at e
    refine ⟨fun z => absurd z hd0, fun _ => ⟨vp_in_nI (by omega) (by omega), ?_⟩⟩
    rw [nI_clamp (by omega), g2, u2]
    refine ⟨fun z => ?_, fun z => ?_⟩
    · rintro x11 rfl
      rw [if_neg z] at e
      rw [← Int32.sub_eq_add_neg]
      exact ih (by omega) e
    · rw [if_pos z] at e
      unfold b_X11_latest_55
      rw [nI_clamp (by omega), g2, u4, e]
      exact ⟨vp_in_nI (by omega) (by omega), h⟩
/-- op 28: latest -/
theorem op_28 (X Y : Mem) (a1 a2 : Int32) (hR : Rel X Y) : p_X10_latest a1 a2 X (fun r X1 => p_X11_latest a1 a2 Y (fun r1 Y1 => r = r1 ∧ Rel X1 Y1)) := by
  obtain ⟨T, w, h1, h2, h3, h4, h5, h6, h7, h8, h9, h10, h11, h12, h13⟩ := id hR
  obtain ⟨n0, hn0, hc0, hd0, hch, _⟩ := id h9
  have hb0 : (sI Y 40 0 2 0).1 40 0 35 = 0 := by rw [sI_n (by omega)]; exact h6.1
  have hd1 : (sI Y 40 0 2 0).1 54 0 292 = nI n0 := by rw [sI_n (by omega)]; exact hd0
  have R := hR.th 0
  have no : (a1 < 0 ∨ nI n0 ≤ a1) → p_X10_latest a1 a2 X (fun r X1 => p_X11_latest a1 a2 Y (fun r1 Y1 => r = r1 ∧ Rel X1 Y1)) := fun h =>
    t10_isCh0 hc0 h ⟨fun _ => by
      rintro M1 rfl
      exact t11_isCh0 hb0 hd1 h ⟨fun _ => ⟨rfl, R⟩, fun z => absurd rfl z⟩, fun z => absurd rfl z⟩
  rcases pk_ix a1 (n := n0) (by omega) with h | h | ⟨c, hc, rfl⟩
  · exact no (Or.inl h)
  · exact no (Or.inr h)
  have no2 : (a2 < 0 ∨ 3 < a2) → p_X11_latest (nI c) a2 Y (fun r1 Y1 => -1 = r1 ∧ Rel X Y1) := by
    rintro h M1 rfl
    exact t11_isCh1 hb0 hd1 hn0 hc ⟨fun z => absurd z (by decide), fun _ => t_isIn (fun _ => ⟨fun z => absurd rfl z, fun _ => ⟨rfl, R⟩⟩) (fun x y => (h.elim x y).elim)⟩
  obtain ⟨-, -, -, -, -, -, -, -, m, hm, c9, c10, c11⟩ := hch c hc
  simp only [Nat.mul_zero, Nat.zero_add] at c9 c10 c11
  refine t10_isCh1 hc0 hn0 hc ⟨fun z => absurd z (by decide), fun _ => ⟨fun z => no2 (Or.inl z), fun z0 => ⟨fun z3 => ⟨vp_in_nI (by omega) (by omega), ?_⟩, fun z => no2 (Or.inr (Int32.not_le.mp z))⟩⟩⟩
  rw [nI_clamp (by omega), Nat.mul_zero, Nat.zero_add]
  refine t10_frames hm c9 (fun Z hF => ?_)
  have hl := @fr_len (X.2.1 30 c 8).toBitVec.toNat m hm
  rintro x7 rfl
  rw [hF.2.1]
  refine ⟨_, t10_latest_l hl hF ?_ _ (Nat.le_refl _) rfl⟩
  rintro M1 rfl
  refine t11_isCh1 hb0 hd1 hn0 hc ⟨fun z => absurd z (by decide), fun _ => t_isIn (fun z => (z.elim z0 (fun y => Int32.not_lt.mpr z3 y)).elim) (fun _ _ => ⟨fun _ => ?_, fun z => absurd z (by decide)⟩)⟩
  refine t11_frames (k := 0) (n := m) (L := (X.2.1 30 c 8).toBitVec.toNat) hm (by decide) (by omega) hb0 (by rw [sI_n (by omega), Nat.mul_zero, Nat.zero_add]; exact c10) (fun i hi => ?_) (fun V hV => ?_)
  · rw [sI_n (by omega), Nat.mul_zero, Nat.zero_add, ← Nat.add_assoc]; exact c11 i hi
  · rintro x7 rfl
    rw [hV.2.1]
    exact ⟨_, t11_latest_l hl hV ⟨rfl, Rel.ag hF.ag hF.c hV.ag R⟩ _ (Nat.le_refl _) rfl⟩
/-- op 25: frame -/
theorem op_25 (X Y : Mem) (a1 a2 a3 : Int32) (hR : Rel X Y) : p_X10_frame a1 a2 a3 X (fun r X1 => p_X11_frame a1 a2 a3 Y (fun r1 Y1 => r = r1 ∧ Rel X1 Y1)) := by
  obtain ⟨T, w, h1, h2, h3, h4, h5, h6, h7, h8, h9, h10, h11, h12, h13⟩ := id hR
  obtain ⟨n0, hn0, hc0, hd0, hch, _⟩ := id h9
  have hb0 : (sI Y 40 0 2 0).1 40 0 35 = 0 := by rw [sI_n (by omega)]; exact h6.1
  have hd1 : (sI Y 40 0 2 0).1 54 0 292 = nI n0 := by rw [sI_n (by omega)]; exact hd0
  have R := hR.th 0
  have no : (a1 < 0 ∨ nI n0 ≤ a1) → p_X10_frame a1 a2 a3 X (fun r X1 => p_X11_frame a1 a2 a3 Y (fun r1 Y1 => r = r1 ∧ Rel X1 Y1)) := fun h =>
    t10_isCh0 hc0 h ⟨fun _ => by
      rintro M1 rfl
      exact t11_isCh0 hb0 hd1 h ⟨fun _ => ⟨rfl, R⟩, fun z => absurd rfl z⟩, fun z => absurd rfl z⟩
  rcases pk_ix a1 (n := n0) (by omega) with h | h | ⟨c, hc, rfl⟩
  · exact no (Or.inl h)
  · exact no (Or.inr h)
  obtain ⟨-, -, -, -, -, -, -, -, m, hm, c9, c10, c11⟩ := hch c hc
  simp only [Nat.mul_zero, Nat.zero_add] at c9 c10 c11
  have hl := @fr_len (X.2.1 30 c 8).toBitVec.toNat m hm
  -- the two sides behind the tests
  have mo : ∀ (Z : Mem) (r : Int32), FX (X.2.1 30 c 8).toBitVec.toNat m (frF (X.2.1 30 c 8).toBitVec.toNat m (m + 1) 0).1 (frF (X.2.1 30 c 8).toBitVec.toNat m (m + 1) 0).2 X Z → (∀ V, FY (X.2.1 30 c 8).toBitVec.toNat m (frF (X.2.1 30 c 8).toBitVec.toNat m (m + 1) 0).1 (frF (X.2.1 30 c 8).toBitVec.toNat m (m + 1) 0).2 (sI Y 40 0 2 0) V → ((0 ≤ a2 → ((a2 < V.1 40 0 41 → ((¬ a3 = 0 → ((¬ a3 = 1 → ((¬ a3 = 2 → (vp_in a2 64 ∧ ((V.1 57 0 a2.toNatClampNeg = 0 → r = 0) ∧ (¬ V.1 57 0 a2.toNatClampNeg = 0 → r = 1)))) ∧ (a3 = 2 → (vp_in a2 64 ∧ r = ((V.1 56 0 a2.toNatClampNeg >>> (4 &&& 31)) &&& 63))))) ∧ (a3 = 1 → (vp_in a2 64 ∧ r = ((V.1 56 0 a2.toNatClampNeg >>> (10 &&& 31)) &&& 3))))) ∧ (a3 = 0 → (vp_in a2 64 ∧ r = V.1 55 0 a2.toNatClampNeg)))) ∧ (¬ a2 < V.1 40 0 41 → r = -2))) ∧ (¬ 0 ≤ a2 → r = V.1 40 0 41))) → b_X11_frame_33 (fun r1 Y1 => r = r1 ∧ Rel Z Y1) (nI c) a2 a3 (sI Y 40 0 2 0) := by
    intro Z r hF g
    refine t11_frames (k := 0) (n := m) (L := (X.2.1 30 c 8).toBitVec.toNat) hm (by decide) (by omega) hb0 (by rw [sI_n (by omega), Nat.mul_zero, Nat.zero_add]; exact c10) (fun i hi => ?_) (fun V hV => ?_)
    · rw [sI_n (by omega), Nat.mul_zero, Nat.zero_add, ← Nat.add_assoc]; exact c11 i hi
    · have RR : Rel Z V := Rel.ag hF.ag hF.c hV.ag R
      obtain ⟨g1, g2⟩ := g V hV
      exact ⟨fun a => ⟨fun b => ⟨fun d0 => ⟨fun d1 => ⟨fun d2 => ⟨(((((g1 a).1 b).1 d0).1 d1).1 d2).1, fun e => ⟨(((((g1 a).1 b).1 d0).1 d1).1 d2).2.1 e, RR⟩, fun e => ⟨(((((g1 a).1 b).1 d0).1 d1).1 d2).2.2 e, RR⟩⟩, fun d2 => ⟨(((((g1 a).1 b).1 d0).1 d1).2 d2).1, (((((g1 a).1 b).1 d0).1 d1).2 d2).2, RR⟩⟩, fun d1 => ⟨((((g1 a).1 b).1 d0).2 d1).1, ((((g1 a).1 b).1 d0).2 d1).2, RR⟩⟩, fun d0 => ⟨(((g1 a).1 b).2 d0).1, (((g1 a).1 b).2 d0).2, RR⟩⟩, fun b => ⟨(g1 a).2 b, RR⟩⟩, fun a => ⟨g2 a, RR⟩⟩
  refine t10_isCh1 hc0 hn0 hc ⟨fun z => absurd z (by decide), fun _ => ⟨fun hk => ⟨fun hm1 => ?_, fun hm1 => ?_⟩, fun hk => ?_⟩⟩
  · -- how many
    subst hm1
    refine ⟨vp_in_nI (by omega) (by omega), ?_⟩
    rw [nI_clamp (by omega), Nat.mul_zero, Nat.zero_add]
    refine t10_frames hm c9 (fun Z hF => ⟨fun z => absurd rfl z, fun _ => ?_⟩)
    rintro M1 rfl
    refine t11_isCh1 hb0 hd1 hn0 hc ⟨fun z => absurd z (by decide), fun _ => ⟨fun z => absurd z (by decide), fun _ => ⟨fun _ => mo Z _ hF (fun V hV => ⟨fun z => absurd z (by decide), fun _ => ?_⟩), fun z => absurd (by decide) z⟩⟩⟩
    rw [hF.2.1, hV.2.1]
  · have hk0 : ¬ a2 < 0 := by
      intro z
      apply hm1
      have e1 : (-1 : Int32).toInt = -1 := by decide
      have e2 : (0 : Int32).toInt = 0 := by decide
      rw [Int32.le_iff_toInt_le, e1] at hk
      rw [Int32.lt_iff_toInt_lt, e2] at z
      exact Int32.toInt_inj.mp (by rw [e1]; omega)
    have hkn : ¬ a2 < -1 := Int32.not_lt.mpr hk
    have no3 : (a3 < 0 ∨ 3 < a3) → p_X11_frame (nI c) a2 a3 Y (fun r1 Y1 => -1 = r1 ∧ Rel X Y1) := by
      rintro h M1 rfl
      exact t11_isCh1 hb0 hd1 hn0 hc ⟨fun z => absurd z (by decide), fun _ => ⟨fun z => absurd z hkn, fun _ => ⟨fun z => absurd z hk0, fun _ => t_isIn (fun _ => ⟨fun z => absurd rfl z, fun _ => ⟨rfl, R⟩⟩) (fun x y => (h.elim x y).elim)⟩⟩⟩
    refine ⟨fun z => no3 (Or.inl z), fun z0 => ⟨fun z3 => ⟨vp_in_nI (by omega) (by omega), ?_⟩, fun z => no3 (Or.inr (Int32.not_le.mp z))⟩⟩
    rw [nI_clamp (by omega), Nat.mul_zero, Nat.zero_add]
    refine t10_frames hm c9 (fun Z hF => ⟨fun _ => ?_, fun z => absurd z hm1⟩)
    have enter : ∀ r : Int32, b_X11_frame_33 (fun r1 Y1 => r = r1 ∧ Rel Z Y1) (nI c) a2 a3 (sI Y 40 0 2 0) → p_X11_frame (nI c) a2 a3 Y (fun r1 Y1 => r = r1 ∧ Rel Z Y1) := by
      rintro r hb M1 rfl
      exact t11_isCh1 hb0 hd1 hn0 hc ⟨fun z => absurd z (by decide), fun _ => ⟨fun z => absurd z hkn, fun _ => ⟨fun z => absurd z hk0, fun _ => t_isIn (fun z => (z.elim z0 (fun y => Int32.not_lt.mpr z3 y)).elim) (fun _ _ => ⟨fun _ => hb, fun z => absurd z (by decide)⟩)⟩⟩⟩
    refine ⟨fun hge => enter _ (mo Z _ hF (fun V hV => ⟨fun _ => ⟨fun y => ?_, fun _ => rfl⟩, fun y => absurd (Int32.not_lt.mp hk0) y⟩)), fun hlt => ?_⟩
    · rw [hV.2.1, ← hF.2.1] at y
      exact absurd y (Int32.not_lt.mpr hge)
    · obtain ⟨k, hkl, rfl⟩ : ∃ k, k < (frF (X.2.1 30 c 8).toBitVec.toNat m (m + 1) 0).1.length ∧ a2 = nI k := by
        rcases pk_ix a2 (n := (frF (X.2.1 30 c 8).toBitVec.toNat m (m + 1) 0).1.length) (by omega) with z | z | z
        · exact absurd z hk0
        · exact absurd (by rw [hF.2.1]; exact z) hlt
        · exact z
      obtain ⟨x1, x2, x3⟩ := hF.2.2.2.1 k _ (getD_some hkl)
      obtain ⟨u1, u2, u3, u4⟩ := up_kind (upr_lt (wrd_lt (X.2.1 30 c 8).toBitVec.toNat m ((frF (X.2.1 30 c 8).toBitVec.toNat m (m + 1) 0).1.getD k 0)))
      have hltV : ∀ V, FY (X.2.1 30 c 8).toBitVec.toNat m (frF (X.2.1 30 c 8).toBitVec.toNat m (m + 1) 0).1 (frF (X.2.1 30 c 8).toBitVec.toNat m (m + 1) 0).2 (sI Y 40 0 2 0) V → nI k < V.1 40 0 41 := fun V hV => by rw [hV.2.1]; exact nI_lt hkl (by omega)
      refine ⟨fun z => absurd z hk0, fun _ => ⟨fun _ => ⟨fun z => ?_, fun z => ?_, fun z => ?_, fun y0 y1 y2 => ?_⟩, fun z => absurd (by rw [hF.2.1]; exact nI_lt hkl (by omega)) z⟩⟩
      · subst z
        refine ⟨vp_in_nI (by omega) (by omega), enter _ (mo Z _ hF (fun V hV => ⟨fun _ => ⟨fun _ => ⟨fun y => absurd rfl y, fun _ => ⟨vp_in_nI (by omega) (by omega), ?_⟩⟩, fun y => absurd (hltV V hV) y⟩, fun y => absurd (Int32.not_lt.mp hk0) y⟩))⟩
        rw [nI_clamp (by omega), x1, (hV.2.2.2.1 k _ (getD_some hkl)).1]
      · subst z
        refine ⟨vp_in_nI (by omega) (by omega), enter _ (mo Z _ hF (fun V hV => ⟨fun _ => ⟨fun _ => ⟨fun _ => ⟨fun y => absurd rfl y, fun _ => ⟨vp_in_nI (by omega) (by omega), ?_⟩⟩, fun y => absurd y (by decide)⟩, fun y => absurd (hltV V hV) y⟩, fun y => absurd (Int32.not_lt.mp hk0) y⟩))⟩
        rw [nI_clamp (by omega), x2, u1, (hV.2.2.2.1 k _ (getD_some hkl)).2.1, u2]
      · subst z
        refine ⟨vp_in_nI (by omega) (by omega), enter _ (mo Z _ hF (fun V hV => ⟨fun _ => ⟨fun _ => ⟨fun _ => ⟨fun _ => ⟨fun y => absurd rfl y, fun _ => ⟨vp_in_nI (by omega) (by omega), ?_⟩⟩, fun y => absurd y (by decide)⟩, fun y => absurd y (by decide)⟩, fun y => absurd (hltV V hV) y⟩, fun y => absurd (Int32.not_lt.mp hk0) y⟩))⟩
        rw [nI_clamp (by omega), x2, u3, (hV.2.2.2.1 k _ (getD_some hkl)).2.1, u4]
      · refine ⟨vp_in_nI (by omega) (by omega), enter _ (mo Z _ hF (fun V hV => ⟨fun _ => ⟨fun _ => ⟨fun _ => ⟨fun _ => ⟨fun _ => ⟨vp_in_nI (by omega) (by omega), ?_⟩, fun y => absurd y y2⟩, fun y => absurd y y1⟩, fun y => absurd y y0⟩, fun y => absurd (hltV V hV) y⟩, fun y => absurd (Int32.not_lt.mp hk0) y⟩))⟩
        rw [nI_clamp (by omega), x3, (hV.2.2.2.1 k _ (getD_some hkl)).2.2]
        cases ovr (wrd (X.2.1 30 c 8).toBitVec.toNat m ((frF (X.2.1 30 c 8).toBitVec.toNat m (m + 1) 0).1.getD k 0))
        · exact ⟨fun _ => rfl, fun y => absurd rfl y⟩
        · exact ⟨fun y => absurd y (by decide), fun _ => rfl⟩
  · rintro M1 rfl
    exact t11_isCh1 hb0 hd1 hn0 hc ⟨fun z => absurd z (by decide), fun _ => ⟨fun _ => ⟨rfl, R⟩, fun z => absurd (Int32.not_le.mp hk) z⟩⟩
