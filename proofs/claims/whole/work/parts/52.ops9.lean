/-! parity, subframes, what a bird sends; op 11: bit -/
def inE (a b : Int32) : Nat → Nat → Int32 → Int32
  | 0, _, c => c
  | d + 1, k, c => inE a b d (k + 1) (if (((nI k : Int32).toUInt32 >>> ((b : Int32).toUInt32 &&& Int32.toUInt32 31)).toInt32 &&& 1) = 1 then c ^^^ (((a : Int32).toUInt32 >>> ((((8 : Int32) - nI k) : Int32).toUInt32 &&& Int32.toUInt32 31)).toInt32 &&& 1) else c)
def ouE (a : Int32) : Nat → Nat → Int32 → Int32
  | 0, _, v => v
  | d + 1, j, v => ouE a d (j + 1) ((v <<< (1 &&& 31)) ||| inE a (nI j) 8 1 0)
theorem t10_par_in {Q : Int32 → Mem → Prop} {k4 : Int32 → Int32 → Int32 → Mem → Prop} {v0 v1 v2 : Int32} {M : Mem} : ∀ (d k : Nat) (c : Int32), k + d = 9 → b_X10_parityOf_49 Q k4 v0 v1 v2 (inE v0 v2 d k c) M → b_X10_parityOf_14 Q k4 (d + 1) v0 v1 v2 c (nI k) M := by
  intro d
  induction d with
  | zero =>
    intro k c hk h
    have : k = 9 := by omega
    subst this
    exact ⟨fun _ => h, fun z => absurd (by decide) z⟩
  | succ d ih =>
    intro k c hk h
    refine ⟨fun z => absurd z ?_, fun _ => ⟨fun z => ?_, fun z => ?_⟩⟩
    · rw [show (8 : Int32) = nI 8 from rfl]; exact nI_nlt (by omega) (by omega)
    · rintro x6 rfl
      rw [nI_1]
      refine ih (k + 1) c (by omega) ?_
      rw [inE, if_neg z] at h; exact h
    · rintro x7 rfl x6 rfl
      rw [nI_1]
      refine ih (k + 1) _ (by omega) ?_
      rw [inE, if_pos z] at h; exact h
theorem t10_par {a : Int32} {M : Mem} {Q : Int32 → Mem → Prop} (h : Q (ouE a 4 0 0) M) : p_X10_parityOf a M Q := by
  have go : ∀ (d j : Nat) (v : Int32), j + d = 4 → Q (ouE a d j v) M → b_X10_parityOf_4 Q (d + 1) a v (nI j) M := by
    intro d
    induction d with
    | zero =>
      intro j v hj h
      have : j = 4 := by omega
      subst this
      exact ⟨fun _ => h, fun z => absurd (by decide) z⟩
    | succ d ih =>
      intro j v hj h
      refine ⟨fun z => absurd z ?_, fun _ => ⟨9, t10_par_in 8 1 0 (by omega) ?_⟩⟩
      · rw [show (4 : Int32) = nI 4 from rfl]; exact nI_ge (by omega) (by omega)
      · rintro x3 rfl x4 rfl
        rw [nI_1]
        exact ih (j + 1) _ (by omega) h
  exact ⟨5, go 4 0 0 (by omega) h⟩
theorem par10_e : ∀ e, e < 256 → ouE (nI e) 4 0 0 = nI (parN e) := by decide +kernel
def inM (a b : Int32) : Nat → Nat → Int32 → Int32
  | 0, _, c => c
  | d + 1, k, c => inM a b d (k + 1) (c ^^^ (if ((nI k >>> (b &&& 31)) &&& 1) = 1 then ((a >>> (((8 : Int32) - nI k) &&& 31)) &&& 1) else 0))
def ouM (a : Int32) : Nat → Nat → Int32 → Int32
  | 0, _, v => v
  | d + 1, j, v => ouM a d (j + 1) (v ||| (inM a (nI j) 8 1 0 <<< (((3 : Int32) - nI j) &&& 31)))
theorem t11_par_in {Q : Int32 → Mem → Prop} {k4 : Int32 → Int32 → Int32 → Mem → Prop} {v0 v1 v2 : Int32} {M : Mem} : ∀ (d k : Nat) (c : Int32), k + d = 9 → b_X11_parityOf_53 Q k4 v0 v1 v2 (inM v0 v2 d k c) M → b_X11_parityOf_14 Q k4 (d + 1) v0 v1 v2 c (nI k) M := by
  intro d
  induction d with
  | zero =>
    intro k c hk h
    have : k = 9 := by omega
    subst this
    exact ⟨fun _ => h, fun z => absurd (by decide) z⟩
  | succ d ih =>
    intro k c hk h
    refine ⟨fun z => absurd z ?_, fun _ => ⟨fun z => ?_, fun z => ?_⟩⟩
    · rw [show (8 : Int32) = nI 8 from rfl]; exact nI_nlt (by omega) (by omega)
    · rintro x6 rfl x7 rfl
      rw [nI_1]
      refine ih (k + 1) _ (by omega) ?_
      rw [inM, if_neg z] at h; exact h
    · rintro x6 rfl x7 rfl
      rw [nI_1]
      refine ih (k + 1) _ (by omega) ?_
      rw [inM, if_pos z] at h; exact h
theorem t11_par {a : Int32} {M : Mem} {Q : Int32 → Mem → Prop} (h : Q (ouM a 4 0 0) M) : p_X11_parityOf a M Q := by
  have go : ∀ (d j : Nat) (v : Int32), j + d = 4 → Q (ouM a d j v) M → b_X11_parityOf_4 Q (d + 1) a v (nI j) M := by
    intro d
    induction d with
    | zero =>
      intro j v hj h
      have : j = 4 := by omega
      subst this
      exact ⟨fun _ => h, fun z => absurd (by decide) z⟩
    | succ d ih =>
      intro j v hj h
      refine ⟨fun z => absurd z ?_, fun _ => ⟨9, t11_par_in 8 1 0 (by omega) ?_⟩⟩
      · rw [show (4 : Int32) = nI 4 from rfl]; exact nI_ge (by omega) (by omega)
      · rintro x3 rfl x4 rfl
        rw [nI_1]
        exact ih (j + 1) _ (by omega) h
  exact ⟨5, go 4 0 0 (by omega) h⟩
theorem par11_e : ∀ e, e < 256 → ouM (nI e) 4 0 0 = nI (parN e) := by decide +kernel
theorem frm_e : ∀ k, k < 4 → ∀ v, v < 64 → ((nI k <<< (6 &&& 31)) ||| nI v) = nI (64 * k + v) ∧ (((45056 : Int32) ||| (nI (64 * k + v) <<< (4 &&& 31))) ||| nI (parN (64 * k + v))) = nI (frmN k v) ∧ frmN k v < 65536 := by decide +kernel
theorem t11_frameOf {k v : Nat} (hk : k < 4) (hv : v < 64) {M : Mem} {Q : Int32 → Mem → Prop} (h : Q (nI (frmN k v)) M) : p_X11_frameOf (nI k) (nI v) M Q := by
  obtain ⟨e1, e2, _⟩ := frm_e k hk v hv
  rintro x1 rfl
  rw [e1]
  refine t11_par ?_
  rw [par11_e _ (by omega), e2]
  exact h
/-- the k-th of the places that are p's -/
def kth (p : Nat → Bool) : Nat → Nat → Nat → Option Nat
  | _, 0, _ => none
  | j, d + 1, 0 => if p j then some j else kth p (j + 1) d 0
  | j, d + 1, k + 1 => if p j then kth p (j + 1) d k else kth p (j + 1) d (k + 1)
theorem kth_filter (p : Nat → Bool) : ∀ (d j k : Nat), kth p j d k = ((List.range' j d).filter p)[k]?
  | 0, _, _ => by simp [kth]
  | d + 1, j, 0 => by
    rw [kth, List.range'_succ, List.filter_cons]
    by_cases hp : p j = true
    · rw [if_pos hp, if_pos hp]; rfl
    · rw [if_neg hp, if_neg hp]; exact kth_filter p d (j + 1) 0
  | d + 1, j, k + 1 => by
    rw [kth, List.range'_succ, List.filter_cons]
    by_cases hp : p j = true
    · rw [if_pos hp, if_pos hp, List.getElem?_cons_succ]; exact kth_filter p d (j + 1) k
    · rw [if_neg hp, if_neg hp]; exact kth_filter p d (j + 1) (k + 1)
theorem snd_kth (T : Txt) (b k : Nat) : (sndL T b)[k]? = kth (fun i => T 6 (3 * i) == b) 0 (T 0 1) k := by
  rw [kth_filter, sndL, List.range_eq_range']
def bitV (x : Bool) : Int32 := if x then 1 else 0
theorem shr_bit {n k : Nat} (hn : n < 2 ^ 31) (hk : k < 31) : ((nI n >>> (nI k &&& 31)) &&& 1) = bitV (n.testBit k) := by
  have hs : ∀ k, k < 31 → ((nI k &&& 31 : Int32).toBitVec.smod 32).toNat = k := by decide +kernel
  rw [pk_shrN hn (nI k &&& 31) k (hs k hk), pk_andN (n := n / 2 ^ k) (Nat.lt_of_le_of_lt (Nat.div_le_self _ _) (by omega)) (m := 1) 1 (by decide)]
  have e := Nat.testBit_eq_decide_div_mod_eq (x := n) (i := k)
  rw [show (2 : Nat) ^ 1 = 2 from rfl, bitV]
  rcases Nat.mod_two_eq_zero_or_one (n / 2 ^ k) with z | z
  · rw [e, z]; rfl
  · rw [e, z]; rfl
theorem num_e {j : Nat} (hj : j < 2 ^ 30) : (15 : Int32) - (nI j - nI j / 16 * 16) = nI (15 - j % 16) := by
  rw [show (16 : Int32) = nI 16 from rfl, pk_rem (by omega) (by decide) (by decide), show (15 : Int32) = nI 15 from rfl, pk_sub (by omega)]
theorem whi_e {j S : Nat} (hj : j < 2 ^ 30) (hS : 0 < S) (hS2 : S ≤ 10) : (nI j / 16) - (nI j / 16) / nI S * nI S = nI (j / 16 % S) := by
  rw [show (16 : Int32) = nI 16 from rfl, pk_div (by omega) (by decide) (by decide), pk_rem (by omega) hS (by omega)]
/-- the class's bit of a number of 0 at least -/
theorem t10_bitAt {T : Txt} {b q j : Nat} (h1 : TB T) (hb : b < T 0 0) (hj : j < 2 ^ 30) {X : Mem} (hB : BX T b q X) {Q : Int32 → Mem → Prop} (h : Q (bitV (bitN T b j)) X) : p_X0_bitAt q (nI j) X Q := by
  have tb := h1.2.2.2.2.2.2.2.2.2.2.2.2.1 b hb
  obtain ⟨-, -, -, -, -, -, -, -, -, t9, -⟩ := tb
  obtain ⟨-, -, -, -, -, -, xs, -, -, xf⟩ := hB
  have hS10 : T (1 + b) 9 ≤ 10 := by
    rw [t9]
    have := List.length_filter_le (fun i => T 6 (3 * i) == b) (List.range (T 0 1))
    rw [List.length_range] at this
    have h2 := h1.2.1
    unfold sndL
    omega
  refine ⟨fun z => absurd z (nI_pos (by omega)), fun _ => ?_⟩
  rw [xs]
  refine ⟨fun hpos => ?_, fun hno => ?_⟩
  · have hS : 0 < T (1 + b) 9 := by
      rcases Nat.eq_zero_or_pos (T (1 + b) 9) with z | z
      · rw [z] at hpos; exact absurd hpos (by decide)
      · exact z
    rw [whi_e hj hS hS10, nI_clamp (by have := Nat.mod_lt (j / 16) hS; omega), num_e hj]
    have hm := Nat.mod_lt (j / 16) hS
    refine ⟨nI_ne0 hS (by omega), vp_in_nI (by omega) (by omega), ?_⟩
    rintro x5 rfl
    have hlt : j / 16 % T (1 + b) 9 < (sndL T b).length := by rw [← t9]; exact hm
    have hk : (sndL T b)[j / 16 % T (1 + b) 9]? = some ((sndL T b).getD (j / 16 % T (1 + b) 9) 0) := by
      rw [List.getD_eq_getElem?_getD, List.getElem?_eq_getElem hlt]; rfl
    have hi : (sndL T b).getD (j / 16 % T (1 + b) 9) 0 < T 0 1 := by
      have := List.mem_of_getElem? hk
      unfold sndL at this
      exact List.mem_range.mp (List.mem_filter.mp this).1
    obtain ⟨_, s1, s2⟩ := h1.2.2.2.2.2.2.2.2.2.2.2.2.2 _ hi
    obtain ⟨_, _, f3⟩ := frm_e _ s1 _ s2
    rw [xf _ _ hk, ush_bit (by omega) (by omega)]
    have e : bitN T b j = (frmN (T 6 (3 * ((sndL T b).getD (j / 16 % T (1 + b) 9) 0) + 1)) (T 6 (3 * ((sndL T b).getD (j / 16 % T (1 + b) 9) 0) + 2))).testBit (15 - j % 16) := by
      unfold bitN
      rw [if_neg (by omega)]
      rfl
    rw [e] at h
    exact h
  · have hS : T (1 + b) 9 = 0 := by
      rcases Nat.eq_zero_or_pos (T (1 + b) 9) with z | z
      · exact z
      · exact absurd (by rw [show (0 : Int32) = nI 0 from rfl]; exact nI_lt z (by omega)) hno
    have e : bitN T b j = false := by unfold bitN; rw [if_pos (Or.inr hS)]
    rw [e] at h
    exact h
/-- the reference's bit -/
theorem t11_sent_l {T : Txt} {b j : Nat} (h1 : TB T) {Y : Mem} (h5 : TYr T Y) (hj : j < 2 ^ 30) {Q : Int32 → Mem → Prop} : ∀ (d i k : Nat), i + d = T 0 1 → k < 2 ^ 30 → (∃ u, kth (fun i => T 6 (3 * i) == b) i d k = some u ∧ u < T 0 1 ∧ Q (bitV ((frmN (T 6 (3 * u + 1)) (T 6 (3 * u + 2))).testBit (15 - j % 16))) Y) → b_X11_sentBit_29 Q (d + 1) (nI b) (nI j) (nI k) (nI i) Y := by
  have hns := h1.2.1
  have hs := h1.2.2.2.2.2.2.2.2.2.2.2.2.2
  have hy := h5.2.2.2.1
  intro d
  induction d with
  | zero =>
    intro i k hi hk hu
    obtain ⟨u, hu, _⟩ := hu
    simp [kth] at hu
  | succ d ih =>
    intro i k hi hk hu
    have hin : i < T 0 1 := by omega
    obtain ⟨s0, s1, s2⟩ := hs i hin
    have y0 := hy i hin 0 (by decide)
    have y1 := hy i hin 1 (by decide)
    have y2 := hy i hin 2 (by decide)
    rw [Nat.add_zero] at y0
    refine ⟨fun z => absurd z (by rw [h5.2.1]; exact nI_ge (by omega) (by omega)), fun _ => ?_⟩
    rw [show (3 : Int32) * nI i = nI (3 * i) from pk_mul 3 i, nI_clamp (by omega), y0]
    refine ⟨vp_in_nI (by omega) (by omega), fun he => ?_, fun hne => ?_⟩
    · have heq : T 6 (3 * i) = b := by
        have hnb := h1.1
        rcases Nat.lt_or_ge b (2 ^ 31) with z | z
        · exact (nI_eq (by omega) z).mp he
        · exfalso
          obtain ⟨u, hu, hul, _⟩ := hu
          rw [kth_filter] at hu
          have := (List.mem_filter.mp (List.mem_of_getElem? hu)).2
          have hb := (hs u hul).1
          simp only [beq_iff_eq] at this
          omega
      have hp : (fun i => T 6 (3 * i) == b) i = true := by simp [heq]
      cases k with
      | zero =>
        refine ⟨fun z => absurd rfl z, fun _ => ?_⟩
        obtain ⟨u, hu, hul, hq⟩ := hu
        rw [kth, if_pos hp] at hu
        cases hu
        show vp_in ((3 : Int32) * nI i + 1) 60 ∧ vp_in ((3 : Int32) * nI i + 2) 60 ∧ p_X11_frameOf (Y.1 44 0 ((3 : Int32) * nI i + 1).toNatClampNeg) (Y.1 44 0 ((3 : Int32) * nI i + 2).toNatClampNeg) Y (fun r14 M14 => Q ((r14 >>> (((15 : Int32) - (nI j - nI j / 16 * 16)) &&& 31)) &&& 1) M14)
        rw [show (3 : Int32) * nI i = nI (3 * i) from pk_mul 3 i, show nI (3 * i) + 1 = nI (3 * i + 1) from nI_add _ 1, show nI (3 * i) + 2 = nI (3 * i + 2) from nI_add _ 2, nI_clamp (by omega), nI_clamp (by omega), y1, y2, num_e hj]
        refine ⟨vp_in_nI (by omega) (by omega), vp_in_nI (by omega) (by omega), t11_frameOf s1 s2 ?_⟩
        obtain ⟨_, _, f3⟩ := frm_e _ s1 _ s2
        show Q ((nI _ >>> (nI (15 - j % 16) &&& 31)) &&& 1) Y
        rw [shr_bit (by omega) (by omega)]
        exact hq
      | succ k =>
        refine ⟨fun _ => ?_, fun z => absurd z (nI_ne0 (by omega) (by omega))⟩
        rintro x10 rfl x11 rfl
        rw [nI_1, pk_m1]
        refine ih (i + 1) k (by omega) (by omega) ?_
        rw [kth, if_pos hp] at hu
        exact hu
    · have hp : ¬ (fun i => T 6 (3 * i) == b) i = true := by
        simp only [beq_iff_eq]
        exact fun z => hne (by rw [z])
      rintro x11 rfl
      rw [nI_1]
      refine ih (i + 1) k (by omega) hk ?_
      cases k with
      | zero => rw [kth, if_neg hp] at hu; exact hu
      | succ k => rw [kth, if_neg hp] at hu; exact hu
theorem t11_sentBit {T : Txt} {b j : Nat} (h1 : TB T) (hb : b < T 0 0) (hj : j < 2 ^ 30) {Y : Mem} (h5 : TYr T Y) {Q : Int32 → Mem → Prop} (h : Q (bitV (bitN T b j)) Y) : p_X11_sentBit (nI b) (nI j) Y Q := by
  have hnb := h1.1
  have tb := h1.2.2.2.2.2.2.2.2.2.2.2.2.1 b hb
  obtain ⟨-, -, -, -, -, -, -, -, -, t9, -⟩ := tb
  have hS10 : T (1 + b) 9 ≤ 10 := by
    rw [t9]
    have := List.length_filter_le (fun i => T 6 (3 * i) == b) (List.range (T 0 1))
    rw [List.length_range] at this
    have h2 := h1.2.1
    unfold sndL
    omega
  refine t11_birdOf (k := 9) (by omega) (by decide) (by omega) ?_
  rw [h5.2.2.1 b 9 hb (by decide)]
  refine ⟨fun z => absurd z (nI_pos (by omega)), fun _ => ⟨fun hne => ?_, fun he => ?_⟩⟩
  · have hS : 0 < T (1 + b) 9 := by
      rcases Nat.eq_zero_or_pos (T (1 + b) 9) with z | z
      · exact absurd (by rw [z]; rfl) hne
      · exact z
    refine ⟨hne, ?_⟩
    rintro x5 rfl
    rw [whi_e hj hS hS10]
    have hm := Nat.mod_lt (j / 16) hS
    have hlt : j / 16 % T (1 + b) 9 < (sndL T b).length := by rw [← t9]; exact hm
    have hk : (sndL T b)[j / 16 % T (1 + b) 9]? = some ((sndL T b).getD (j / 16 % T (1 + b) 9) 0) := by
      rw [List.getD_eq_getElem?_getD, List.getElem?_eq_getElem hlt]; rfl
    have hi : (sndL T b).getD (j / 16 % T (1 + b) 9) 0 < T 0 1 := by
      have := List.mem_of_getElem? hk
      unfold sndL at this
      exact List.mem_range.mp (List.mem_filter.mp this).1
    refine ⟨T 0 1 + 1, t11_sent_l h1 h5 hj (T 0 1) 0 _ (by omega) (by omega) ⟨_, (snd_kth T b _).symm.trans hk, hi, ?_⟩⟩
    have e : bitN T b j = (frmN (T 6 (3 * ((sndL T b).getD (j / 16 % T (1 + b) 9) 0) + 1)) (T 6 (3 * ((sndL T b).getD (j / 16 % T (1 + b) 9) 0) + 2))).testBit (15 - j % 16) := by
      unfold bitN
      rw [if_neg (by omega)]
      rfl
    rw [e] at h
    exact h
  · have hS : T (1 + b) 9 = 0 := (nI_eq0 (by omega)).mp he
    have e : bitN T b j = false := by unfold bitN; rw [if_pos (Or.inr hS)]
    rw [e] at h
    exact h
/-- op 11: bit -/
theorem op_11 (X Y : Mem) (a1 a2 : Int32) (hR : Rel X Y) : p_X10_bit a1 a2 X (fun r X1 => p_X11_bit a1 a2 Y (fun r1 Y1 => r = r1 ∧ Rel X1 Y1)) := by
  obtain ⟨T, w, h1, h2, h3, h4, h5, h6, h7, h8, h9, h10, h11, h12, h13⟩ := id hR
  have hnb := h1.1
  have hYb : (sI Y 40 0 2 0).1 40 0 11 = nI (T 0 0) := by rw [sI_n (by omega)]; exact h5.1
  have h5' : TYr T (sI Y 40 0 2 0) := h5.ag h1 (AgYt.set rfl)
  have R := hR.th 0
  have no1 : (a1 < 0 ∨ nI (T 0 0) ≤ a1) → p_X10_bit a1 a2 X (fun r X1 => p_X11_bit a1 a2 Y (fun r1 Y1 => r = r1 ∧ Rel X1 Y1)) := fun h =>
    t10_isBird0 h2 h3.1 h ⟨fun _ => by
      rintro M1 rfl
      exact t11_isBird0 hYb h ⟨fun _ => ⟨rfl, R⟩, fun z => absurd rfl z⟩, fun z => absurd rfl z⟩
  rcases pk_ix a1 (n := T 0 0) (by omega) with h | h | ⟨b, hb, rfl⟩
  · exact no1 (Or.inl h)
  · exact no1 (Or.inr h)
  have no2 : (a2 < 0 ∨ 199 < a2) → p_X11_bit (nI b) a2 Y (fun r1 Y1 => -1 = r1 ∧ Rel X Y1) := by
    rintro h M1 rfl
    refine t11_isBird1 hYb hnb hb ⟨fun z => absurd z (by decide), fun _ => t_isIn (fun _ => ⟨fun _ => ⟨rfl, R⟩, fun z => absurd rfl z⟩) (fun x y => (h.elim x y).elim)⟩
  refine t10_isBird1 h2 h3.1 hnb hb ⟨fun z => absurd z (by decide), fun _ => ⟨fun h => no2 (Or.inl h), fun h => ⟨fun h' => ⟨w, h2.2.1, h2.1, vp_in_nI (by omega) (by omega), ?_⟩, fun h' => no2 (Or.inr (Int32.not_le.mp h'))⟩⟩⟩
  obtain ⟨i, hi, rfl⟩ : ∃ i, i < 200 ∧ a2 = nI i := by
    rcases pk_ix a2 (n := 200) (by decide) with z | z | z
    · exact absurd z h
    · exact absurd (Int32.le_trans z h') (by decide)
    · exact z
  rw [nI_clamp (by omega)]
  refine t10_bitAt h1 hb (by omega) (h3.2.2.2.2.2.2.2.2.2 b hb) ?_
  rintro M1 rfl
  refine t11_isBird1 hYb hnb hb ⟨fun z => absurd z (by decide), fun _ => t_isIn (fun z => ?_) (fun _ _ => ⟨fun z => absurd z (by decide), fun _ => t11_sentBit h1 hb (by omega) h5' ⟨rfl, R⟩⟩)⟩
  exact (z.elim h (fun y => nI_nlt (a := 199) (b := i) (by omega) (by omega) y)).elim
