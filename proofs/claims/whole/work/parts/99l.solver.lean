/-! Solver's constructor: its row of roots -/
def wSv (g : Geo) (h0 qa qb qc : Nat) (f : Nat → Int32) : va_W := [(h0, .inr (7, [.int 0, .int 0, .int 0, .int 0, .int 0, .int 0, .int 0, .ref qa, .ref qb, .ref qc])), (qa, .inl (g.2.2.1 3, 5, .inr (.inr (.inr (.inr (fun _ => none)))))), (qb, .inl (g.2.2.1 0, 5, .inl (fun _ => 0))), (qc, .inl (g.2.2.1 0, 676, .inl f))]
section SVR
variable {p : Program} {l : Launch} {e : Env} {R : Room} {s : State} {m : MethodId} {args : Array Value} {below : List Frame} {meth : Method} {c : Code} {Q : State → Prop} {g : Geo} {cells slots : Nat} {A : Nat → Prop} {h0 qa qb qc : Nat}
theorem k_X7_41 (C : CK g p s m args meth c cX7_init 3 none RX7) {f : Nat → Int32} : ∀ (n r i : Nat), i < 676 → r * r ≤ 16 * i → 104 < r + n → ∀ {H : Heap} {locs : List Loc} {ls : Array Slot}, lv_has ls 3 [(2, .int (nI i)), (1, .int (nI r)), (0, .ref h0)] → va_P g.1 clz (wSv g h0 qa qb qc f) H → (∀ (r' : Nat) (ls : Array Slot), isRoot r' i → lv_has ls 3 [(2, .int (nI i)), (1, .int (nI r')), (0, .ref h0)] → W p l e R s m args below meth c H locs cells slots Q (F0 m 72 ls [])) → W p l e R s m args below meth c H locs cells slots Q (F0 m 41 ls []) := by
  intro n
  induction n with
  | zero =>
    intro r i hi hr hn
    exfalso
    have : 105 * 105 ≤ r * r := Nat.mul_le_mul (by omega) (by omega)
    omega
  | succ n ih =>
    intro r i hi hr hn H locs ls hl hP kk
    have hr1 : r < 105 := Nat.lt_of_not_le (fun z => by
      have : 105 * 105 ≤ r * r := Nat.mul_le_mul z z
      omega)
    have hrr : (r + 1) * (r + 1) ≤ 105 * 105 := Nat.mul_le_mul (by omega) (by omega)
    refine lv_iload_n C.1 C.2.1 dX7_init_41 rfl (lv_at hl 1 rfl) ?_
    refine lv_iconst (v := 4) C.1 C.2.1 dX7_init_42 (by decide) ?_
    refine lv_aload_n C.1 C.2.1 dX7_init_43 rfl (lv_at hl 2 rfl) ?_
    refine va_get (D := g.1) (ci := 7) (v := .ref qc) (C := RX7) (T := TX7) (N := 10) C.1 C.2.1 C.2.2.2.2.2.1 inb_X7 C.2.2.2.2.1 C.2.2.2.2.2.2.2.1 hP 0 rfl rfl 9 (by decide) (C.2.2.2.2.2.1 _ (bg_of 556 (by decide +kernel) rfl)) (fun _ h => h) rfl dX7_init_44 ?_
    refine va_alen (v := 676) C.1 C.2.1 C.2.2.2.2.2.2.2.1 hP 3 0 rfl rfl rfl dX7_init_47 ?_
    refine lv_imul C.1 C.2.1 dX7_init_48 ?_
    refine lv_icmp_ge (tgt := 72) C.1 C.2.1 dX7_init_49 (by decide) (fun z => absurd z (nI_ge (a := r) (b := 2704) (by omega) (by decide))) (fun _ => ?_)
    refine lv_iload_n C.1 C.2.1 dX7_init_52 rfl (lv_at hl 1 rfl) ?_
    refine lv_iconst (v := 1) C.1 C.2.1 dX7_init_53 (by decide) ?_
    refine lv_iadd C.1 C.2.1 dX7_init_54 ?_
    refine lv_iload_n C.1 C.2.1 dX7_init_55 rfl (lv_at hl 1 rfl) ?_
    refine lv_iconst (v := 1) C.1 C.2.1 dX7_init_56 (by decide) ?_
    refine lv_iadd C.1 C.2.1 dX7_init_57 ?_
    refine lv_imul C.1 C.2.1 dX7_init_58 ?_
    refine lv_bipush (v := 16) C.1 C.2.1 dX7_init_59 (by decide) ?_
    refine lv_iload_n C.1 C.2.1 dX7_init_61 rfl (lv_at hl 0 rfl) ?_
    refine lv_imul C.1 C.2.1 dX7_init_62 ?_
    have e1 : (nI r + 1) * (nI r + 1) = nI ((r + 1) * (r + 1)) := by rw [nI_1, pk_mul]
    have e2 : (16 : Int32) * nI i = nI (16 * i) := pk_mul 16 i
    refine lv_icmp_gt (tgt := 72) C.1 C.2.1 dX7_init_63 (by decide) (fun z => ?_) (fun z => ?_)
    · rw [e1, e2, nI_ltI (by omega) (by omega)] at z
      exact kk r ls ⟨hr, z⟩ hl
    · rw [e1, e2, nI_ltI (by omega) (by omega)] at z
      refine lv_iinc (v := nI (r + 1)) (lv' := [(1, .int (nI (r + 1))), (2, .int (nI i)), (0, .ref h0)]) C.1 C.2.1 dX7_init_66 hl (k := 1) rfl (by exact nI_1 r) (by decide) rfl (fun ls hl => ?_)
      refine lv_goto (tgt := 41) C.1 C.2.1 dX7_init_69 (by decide) ?_
      exact ih (r + 1) i hi (by omega) (by omega) (lv_sub hl [1, 0, 2] rfl) hP kk
theorem k_X7_32 (C : CK g p s m args meth c cX7_init 3 none RX7) : ∀ (n r i : Nat) (f : Nat → Int32), i + n = 676 → r * r ≤ 16 * i → (∀ k, k < i → ∃ r, isRoot r k ∧ f k = nI r) → ∀ {H : Heap} {locs : List Loc} {ls : Array Slot}, lv_has ls 3 [(2, .int (nI i)), (1, .int (nI r)), (0, .ref h0)] → va_P g.1 clz (wSv g h0 qa qb qc f) H → va_D A (wSv g h0 qa qb qc f) → va_S A s.heap H locs → (∀ (f : Nat → Int32) (H : Heap) (locs : List Loc) (ls : Array Slot), (∀ k, k < 676 → ∃ r, isRoot r k ∧ f k = nI r) → va_P g.1 clz (wSv g h0 qa qb qc f) H → va_D A (wSv g h0 qa qb qc f) → va_S A s.heap H locs → W p l e R s m args below meth c H locs cells slots Q (F0 m 85 ls [])) → W p l e R s m args below meth c H locs cells slots Q (F0 m 32 ls []) := by
  intro n
  induction n with
  | zero =>
    intro r i f hn hr hf H locs ls hl hP hD hS kk
    have : i = 676 := by omega
    subst this
    refine lv_iload_n C.1 C.2.1 dX7_init_32 rfl (lv_at hl 0 rfl) ?_
    refine lv_aload_n C.1 C.2.1 dX7_init_33 rfl (lv_at hl 2 rfl) ?_
    refine va_get (D := g.1) (ci := 7) (v := .ref qc) (C := RX7) (T := TX7) (N := 10) C.1 C.2.1 C.2.2.2.2.2.1 inb_X7 C.2.2.2.2.1 C.2.2.2.2.2.2.2.1 hP 0 rfl rfl 9 (by decide) (C.2.2.2.2.2.1 _ (bg_of 556 (by decide +kernel) rfl)) (fun _ h => h) rfl dX7_init_34 ?_
    refine va_alen (v := 676) C.1 C.2.1 C.2.2.2.2.2.2.2.1 hP 3 0 rfl rfl rfl dX7_init_37 ?_
    refine lv_icmp_ge (tgt := 85) C.1 C.2.1 dX7_init_38 (by decide) (fun _ => ?_) (fun z => absurd (nI_le (a := 676) (b := 676) (by omega) (by decide)) z)
    exact kk f H locs ls hf hP hD hS
  | succ n ih =>
    intro r i f hn hr hf H locs ls hl hP hD hS kk
    have hi : i < 676 := by omega
    refine lv_iload_n C.1 C.2.1 dX7_init_32 rfl (lv_at hl 0 rfl) ?_
    refine lv_aload_n C.1 C.2.1 dX7_init_33 rfl (lv_at hl 2 rfl) ?_
    refine va_get (D := g.1) (ci := 7) (v := .ref qc) (C := RX7) (T := TX7) (N := 10) C.1 C.2.1 C.2.2.2.2.2.1 inb_X7 C.2.2.2.2.1 C.2.2.2.2.2.2.2.1 hP 0 rfl rfl 9 (by decide) (C.2.2.2.2.2.1 _ (bg_of 556 (by decide +kernel) rfl)) (fun _ h => h) rfl dX7_init_34 ?_
    refine va_alen (v := 676) C.1 C.2.1 C.2.2.2.2.2.2.2.1 hP 3 0 rfl rfl rfl dX7_init_37 ?_
    refine lv_icmp_ge (tgt := 85) C.1 C.2.1 dX7_init_38 (by decide) (fun z => absurd z (nI_ge (a := i) (b := 676) hi (by decide))) (fun _ => ?_)
    refine k_X7_41 (qa := qa) (qb := qb) C (f := f) 105 r i hi hr (by omega) hl hP (fun r ls hro hl => ?_)
    refine lv_aload_n C.1 C.2.1 dX7_init_72 rfl (lv_at hl 2 rfl) ?_
    refine va_get (D := g.1) (ci := 7) (v := .ref qc) (C := RX7) (T := TX7) (N := 10) C.1 C.2.1 C.2.2.2.2.2.1 inb_X7 C.2.2.2.2.1 C.2.2.2.2.2.2.2.1 hP 0 rfl rfl 9 (by decide) (C.2.2.2.2.2.1 _ (bg_of 556 (by decide +kernel) rfl)) (fun _ h => h) rfl dX7_init_73 ?_
    refine lv_iload_n C.1 C.2.1 dX7_init_76 rfl (lv_at hl 0 rfl) ?_
    refine lv_iload_n C.1 C.2.1 dX7_init_77 rfl (lv_at hl 1 rfl) ?_
    refine va_iast C.1 C.2.1 C.2.2.2.2.2.2.2.1 hP hD hS 3 0 rfl rfl (vp_in_nI hi (by decide)) dX7_init_78 (fun H locs hP hD hS => ?_)
    have hP : va_P g.1 clz (wSv g h0 qa qb qc (upd f (nI i).toNatClampNeg (nI r))) H := hP
    have hD : va_D A (wSv g h0 qa qb qc (upd f (nI i).toNatClampNeg (nI r))) := hD
    rw [nI_clamp (by omega)] at hP hD
    refine lv_iinc (v := nI (i + 1)) (lv' := [(2, .int (nI (i + 1))), (1, .int (nI r)), (0, .ref h0)]) C.1 C.2.1 dX7_init_79 hl (k := 0) rfl (by exact nI_1 i) (by decide) rfl (fun ls hl => ?_)
    refine lv_goto (tgt := 32) C.1 C.2.1 dX7_init_82 (by decide) ?_
    refine ih r (i + 1) _ (by omega) (by have := hro.1; omega) (fun k hk => ?_) hl hP hD hS kk
    by_cases h : k = i
    · subst h
      exact ⟨r, hro, by simp [upd]⟩
    · obtain ⟨r', h1, h2⟩ := hf k (by omega)
      exact ⟨r', h1, by simp [upd, h, h2]⟩
end SVR
