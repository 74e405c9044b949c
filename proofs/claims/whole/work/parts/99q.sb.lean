/-! static rows by a predicate of addresses; a row written number by number -/
def SB1 (g : Geo) (A : Nat → Prop) (n : String) (t N : Nat) (U : State) : Prop := va_Z "BirdCodes" n "[I" (.ref (g.2.2.2 t)) A U U.heap ∧ va_T .int (g.2.2.2 t) N (fun j => .int (stab t j)) A U U.heap
def SB (g : Geo) (A : Nat → Prop) (U : State) : Prop := SB1 g A "WORDS" 0 12 U ∧ SB1 g A "NUMBERS" 1 12 U ∧ SB1 g A "LEAST" 2 48 U ∧ SB1 g A "MOST" 3 48 U ∧ SB1 g A "TABLE" 4 16 U
theorem SB1.next {g : Geo} {A B : Nat → Prop} {n : String} {t N : Nat} {s U : State} {locs : List Loc} {H : Heap} (h : SB1 g A n t N s) (hS : va_S B s.heap H locs) (hBA : ∀ q, q < s.heap.size → B q → A q) (hU : U.heap = H) (hW : s.vm.Alike U.vm) : SB1 g A n t N U := by
  refine ⟨va_Z.moved hW ?_, va_T.moved hW ?_⟩
  · rw [hU]; exact va_Z.kept h.1 (fun a h1 h2 => hS.2.1 a h1 (fun z => h2 (hBA a h1 z)))
  · rw [hU]; exact va_T.kept h.2 (fun a h1 h2 => hS.2.1 a h1 (fun z => h2 (hBA a h1 z)))
theorem SB.next {g : Geo} {A B : Nat → Prop} {s U : State} {locs : List Loc} {H : Heap} (h : SB g A s) (hS : va_S B s.heap H locs) (hBA : ∀ q, q < s.heap.size → B q → A q) (hU : U.heap = H) (hW : s.vm.Alike U.vm) : SB g A U := ⟨h.1.next hS hBA hU hW, h.2.1.next hS hBA hU hW, h.2.2.1.next hS hBA hU hW, h.2.2.2.1.next hS hBA hU hW, h.2.2.2.2.next hS hBA hU hW⟩
theorem SB1.st {g G : Geo} {A : Nat → Prop} {n : String} {t N : Nat} {U : State} (h : SB1 g A n t N U) (hG : G.2.2.2 = g.2.2.2) (hA : ∀ q, AX G q → A q) : ST1 G n t N U := by
  unfold ST1
  rw [hG]
  exact ⟨h.1.narrow hA, h.2.narrow hA⟩
theorem SB.st {g G : Geo} {A : Nat → Prop} {U : State} (h : SB g A U) (hG : G.2.2.2 = g.2.2.2) (hA : ∀ q, AX G q → A q) : ST G U := ⟨h.1.st hG hA, h.2.1.st hG hA, h.2.2.1.st hG hA, h.2.2.2.1.st hG hA, h.2.2.2.2.st hG hA⟩
def tabF (L : List Int32) (j : Nat) : Nat → Int32 := fun k => if k < j then L.getD k 0 else 0
theorem tab_0 {n : Nat} (L : List Int32) (cA : ClassId) : vp_cell cA (n, .inl (tabF L 0)) = arrV cA n (fun _ => defaultValue .int) := by
  rw [vp_cell_i]
  exact arrV_congr (fun k _ => by simp only [tabF, Nat.not_lt_zero, if_false]; rfl)
theorem tab_s {L : List Int32} {j : Nat} {x : Int32} (hj : j < 2 ^ 31) (hx : L.getD j 0 = x) : upd (tabF L j) (nI j).toNatClampNeg x = tabF L (j + 1) := by
  rw [nI_clamp hj]
  funext k
  unfold upd tabF
  by_cases h : k = j
  · subst h
    rw [if_pos rfl, if_pos (Nat.lt_succ_self _), hx]
  · rw [if_neg h]
    by_cases h1 : k < j
    · rw [if_pos h1, if_pos (by omega)]
    · rw [if_neg h1, if_neg (by omega)]
section KTAB
variable {p : Program} {l : Launch} {e : Env} {R : Room} {s : State} {m : MethodId} {args : Array Value} {below : List Frame} {meth : Method} {c : Code} {H : Heap} {locs : List Loc} {cells slots : Nat} {Q : State → Prop} {g : Geo} {cc : ByteArray} {nL : Nat} {ret : Option FieldType} {own : String} {pc : Nat} {ls : Array Slot} {rest : List Value} {pre : va_W} {A : Nat → Prop}
theorem kn_tab (C : CK g p s m args meth c cc nL ret own) {a n : Nat} {L : List Int32} (j q0 : Nat) {i x : Int32} (hP : va_P g.1 clz (pre ++ [(a, .inl (g.2.2.1 0, n, .inl (tabF L j)))]) H) (hD : va_D A (pre ++ [(a, .inl (g.2.2.1 0, n, .inl (tabF L j)))])) (hS : va_S A s.heap H locs) (hq : pre.length = q0) (hj : j < n) (hn : n < 2 ^ 31) (hi : nI j = i) (hx : L.getD j 0 = x) (hdg : decode cc pc = .ok (.iastore, 1))
    (kk : ∀ (H1 : Heap) (locs1 : List Loc), va_P g.1 clz (pre ++ [(a, .inl (g.2.2.1 0, n, .inl (tabF L (j + 1))))]) H1 → va_D A (pre ++ [(a, .inl (g.2.2.1 0, n, .inl (tabF L (j + 1))))]) → va_S A s.heap H1 locs1 → W p l e R s m args below meth c H1 locs1 cells slots Q (F0 m (pc + 1) ls rest)) : W p l e R s m args below meth c H locs cells slots Q (F0 m pc ls (.int x :: .int i :: .ref a :: rest)) := by
  subst hi; subst hq
  have hset : ∀ e : va_E, ((pre ++ [(a, .inl (g.2.2.1 0, n, .inl (tabF L j)))] : va_W)).set pre.length (a, e) = pre ++ [(a, e)] := fun e => by
    rw [List.set_append_right _ _ (Nat.le_refl _), Nat.sub_self]; rfl
  refine va_iast C.1 C.2.1 C.2.2.2.2.2.2.2.1 hP hD hS pre.length 0 (by rw [List.getElem?_append_right (Nat.le_refl _), Nat.sub_self]; rfl) rfl (vp_in_nI hj hn) hdg (fun H1 locs1 h1 h2 h3 => ?_)
  rw [hset, tab_s (by omega) hx] at h1 h2
  exact kk H1 locs1 h1 h2 h3
end KTAB
