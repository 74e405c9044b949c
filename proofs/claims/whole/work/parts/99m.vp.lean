section KVP
variable {p : Program} {l : Launch} {e : Env} {R : Room} {s : State} {m : MethodId} {args : Array Value} {below : List Frame} {meth : Method} {c : Code} {H : Heap} {locs : List Loc} {cells slots : Nat} {Q : State → Prop} {g : Geo} {pc : Nat} {ls : Array Slot} {rest : List Value} {wc pre : va_W} {A : Nat → Prop}
/-- behind a constructor that tells something of what it made -/
theorem kgoVp {T : Type} {post : T → Prop} {w1 : T → va_W} {a : Array Value} {st0 : List Value} {mc ms : Nat} (hr : va_Run p l e R s m args below meth c H locs cells slots mc ms (F0 m pc ls st0) rest (va_Qv post (fun u t => va_P g.1 clz (w1 u) t.heap ∧ va_D (va_A wc H.size) (w1 u)) (va_A wc H.size) a) (va_A wc H.size)) (hP : va_P g.1 clz (pre ++ wc) H) (hD : va_D A (pre ++ wc)) (hS : va_S A s.heap H locs) (hA : ∀ q, s.heap.size ≤ q → A q)
    (kk : ∀ (u : T), post u → ∀ (H1 : Heap) (locs1 : List Loc), va_P g.1 clz (pre ++ w1 u) H1 → va_D A (pre ++ w1 u) → va_S A s.heap H1 locs1 → W p l e R s m args below meth c H1 locs1 (cells + mc) (slots + ms) Q (F0 m (pc + 3) ls rest)) : W p l e R s m args below meth c H locs cells slots Q (F0 m pc ls st0) := by
  have hF : ∀ q, va_A wc H.size q → A q := fun q h => by
    rcases dk_A.mp h with ⟨x, hx, rfl⟩ | h
    · exact (dk_iff.mp hD).2 x (by simp [hx])
    · exact hA q (Nat.le_trans hS.1 h)
  refine va_callv hr hS (fun q _ h => hF q h) hF (fun u t H1 locs1 ht _ hp hB _ hk1 hS1 => ?_)
  obtain ⟨hP1, hD1⟩ := hB
  rw [ht] at hP1
  have hP' : va_P g.1 clz (pre ++ wc ++ []) H := by rw [List.append_nil]; exact hP
  have hD' : va_D A (pre ++ wc ++ []) := by rw [List.append_nil]; exact hD
  obtain ⟨hP2, hD2⟩ := kn_join hP' hD' hk1 hF hP1 hD1
  rw [List.append_nil] at hP2 hD2
  exact kk u hp H1 locs1 hP2 hD2 hS1
end KVP
/-- what the roots' row tells -/
def RootF (f : Nat → Int32) : Prop := ∀ k, k < 676 → ∃ r, isRoot r k ∧ f k = nI r
abbrev TM : Type := (Nat → Nat) × (Nat → Int32)
def wX7 (g : Geo) (h0 : Nat) (u : Nat → Nat) (f : Nat → Int32) : va_W := wSv g h0 (u 0) (u 1) (u 2) f
