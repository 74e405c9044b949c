/-! the law's own bird: the answer into o[0], or which throw came -/
def Ao (g : Geo) (o : Nat) : Nat → Prop := fun q => AX g q ∨ q = o
/-- what throwing and catching stand on -/
def TH (g : Geo) (o sa1 sa2 : Nat) (U : State) : Prop := vx_Zq Bundle.tN "UNASSIGNED_STACK" Bundle.steD (Ao g o) U U.heap ∧ vx_Zq Bundle.tN "SUPPRESSED_SENTINEL" Bundle.listD (Ao g o) U U.heap ∧ vk_R RX10 117 "no such bird" sa1 U ∧ vk_R RX10 124 "no such what" sa2 U ∧ (∀ w ∈ ngW, w.before #[] U = true) ∧ va_Nc NSE IOB U
theorem TH.tg {g : Geo} {o sa1 sa2 : Nat} {U : State} (h : TH g o sa1 sa2 U) : TG g sa1 sa2 U := ⟨⟨h.1.narrow (fun _ h => Or.inl h), h.2.1.narrow (fun _ h => Or.inl h), h.2.2.1, h.2.2.2.1⟩, h.2.2.2.2.1⟩
theorem cs_m {C T : String} {u U : State} (hvm : u.vm.Alike U.vm) (h : (Cond.castable C T).before #[] u = true) : (Cond.castable C T).before #[] U = true := by
  simp only [Cond.before, Cond.holds, Cond.value] at h ⊢
  simp only [hvm.findClass, hvm.assignable]
  exact h
theorem dc_m {x : MethodName} {u U : State} (hvm : u.vm.Alike U.vm) (h : (Cond.declares x).before #[] u = true) : (Cond.declares x).before #[] U = true := by
  have h1 : (Cond.declares x).before #[] (u.setVm U.vm) = true := by
    rw [Cond.declares_setVm hvm]
    exact h
  have e := Cond.onTables_vm (A := #[]) (A' := #[]) (U := u) (U' := U) U.vm (Cond.declares x) rfl
  have hU : U.setVm U.vm = U := rfl
  rw [hU] at e
  rw [← e]
  exact h1
theorem ng_m {u U : State} (hvm : u.vm.Alike U.vm) (h : ∀ w ∈ ngW, w.before #[] u = true) : ∀ w ∈ ngW, w.before #[] U = true := by
  intro w hw
  have h1 := h w hw
  rcases List.mem_cons.mp hw with rfl | hw
  · exact cs_m hvm h1
  rcases List.mem_cons.mp hw with rfl | hw
  · exact cs_m hvm h1
  rcases List.mem_cons.mp hw with rfl | hw
  · exact dc_m hvm h1
  rcases List.mem_cons.mp hw with rfl | hw
  · exact dc_m hvm h1
  rcases List.mem_cons.mp hw with rfl | hw
  · exact dc_m hvm h1
  · cases hw
theorem TH.next {g : Geo} {o sa1 sa2 : Nat} {s U : State} {H : Heap} {locs : List Loc} {A : Nat → Prop} (h : TH g o sa1 sa2 s) (hS : va_S A s.heap H locs) (hA : ∀ q, q < s.heap.size → A q → Ao g o q) (hU : U.heap = H) (hW : s.WarmedH U.vm) : TH g o sa1 sa2 U := by
  obtain ⟨h1, h2, h3, h4, h5, h6⟩ := h
  have hq : ∀ a : Nat, a < s.heap.size → ¬ Ao g o a → H[a]? = s.heap[a]? := fun a ha hn => hS.2.1 a ha (fun z => hn (hA a ha z))
  subst hU
  exact ⟨vx_Zq.moved hW.alike (h1.kept hq), vx_Zq.moved hW.alike (h2.kept hq), vk_R.warm hW h3, vk_R.warm hW h4, ng_m hW.alike h5, va_Nc.moved hW.alike h6⟩
def OUTv (g : Geo) (o : Nat) (v : Int64) (H : Heap) : Prop := ∃ f : Nat → Int64, va_P g.1 clz [(o, .inl (g.2.2.1 1, 1, .inr (.inl f)))] H ∧ f 0 = v
theorem OUT.v {g : Geo} {o : Nat} {H : Heap} (h : OUT g o H) : ∃ v, OUTv g o v H := by
  obtain ⟨f, hf⟩ := h
  exact ⟨f 0, f, hf, rfl⟩
theorem OUTv.out {g : Geo} {o : Nat} {v : Int64} {H : Heap} (h : OUTv g o v H) : OUT g o H := by
  obtain ⟨f, hf, -⟩ := h
  exact ⟨f, hf⟩
theorem one_o {o : Nat} {e : va_E} {k : Nat} {q : Nat × va_E} (h : ([(o, e)] : va_W)[k]? = some q) : q = (o, e) := by
  match k, h with
  | 0, h => cases h; rfl
  | k + 1, h => simp at h
theorem OUTv.kept {g : Geo} {o : Nat} {v : Int64} {H H1 : Heap} (h : OUTv g o v H) (hk : o < H.size → H1[o]? = H[o]?) : OUTv g o v H1 := by
  obtain ⟨f, hf, hv⟩ := h
  refine ⟨f, hf.kept (fun k q hq => ?_), hv⟩
  have hlt := (hf k q hq).lt
  rw [one_o hq] at hlt ⊢
  exact hk hlt
def yL_bird : MethodName := ⟨RL, "bird", "(LBirdCodes;II[J)I"⟩
def tL_bird : List (Nat × Nat × Nat × Nat) := [(0, 10, 13, 13), (0, 10, 17, 15)]
abbrev wL_bird : List Cond := Cond.codeWith yL_bird cL_bird 5 (some .int) tL_bird :: bg
abbrev rL_bird : Room := { frames := 7, cells := 1, slots := 6, locals := 130 }
theorem bl_c : Cond.codeWith yL_bird cL_bird 5 (some .int) tL_bird ∈ bg := bg_of 1195 (by decide +kernel) rfl
theorem lkL_39 : GoodIn bg (va_wsS RL 39 yL_bird wL_bird) := bg_good (bg_cons (bg_of 1193 (by decide +kernel) rfl) (bg_cons (bg_of 1194 (by decide +kernel) rfl) (bg_cons (List.mem_filter.mpr ⟨by decide +kernel, by decide +kernel⟩) (bg_cons bl_c bg_bg))))
theorem bl_13 : Cond.classLink RL 13 IOB ∈ bg := List.mem_filter.mpr ⟨by decide +kernel, by decide +kernel⟩
theorem bl_15 : Cond.classLink RL 15 NSE ∈ bg := List.mem_filter.mpr ⟨by decide +kernel, by decide +kernel⟩
/-- what law's bird needs at its start -/
def PL (g : Geo) (o sa1 sa2 : Nat) (M : Mem) (U : State) : Prop := PW g (xw g M) U ∧ TH g o sa1 sa2 U ∧ OUT g o U.heap
theorem PL.blind (g : Geo) (o sa1 sa2 : Nat) (M : Mem) (av : List Value) : FrameBlind (va_Pc av (PL g o sa1 sa2 M)) := fun a U f mk h => ⟨h.1, (PW.blind g (xw g M) av a U f mk ⟨h.1, h.2.1⟩).2, h.2.2.1.next (A := fun _ => False) (locs := []) va_S.rf (fun _ _ z => z.elim) rfl (State.WarmedH.refl U), h.2.2.2⟩
theorem TG.blind {g : Geo} {sa1 sa2 : Nat} {U : State} (h : TG g sa1 sa2 U) {f : JFrame} {mk : MethodId} {a : Array Value} : TG g sa1 sa2 (U.calling f mk a) :=
  ⟨⟨vx_Zq.moved (u := U) (U := U.calling f mk a) (Vm.Alike.refl U.vm) h.1.1, vx_Zq.moved (u := U) (U := U.calling f mk a) (Vm.Alike.refl U.vm) h.1.2.1, vk_R.same (u := U) (U := U.calling f mk a) rfl h.1.2.2.1, vk_R.same (u := U) (U := U.calling f mk a) rfl h.1.2.2.2⟩, ng_m (u := U) (U := U.calling f mk a) (Vm.Alike.refl U.vm) h.2⟩
theorem lx_P {g : Geo} {o : Nat} {e : va_E} {X : Mem} {H : Heap} (h1 : va_at g.1 clz (o, e) H) (h2 : va_P g.1 clz (xw g X) H) : va_P g.1 clz ((o, e) :: xw g X) H := fun k q hq => by
  match k, hq with
  | 0, hq => cases hq; exact h1
  | k + 1, hq => exact h2 k q hq
theorem lx_D {g : Geo} (gi : GI g) {o : Nat} (hoA : ¬ AX g o) {e : va_E} {X : Mem} : va_D (fun q => Af 0 g q ∨ q = o) ((o, e) :: xw g X) := ⟨fun i j p q hi hj hpq => by
    match i, j, hi, hj with
    | 0, 0, _, _ => rfl
    | 0, j + 1, hi, hj => cases hi; exact absurd (Af_AX ((xw_D gi X).2 j q hj)) (by rw [← hpq]; exact hoA)
    | i + 1, 0, hi, hj => cases hj; exact absurd (Af_AX ((xw_D gi X).2 i p hi)) (by rw [hpq]; exact hoA)
    | i + 1, j + 1, hi, hj => exact congrArg (· + 1) ((xw_D gi X).1 i j p q hi hj hpq), fun k q hq => by
    match k, hq with
    | 0, hq => cases hq; exact Or.inr rfl
    | k + 1, hq => exact Or.inl ((xw_D gi X).2 k q hq)⟩
