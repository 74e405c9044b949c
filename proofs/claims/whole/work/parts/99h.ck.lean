/-! rows for constructors: worlds as lists, joined behind each call -/
theorem dk_iff {A : Nat → Prop} {ws : va_W} : va_D A ws ↔ ws.Pairwise (fun p q => p.1 ≠ q.1) ∧ ∀ q ∈ ws, A q.1 := by
  constructor
  · intro h
    refine ⟨List.pairwise_iff_getElem.mpr (fun i j hi hj hij he => ?_), fun q hq => ?_⟩
    · have := h.1 i j ws[i] ws[j] (List.getElem?_eq_getElem hi) (List.getElem?_eq_getElem hj) he
      omega
    · obtain ⟨k, hk⟩ := List.mem_iff_getElem?.mp hq
      exact h.2 k q hk
  · intro h
    refine ⟨fun i j p q hi hj he => ?_, fun k q hk => h.2 q (List.mem_of_getElem? hk)⟩
    obtain ⟨hi', rfl⟩ := List.getElem?_eq_some_iff.mp hi
    obtain ⟨hj', rfl⟩ := List.getElem?_eq_some_iff.mp hj
    rcases Nat.lt_trichotomy i j with h1 | h1 | h1
    · exact absurd he (List.pairwise_iff_getElem.mp h.1 i j hi' hj' h1)
    · exact h1
    · exact absurd he.symm (List.pairwise_iff_getElem.mp h.1 j i hj' hi' h1)
theorem dk_P {D : va_G} {cl : List vw_C} {ws : va_W} {H : Heap} : va_P D cl ws H ↔ ∀ q ∈ ws, va_at D cl q H := by
  constructor
  · intro h q hq
    obtain ⟨k, hk⟩ := List.mem_iff_getElem?.mp hq
    exact h k q hk
  · intro h k q hk
    exact h q (List.mem_of_getElem? hk)
theorem dk_A {ws : va_W} {sz q : Nat} : va_A ws sz q ↔ (∃ x ∈ ws, x.1 = q) ∨ sz ≤ q := by
  constructor
  · rintro (⟨k, e, h⟩ | h)
    · exact Or.inl ⟨(q, e), List.mem_of_getElem? h, rfl⟩
    · exact Or.inr h
  · rintro (⟨x, hx, rfl⟩ | h)
    · obtain ⟨k, hk⟩ := List.mem_iff_getElem?.mp hx
      exact Or.inl ⟨k, x.2, hk⟩
    · exact Or.inr h
theorem kn_join {A0 : Nat → Prop} {D : va_G} {cl : List vw_C} {pre wc post w1 : va_W} {H H1 : Heap} (hP : va_P D cl (pre ++ wc ++ post) H) (hD : va_D A0 (pre ++ wc ++ post)) (hk : ∀ q : Nat, q < H.size → ¬ va_A wc H.size q → H1[q]? = H[q]?) (hF : ∀ q, va_A wc H.size q → A0 q) (hP1 : va_P D cl w1 H1) (hD1 : va_D (va_A wc H.size) w1) : va_P D cl (pre ++ w1 ++ post) H1 ∧ va_D A0 (pre ++ w1 ++ post) := by
  rw [dk_iff] at hD hD1
  obtain ⟨hn, hA⟩ := hD
  obtain ⟨hn1, hA1⟩ := hD1
  have hlt : ∀ q ∈ pre ++ wc ++ post, q.1 < H.size := fun q hq => by
    obtain ⟨k, hk⟩ := List.mem_iff_getElem?.mp hq
    exact (hP k q hk).lt
  rw [List.pairwise_append, List.pairwise_append] at hn
  obtain ⟨⟨n1, n2, n3⟩, n4, n5⟩ := hn
  have a1 : ∀ x ∈ pre, ¬ va_A wc H.size x.1 := fun x hx z => by
    rcases dk_A.mp z with ⟨y, hy, he⟩ | h
    · exact n3 x hx y hy he.symm
    · exact absurd (hlt x (by simp [hx])) (by omega)
  have a2 : ∀ x ∈ post, ¬ va_A wc H.size x.1 := fun x hx z => by
    rcases dk_A.mp z with ⟨y, hy, he⟩ | h
    · exact n5 y (by simp [hy]) x hx he
    · exact absurd (hlt x (by simp [hx])) (by omega)
  have mem : ∀ x : Nat × va_E, x ∈ pre ++ w1 ++ post ↔ x ∈ pre ∨ x ∈ w1 ∨ x ∈ post := fun x => by simp
  have kept : ∀ x ∈ pre ++ wc ++ post, ¬ va_A wc H.size x.1 → va_at D cl x H1 := fun x hx hn => by
    have h1 : va_P D cl [x] H := dk_P.mpr (fun q hq => by cases List.mem_singleton.mp hq; exact dk_P.mp hP x hx)
    exact dk_P.mp (h1.kept (H1 := H1) (fun k q hq => by
      have := List.mem_singleton.mp (List.mem_of_getElem? hq)
      subst this
      exact hk q.1 (hlt q hx) hn)) x (by simp)
  refine ⟨dk_P.mpr (fun x hx => ?_), dk_iff.mpr ⟨?_, fun x hx => ?_⟩⟩
  · rcases (mem x).mp hx with h | h | h
    · exact kept x (by simp [h]) (a1 x h)
    · exact dk_P.mp hP1 x h
    · exact kept x (by simp [h]) (a2 x h)
  · rw [List.pairwise_append, List.pairwise_append]
    refine ⟨⟨n1, hn1, fun x hx y hy e => a1 x hx (by rw [e]; exact hA1 y hy)⟩, n4, fun x hx y hy e => ?_⟩
    rcases List.mem_append.mp hx with h | h
    · exact n5 x (by simp [h]) y hy e
    · exact a2 y hy (by rw [← e]; exact hA1 x h)
  · rcases (mem x).mp hx with h | h | h
    · exact hA x (by simp [h])
    · exact hF _ (hA1 x h)
    · exact hA x (by simp [h])
/-- classes of arrays of references -/
def AO (U : State) : Prop := va_AO "BirdCodes$Bird" U ∧ va_AO "BirdCodes$Channel" U ∧ va_AO "BirdCodes$State" U
theorem AO.moved {u U : State} (hvm : u.vm.Alike U.vm) (h : AO u) : AO U := ⟨va_AO.moved hvm h.1, va_AO.moved hvm h.2.1, va_AO.moved hvm h.2.2⟩
def CK (g : Geo) (p : Program) (s : State) (m : MethodId) (args : Array Value) (meth : Method) (c : Code) (cc : ByteArray) (nL : Nat) (ret : Option FieldType) (own : String) : Prop :=
  p.tables.exec = Jvm.exec ∧ c.code = cc ∧ c.maxLocals = nL ∧ meth.sig.returnType = ret ∧ s.vm.findClass own = some m.cls ∧ (∀ w ∈ bg, w.before args s = true) ∧ meth.locks = false ∧ va_K g.1 clz (xt g) s ∧ NS s ∧ AO s
/-- a constructor's start: a world of its own, so large the heap -/
def PS (g : Geo) (sz : Nat) (w : va_W) (U : State) : Prop := U.heap.size = sz ∧ va_P g.1 clz w U.heap ∧ va_D (fun _ => True) w ∧ va_K g.1 clz (xt g) U ∧ NS U ∧ AO U
theorem PS.blind (g : Geo) (sz : Nat) (w : va_W) (av : List Value) : FrameBlind (va_Pc av (PS g sz w)) := fun a U f mk h => ⟨h.1, h.2.1, h.2.2.1, h.2.2.2.1, va_K.moved (u := U) (U := U.calling f mk a) (Vm.Alike.refl U.vm) h.2.2.2.2.1, NS.same h.2.2.2.2.2.1 rfl, AO.moved (u := U) (U := U.calling f mk a) (Vm.Alike.refl U.vm) h.2.2.2.2.2.2⟩
theorem CK.start {g : Geo} {p : Program} {l : Launch} {y : MethodName} {cc : ByteArray} {nL : Nat} {ret : Option FieldType} {rm : Room} {e : Env} {s : State} {m : MethodId} {args : Array Value} {below : List Frame} {meth : Method} {c : Code} {s1 : State} {own : String} {w : va_W} {sz : Nat} (B : BodyLoose p l y (headSpec (Cond.code y cc nL ret :: bg) rm) cc nL ret e s m args below meth c s1) (hml : c.maxLocals = nL) (hy : y.cls = own) (h : PS g sz w s) : CK g p s m args meth c cc nL ret own :=
  ⟨B.exec, B.bytes, hml, B.returns, by rw [← hy]; exact findClass_of_methodNamed B.named, fun w hw => atoms_spec (ws := Cond.code y cc nL ret :: bg) B.pre w (List.mem_cons_of_mem _ hw), B.notSynchronized, h.2.2.2.1, h.2.2.2.2⟩
theorem kn_uni {U : State} {c1 c2 : ClassId} {ty : FieldType} (h1 : va_RA U c1 ty) (h2 : va_RA U c2 ty) : c1 = c2 := by
  cases ty with
  | object C =>
    obtain ⟨_, _, _, _, _, e1⟩ := h1
    obtain ⟨_, _, _, _, _, e2⟩ := h2
    exact Option.some.inj (e1.symm.trans e2)
  | _ => exact Option.some.inj (Eq.trans (Eq.symm h1) h2)
def LI (own : String) (idx : Nat) (y : MethodName) (bytes : ByteArray) (maxL : Nat) : Prop := GoodIn bg (Cond.code y bytes maxL none :: bg) ∧ Cond.initialized y.cls ∈ bg ∧ Cond.methodLink own idx y ∈ bg ∧ Cond.instanceMethod y ∈ bg ∧ y.name = "<init>" ∧ (y.cls ≠ "java/lang/invoke/MethodHandle" ∧ y.cls ≠ "java/lang/invoke/VarHandle" ∧ (parseMethodDescriptor y.desc).map (fun d => d.parameters.length) = some 0)
def LIN (own : String) (idx : Nat) (y : MethodName) (host : String) (bytes : ByteArray) (maxL : Nat) : Prop := GoodIn bg (Cond.code y bytes maxL none :: bg) ∧ Cond.initialized y.cls ∈ bg ∧ (∀ U, NS U → va_Nw (.methodLinkNest own idx y host) U) ∧ Cond.instanceMethod y ∈ bg ∧ y.name = "<init>" ∧ (y.cls ≠ "java/lang/invoke/MethodHandle" ∧ y.cls ≠ "java/lang/invoke/VarHandle" ∧ (parseMethodDescriptor y.desc).map (fun d => d.parameters.length) = some 0)
section CKS
variable {p : Program} {l : Launch} {e : Env} {R : Room} {s : State} {m : MethodId} {args : Array Value} {below : List Frame} {meth : Method} {c : Code} {H : Heap} {locs : List Loc} {cells slots : Nat} {Q : State → Prop} {g : Geo} {cc : ByteArray} {nL : Nat} {ret : Option FieldType} {own : String} {pc : Nat} {ls : Array Slot} {rest : List Value} {wc ws pre post : va_W} {A : Nat → Prop}
theorem kn_newa (C : CK g p s m args meth c cc nL ret own) (t0 : Nat) {atype : ArrayType} {ty : FieldType} {c0 : ClassId} (ht : (xt g)[t0]? = some (c0, ty)) (hty : newarray.typeOf atype = ty) (harr : Cond.arrayClass (newarray.typeOf atype) ∈ bg) (hP : va_P g.1 clz ws H) (hD : va_D A ws) (hS : va_S A s.heap H locs) (hA : ∀ q, s.heap.size ≤ q → A q) {n : Int32} {N' : Nat} {a0 : vp_A} (ha : ∀ cA : ClassId, vp_cell cA a0 = arrV cA N' (fun _ => defaultValue ty)) (hn : ¬ n < 0) (hN : n.toNatClampNeg = N') (hbytes : N' * componentBytes ty ≤ 536870912) (hcells : cells + 1 ≤ R.cells) (hslots : slots + N' ≤ R.slots) (hdg : decode cc pc = .ok (.newarray atype, 2))
    (kk : ∀ (q : Nat) (H1 : Heap), va_P g.1 clz (ws ++ [(q, .inl (c0, a0))]) H1 → va_D A (ws ++ [(q, .inl (c0, a0))]) → va_S A s.heap H1 locs → W p l e R s m args below meth c H1 locs (cells + 1) (slots + N') Q (F0 m (pc + 2) ls (.ref q :: rest))) : W p l e R s m args below meth c H locs cells slots Q (F0 m pc ls (.int n :: rest)) :=
  va_newa C.1 C.2.1 (C.2.2.2.2.2.1 _ harr) hty C.2.2.2.2.2.2.2.1 hP hD hS hA ha hn hN hbytes hcells hslots hdg (fun q cA H1 hK1 hP1 hD1 hS1 => by
    have e : cA = c0 := kn_uni ((hK1.2 (xt g).length _ List.getElem?_concat_length).2) ((C.2.2.2.2.2.2.2.1.2 t0 _ ht).2)
    rw [e] at hP1 hD1
    exact kk q H1 hP1 hD1 hS1)
theorem kn_newq (C : CK g p s m args meth c cc nL ret own) (t0 : Nat) {Cn : String} {index : Nat} {c0 : ClassId} (ht : (xt g)[t0]? = some (c0, .object Cn)) (hcl : Cond.classLink own index Cn ∈ bg) (hov : va_AO Cn s) (hP : va_P g.1 clz ws H) (hD : va_D A ws) (hS : va_S A s.heap H locs) (hA : ∀ q, s.heap.size ≤ q → A q) {n : Int32} {N' : Nat} (hn : ¬ n < 0) (hN : n.toNatClampNeg = N') (hbytes : N' * 4 ≤ 536870912) (hcells : cells + 1 ≤ R.cells) (hslots : slots + N' ≤ R.slots) (hdg : decode cc pc = .ok (.anewarray index, 3))
    (kk : ∀ (q : Nat) (H1 : Heap), va_P g.1 clz (ws ++ [(q, .inl (c0, N', .inr (.inr (.inr (.inr (fun _ => none))))))]) H1 → va_D A (ws ++ [(q, .inl (c0, N', .inr (.inr (.inr (.inr (fun _ => none))))))]) → va_S A s.heap H1 locs → W p l e R s m args below meth c H1 locs (cells + 1) (slots + N') Q (F0 m (pc + 3) ls (.ref q :: rest))) : W p l e R s m args below meth c H locs cells slots Q (F0 m pc ls (.int n :: rest)) :=
  va_newq C.1 C.2.1 C.2.2.2.2.1 (C.2.2.2.2.2.1 _ hcl) hov C.2.2.2.2.2.2.2.1 hP hD hS hA hn hN hbytes hcells hslots hdg (fun q cA H1 hK1 hP1 hD1 hS1 => by
    have e : cA = c0 := kn_uni ((hK1.2 (xt g).length _ List.getElem?_concat_length).2) ((C.2.2.2.2.2.2.2.1.2 t0 _ ht).2)
    rw [e] at hP1 hD1
    exact kk q H1 hP1 hD1 hS1)
theorem krunI (C : CK g p s m args meth c cc nL ret own) {idx : Nat} {y : MethodName} {bytes : ByteArray} {maxL mc ms : Nat} {rm : Room} {b : Nat} {Qc : Array Value → State → Outcome → State → Prop} {free : Addr → Prop} (lk : LI own idx y bytes maxL)
    (hM : Met l y (Cond.code y bytes maxL none :: bg) rm (va_Pc [.ref b] (PS g H.size wc)) Qc mc ms free) (hP : va_P g.1 clz (pre ++ wc ++ post) H) (hD : va_D A (pre ++ wc ++ post)) (hrc : rm.cells = mc) (hrs : rm.slots = ms) (hR : rm.frames + 1 ≤ R.frames ∧ 8 + (maxL + 11) + rm.locals ≤ R.locals)
    (hl : ls.size = nL) (hroom : (rest.map fun v => v.category).sum ≤ 8) (hdg : decode cc pc = .ok (.invokespecial idx, 3)) (hcs : cells + mc ≤ R.cells ∧ slots + ms ≤ R.slots) :
    va_Run p l e R s m args below meth c H locs cells slots mc ms (F0 m pc ls (.ref b :: rest)) rest (Qc [Value.ref b].toArray) free :=
  va_runI (As := []) ⟨C.1, C.2.1, C.2.2.1, C.2.2.2.2.1, C.2.2.2.2.2.1⟩ hM (cwI 0 C.2.2.2.2.2.1 lk.1 rfl hrc hrs (C.2.2.2.2.2.1 _ lk.2.1) (C.2.2.2.2.2.1 _ lk.2.2.1) (C.2.2.2.2.2.1 _ lk.2.2.2.1) lk.2.2.2.2.1 lk.2.2.2.2.2 hR) ⟨PS.blind g _ wc _, fun U hU hW => ⟨rfl, by rw [hU], by rw [hU]; exact dk_P.mpr (fun q hq => dk_P.mp hP q (by simp [hq])), dk_iff.mpr ⟨(List.pairwise_append.mp (List.pairwise_append.mp (dk_iff.mp hD).1).1).2.1, fun _ _ => trivial⟩, va_K.moved hW.alike C.2.2.2.2.2.2.2.1, NS.warm C.2.2.2.2.2.2.2.2.1 hW, AO.moved hW.alike C.2.2.2.2.2.2.2.2.2⟩⟩ rfl rfl hl rfl (lv_room hroom) hdg hcs
theorem krunIN (C : CK g p s m args meth c cc nL ret own) {idx : Nat} {y : MethodName} {host : String} {bytes : ByteArray} {maxL mc ms : Nat} {rm : Room} {b : Nat} {Qc : Array Value → State → Outcome → State → Prop} {free : Addr → Prop} (lk : LIN own idx y host bytes maxL)
    (hM : Met l y (Cond.code y bytes maxL none :: bg) rm (va_Pc [.ref b] (PS g H.size wc)) Qc mc ms free) (hP : va_P g.1 clz (pre ++ wc ++ post) H) (hD : va_D A (pre ++ wc ++ post)) (hrc : rm.cells = mc) (hrs : rm.slots = ms) (hR : rm.frames + 1 ≤ R.frames ∧ 8 + (maxL + 11) + rm.locals ≤ R.locals)
    (hl : ls.size = nL) (hroom : (rest.map fun v => v.category).sum ≤ 8) (hdg : decode cc pc = .ok (.invokespecial idx, 3)) (hcs : cells + mc ≤ R.cells ∧ slots + ms ≤ R.slots) :
    va_Run p l e R s m args below meth c H locs cells slots mc ms (F0 m pc ls (.ref b :: rest)) rest (Qc [Value.ref b].toArray) free :=
  va_runIN (As := []) ⟨C.1, C.2.1, C.2.2.1, C.2.2.2.2.1, C.2.2.2.2.2.1⟩ hM ⟨va_cnB 0 C.2.2.2.2.2.1 lk.1 rfl hrc hrs (lk.2.2.1 s C.2.2.2.2.2.2.2.2.1) (C.2.2.2.2.2.1 _ lk.2.1) lk.2.2.2.2.2 hR, lk.2.2.2.2.1, C.2.2.2.2.2.1 _ lk.2.2.2.1⟩ ⟨PS.blind g _ wc _, fun U hU hW => ⟨rfl, by rw [hU], by rw [hU]; exact dk_P.mpr (fun q hq => dk_P.mp hP q (by simp [hq])), dk_iff.mpr ⟨(List.pairwise_append.mp (List.pairwise_append.mp (dk_iff.mp hD).1).1).2.1, fun _ _ => trivial⟩, va_K.moved hW.alike C.2.2.2.2.2.2.2.1, NS.warm C.2.2.2.2.2.2.2.2.1 hW, AO.moved hW.alike C.2.2.2.2.2.2.2.2.2⟩⟩ rfl rfl hl rfl (lv_room hroom) hdg hcs
theorem krunV (C : CK g p s m args meth c cc nL ret own) {idx : Nat} {y : MethodName} {bytes : ByteArray} {maxL n mc ms : Nat} {ret2 : Option FieldType} {rm : Room} {As : List Value} {b : Nat} {Qc : Array Value → State → Outcome → State → Prop} {free : Addr → Prop} (lk : LV own idx y bytes maxL ret2 n)
    (hM : Met l y (Cond.code y bytes maxL ret2 :: bg) rm (va_Pc (.ref b :: As) (PS g H.size wc)) Qc mc ms free) (hP : va_P g.1 clz (pre ++ wc ++ post) H) (hD : va_D A (pre ++ wc ++ post)) (hrc : rm.cells = mc) (hrs : rm.slots = ms) (hR : rm.frames + 1 ≤ R.frames ∧ 8 + (maxL + 11) + rm.locals ≤ R.locals)
    {q : vw_C} {k ci : Nat} {fs : List Value} (he : (pre ++ wc ++ post)[k]? = some (b, .inr (ci, fs))) (hc : clz[ci]? = some q) (hq : q.1 = y.cls) (hl : ls.size = nL) (hn : As.length = n) (hroom : (rest.map fun v => v.category).sum ≤ 8) (hdg : decode cc pc = .ok (.invokevirtual idx, 3)) (hcs : cells + mc ≤ R.cells ∧ slots + ms ≤ R.slots) :
    va_Run p l e R s m args below meth c H locs cells slots mc ms (F0 m pc ls (As.reverse ++ .ref b :: rest)) rest (Qc (Value.ref b :: As).toArray) free :=
  va_runV (C := y.cls) ⟨C.1, C.2.1, C.2.2.1, C.2.2.2.2.1, C.2.2.2.2.2.1⟩ hM (cwV n C.2.2.2.2.2.1 lk.1 rfl hrc hrs ⟨rfl, lk.2⟩ hR) ⟨PS.blind g _ wc _, by rw [← hq]; exact va_recv C.2.2.2.2.2.2.2.1 hP hc he, fun U hU hW => ⟨rfl, by rw [hU], by rw [hU]; exact dk_P.mpr (fun q hq => dk_P.mp hP q (by simp [hq])), dk_iff.mpr ⟨(List.pairwise_append.mp (List.pairwise_append.mp (dk_iff.mp hD).1).1).2.1, fun _ _ => trivial⟩, va_K.moved hW.alike C.2.2.2.2.2.2.2.1, NS.warm C.2.2.2.2.2.2.2.2.1 hW, AO.moved hW.alike C.2.2.2.2.2.2.2.2.2⟩⟩ rfl hn hl rfl (lv_room hroom) hdg hcs
/-- behind a call of nothing: the callee's world in its place -/
theorem kgoV {T : Type} {w1 : T → va_W} {a : Array Value} {st0 : List Value} {mc ms : Nat} (hr : va_Run p l e R s m args below meth c H locs cells slots mc ms (F0 m pc ls st0) rest (va_Qv (fun _ : T => True) (fun u t => va_P g.1 clz (w1 u) t.heap ∧ va_D (va_A wc H.size) (w1 u)) (va_A wc H.size) a) (va_A wc H.size)) (hP : va_P g.1 clz (pre ++ wc ++ post) H) (hD : va_D A (pre ++ wc ++ post)) (hS : va_S A s.heap H locs) (hA : ∀ q, s.heap.size ≤ q → A q)
    (kk : ∀ (u : T) (H1 : Heap) (locs1 : List Loc), va_P g.1 clz (pre ++ w1 u ++ post) H1 → va_D A (pre ++ w1 u ++ post) → va_S A s.heap H1 locs1 → W p l e R s m args below meth c H1 locs1 (cells + mc) (slots + ms) Q (F0 m (pc + 3) ls rest)) : W p l e R s m args below meth c H locs cells slots Q (F0 m pc ls st0) := by
  have hF : ∀ q, va_A wc H.size q → A q := fun q h => by
    rcases dk_A.mp h with ⟨x, hx, rfl⟩ | h
    · exact (dk_iff.mp hD).2 x (by simp [hx])
    · exact hA q (Nat.le_trans hS.1 h)
  refine va_callv hr hS (fun q _ h => hF q h) hF (fun u t H1 locs1 ht _ _ hB _ hk1 hS1 => ?_)
  obtain ⟨hP1, hD1⟩ := hB
  rw [ht] at hP1
  obtain ⟨hP2, hD2⟩ := kn_join hP hD hk1 hF hP1 hD1
  exact kk u H1 locs1 hP2 hD2 hS1
theorem krunIe (C : CK g p s m args meth c cc nL ret own) {idx : Nat} {y : MethodName} {bytes : ByteArray} {maxL mc ms : Nat} {rm : Room} {b : Nat} {Qc : Array Value → State → Outcome → State → Prop} {free : Addr → Prop} (lk : LI own idx y bytes maxL)
    (hM : Met l y (Cond.code y bytes maxL none :: bg) rm (va_Pc [.ref b] (PS g H.size wc)) Qc mc ms free) (hP : va_P g.1 clz (pre ++ wc) H) (hD : va_D A (pre ++ wc)) (hrc : rm.cells = mc) (hrs : rm.slots = ms) (hR : rm.frames + 1 ≤ R.frames ∧ 8 + (maxL + 11) + rm.locals ≤ R.locals)
    (hl : ls.size = nL) (hroom : (rest.map fun v => v.category).sum ≤ 8) (hdg : decode cc pc = .ok (.invokespecial idx, 3)) (hcs : cells + mc ≤ R.cells ∧ slots + ms ≤ R.slots) :
    va_Run p l e R s m args below meth c H locs cells slots mc ms (F0 m pc ls (.ref b :: rest)) rest (Qc [Value.ref b].toArray) free :=
  krunI (pre := pre) (post := []) C lk hM (by rw [List.append_nil]; exact hP) (by rw [List.append_nil]; exact hD) hrc hrs hR hl hroom hdg hcs
theorem krunINe (C : CK g p s m args meth c cc nL ret own) {idx : Nat} {y : MethodName} {host : String} {bytes : ByteArray} {maxL mc ms : Nat} {rm : Room} {b : Nat} {Qc : Array Value → State → Outcome → State → Prop} {free : Addr → Prop} (lk : LIN own idx y host bytes maxL)
    (hM : Met l y (Cond.code y bytes maxL none :: bg) rm (va_Pc [.ref b] (PS g H.size wc)) Qc mc ms free) (hP : va_P g.1 clz (pre ++ wc) H) (hD : va_D A (pre ++ wc)) (hrc : rm.cells = mc) (hrs : rm.slots = ms) (hR : rm.frames + 1 ≤ R.frames ∧ 8 + (maxL + 11) + rm.locals ≤ R.locals)
    (hl : ls.size = nL) (hroom : (rest.map fun v => v.category).sum ≤ 8) (hdg : decode cc pc = .ok (.invokespecial idx, 3)) (hcs : cells + mc ≤ R.cells ∧ slots + ms ≤ R.slots) :
    va_Run p l e R s m args below meth c H locs cells slots mc ms (F0 m pc ls (.ref b :: rest)) rest (Qc [Value.ref b].toArray) free :=
  krunIN (pre := pre) (post := []) C lk hM (by rw [List.append_nil]; exact hP) (by rw [List.append_nil]; exact hD) hrc hrs hR hl hroom hdg hcs
theorem kgoVe {T : Type} {w1 : T → va_W} {a : Array Value} {st0 : List Value} {mc ms : Nat} (hr : va_Run p l e R s m args below meth c H locs cells slots mc ms (F0 m pc ls st0) rest (va_Qv (fun _ : T => True) (fun u t => va_P g.1 clz (w1 u) t.heap ∧ va_D (va_A wc H.size) (w1 u)) (va_A wc H.size) a) (va_A wc H.size)) (hP : va_P g.1 clz (pre ++ wc) H) (hD : va_D A (pre ++ wc)) (hS : va_S A s.heap H locs) (hA : ∀ q, s.heap.size ≤ q → A q)
    (kk : ∀ (u : T) (H1 : Heap) (locs1 : List Loc), va_P g.1 clz (pre ++ w1 u) H1 → va_D A (pre ++ w1 u) → va_S A s.heap H1 locs1 → W p l e R s m args below meth c H1 locs1 (cells + mc) (slots + ms) Q (F0 m (pc + 3) ls rest)) : W p l e R s m args below meth c H locs cells slots Q (F0 m pc ls st0) :=
  kgoV (pre := pre) (post := []) hr (by rw [List.append_nil]; exact hP) (by rw [List.append_nil]; exact hD) hS hA (fun u H1 locs1 a1 a2 a3 => kk u H1 locs1 (by rw [List.append_nil] at a1; exact a1) (by rw [List.append_nil] at a2; exact a2) a3)
end CKS
