def BL (g : Geo) (o : Nat) (u : Int64 × Mem) (t : State) : Prop := va_P g.1 clz (xw g u.2) t.heap ∧ OUTv g o u.1 t.heap
def QL (Q E : Int32 → Mem → Prop) (k : Int32) (u : Int64 × Mem) : Prop := (k = 0 ∧ ∃ r : Int32, u.1 = r.toInt64 ∧ Q r u.2) ∨ (k ≠ 0 ∧ E k u.2)
def Afo (g : Geo) (o : Nat) : Nat → Prop := fun q => Af 0 g q ∨ q = o
set_option maxHeartbeats 2000000 in
theorem c_L_bird (l : Launch) (hl0 : l.stackTraces = false) (g : Geo) (gi : GI g) (o sa1 sa2 : Nat) (hoA : ¬ AX g o) (a1 a2 : Int32) (M : Mem) (Q E : Int32 → Mem → Prop) (hw : p_X10_bird a1 a2 M Q E) : Met l yL_bird wL_bird rL_bird (va_Pc [.ref (g.2.1 (0 + 0)), .int a1, .int a2, .ref o] (PL g o sa1 sa2 M)) (va_Qi (QL Q E) (BL g o) (Afo g o)) 1 6 (Afo g o) := by
  refine MetFree.of_bodyS (code := cL_bird) (maxLocals := 5) (ret := some .int) (by decide +kernel) ?_ ?_
  · intro args s m h hn
    obtain ⟨m9, meth, c, hn9, h1, h2, h3, h4, -, h5, h6, -⟩ := Cond.codeWith_spec (atoms_spec (ws := wL_bird) h _ List.mem_cons_self)
    cases hn.symm.trans hn9
    exact ⟨meth, c, h1, h2, h3, h4, h5, h6⟩
  intro p e s m args below meth c s₁ B hml hP _
  have hh0 : s₁.heap = s.heap := by rw [B.state]; rfl
  obtain ⟨rfl, hv, hT, hO⟩ := hP
  have hbg : ∀ w ∈ bg, w.before ([.ref (g.2.1 (0 + 0)), .int a1, .int a2, .ref o] : List Value).toArray s = true := fun w hw => atoms_spec (ws := wL_bird) B.pre w (List.mem_cons_of_mem _ hw)
  have C : CX g p s m ([.ref (g.2.1 (0 + 0)), .int a1, .int a2, .ref o] : List Value).toArray meth c cL_bird 5 (some .int) RL := ⟨B.exec, B.bytes, hml, B.returns, findClass_of_methodNamed B.named, hbg, B.notSynchronized, hv.2.1, hv.2.2.1, hv.2.2.2, gi⟩
  have htab : c.exceptionTable.toList = _ := vx_table (x := yL_bird) B (hbg _ bl_c)
  have hPx := hv.1
  suffices K : W p l e (headSpec wL_bird rL_bird).room s m ([.ref (g.2.1 (0 + 0)), .int a1, .int a2, .ref o] : List Value).toArray below meth c s.heap [] 0 0 (MQ below (va_Qi (QL Q E) (BL g o) (Afo g o)) ([.ref (g.2.1 (0 + 0)), .int a1, .int a2, .ref o] : List Value).toArray s 1 6 (Afo g o)) (entryFrame m ([.ref (g.2.1 (0 + 0)), .int a1, .int a2, .ref o] : List Value).toArray 5) by
    obtain ⟨t, b1, oc, b2, b3, b4⟩ := K s₁ hh0 (Stand.of_body B)
    exact ⟨t, oc, b1, b2, b3, b4⟩
  have hS : va_S (Afo g o) s.heap s.heap [] := va_S.rf
  have hl := lv_entry ([.ref (g.2.1 (0 + 0)), .int a1, .int a2, .ref o]) (n := 5) (Nat.le_of_ble_eq_true rfl)
  rw [lg_entry_eq]
  generalize (lg_sl ([.ref (g.2.1 (0 + 0)), .int a1, .int a2, .ref o]) ++ List.replicate (5 - (lg_sl ([.ref (g.2.1 (0 + 0)), .int a1, .int a2, .ref o])).length) Slot.unset).toArray = ls at hl ⊢
  have hl : lv_has ls 5 [(0, .ref (g.2.1 (0 + 0))), (1, .int a1), (2, .int a2), (3, .ref o)] := hl
  refine lv_aload_n C.1 C.2.1 dL_bird_0 rfl (lv_at hl 3 rfl) ?_
  refine lv_iconst (v := 0) C.1 C.2.1 dL_bird_1 (by decide) ?_
  refine lv_aload_n C.1 C.2.1 dL_bird_2 rfl (lv_at hl 0 rfl) ?_
  refine lv_iload_n C.1 C.2.1 dL_bird_3 rfl (lv_at hl 1 rfl) ?_
  refine lv_iload_n C.1 C.2.1 dL_bird_4 rfl (lv_at hl 2 rfl) ?_
  have hAfo : ∀ q, Af 0 g q → Afo g o q := fun q h => Or.inl h
  refine vx_calli (vx_runV (C := yX10_bird.cls) (As := [.int a1, .int a2]) (rest := [.int 0, .ref o]) ⟨C.1, C.2.1, C.2.2.1, C.2.2.2.2.1, C.2.2.2.2.2.1⟩ (c_X10_bird l hl0 g gi sa1 sa2 a1 a2 M Q E hw) (cwV 2 C.2.2.2.2.2.1 lkL_7.1 rfl rfl rfl ⟨rfl, lkL_7.2⟩ ⟨Nat.le_of_ble_eq_true rfl, Nat.le_of_ble_eq_true rfl⟩) ⟨?_, va_recv C.2.2.2.2.2.2.2.1 hPx (ci := 10) rfl (xx_0 Nat.zero_lt_one), fun U hU hW => ⟨rfl, PW.start (sd := 0) C hPx va_S.rf hU hW, (hT.next (A := fun _ => False) (locs := []) va_S.rf (fun _ _ z => z.elim) hU hW).tg⟩⟩ rfl rfl hl.1 rfl (lv_room (Nat.le_of_ble_eq_true rfl)) dL_bird_5 ⟨by decide, by decide⟩) hS (fun q _ h => hAfo q h) (fun q h => hAfo q h) (fun q _ h => hAfo q h) ?_ ?_
  · intro a U f mk h
    exact ⟨h.1, (PW.blind g (xw g M) _ a U f mk ⟨h.1, h.2.1⟩).2, TG.blind h.2.2⟩
  · intro N ce q9 u t H1 locs1 ht _ hE hB hz hk hS1 hq9 hcv hcl
    obtain ⟨hN, hP1⟩ := hB
    rw [ht] at hP1
    have hO1 : ∃ v, OUTv g o v H1 := by
      obtain ⟨v, hv1⟩ := hO.v
      exact ⟨v, hv1.kept (fun ho => hk o ho (fun z => hoA (Af_AX z)))⟩
    obtain ⟨v, hO1⟩ := hO1
    have hng : ∀ w ∈ ngW, w.before ([.ref (g.2.1 (0 + 0)), .int a1, .int a2, .ref o] : List Value).toArray s = true := fun w h => vx_ot_at (State.WarmedH.refl s) rfl (ng_o w h) (hT.2.2.2.2.1 w h)
    rcases hN with ⟨rfl, h1⟩ | ⟨rfl, h1⟩
    · refine vx_catch (own := RL) (name := IOB) C.2.2.2.2.1 [] _ _ htab (fun z hz => by cases hz) (by decide) (by decide) (hbg _ bl_13) (hng _ (by decide +kernel)) hq9 hcv hcl ?_
      refine lv_astore (lv' := [(4, .ref q9), (0, .ref (g.2.1 (0 + 0))), (1, .int a1), (2, .int a2), (3, .ref o)]) C.1 C.2.1 dL_bird_13 hl (by decide) rfl (fun ls hl => ?_)
      refine lv_iconst (v := 1) C.1 C.2.1 dL_bird_15 (by decide) ?_
      exact W.iret C.1 C.2.1 C.2.2.2.1 (fun _ ht _ => ⟨⟨1, (v, u.2), rfl, Or.inr ⟨by decide, by rw [← h1]; exact hE⟩, by rw [ht]; exact hP1, by rw [ht]; exact hO1⟩, hS1.F ht⟩) hS1.2.2 dL_bird_16 C.2.2.2.2.2.2.1
    · refine vx_catch (own := RL) (name := NSE) C.2.2.2.2.1 [_] _ _ htab (fun z hz => ?_) (by decide) (by decide) (hbg _ bl_15) (hng _ (by decide +kernel)) hq9 hcv hcl ?_
      · cases List.mem_singleton.mp hz
        exact Or.inr ⟨by decide, IOB, hbg _ bl_13, hT.2.2.2.2.2⟩
      refine lv_astore (lv' := [(4, .ref q9), (0, .ref (g.2.1 (0 + 0))), (1, .int a1), (2, .int a2), (3, .ref o)]) C.1 C.2.1 dL_bird_17 hl (by decide) rfl (fun ls hl => ?_)
      refine lv_iconst (v := 2) C.1 C.2.1 dL_bird_19 (by decide) ?_
      exact W.iret C.1 C.2.1 C.2.2.2.1 (fun _ ht _ => ⟨⟨2, (v, u.2), rfl, Or.inr ⟨by decide, by rw [← h1]; exact hE⟩, by rw [ht]; exact hP1, by rw [ht]; exact hO1⟩, hS1.F ht⟩) hS1.2.2 dL_bird_20 C.2.2.2.2.2.2.1
  · intro r M1 t H1 locs1 ht _ hQ hB hz hk hS1
    have hP1 : va_P g.1 clz (xw g M1) H1 := by rw [← ht]; exact hB
    obtain ⟨f, hf⟩ := hO
    have hf1 : va_P g.1 clz [(o, .inl (g.2.2.1 1, 1, .inr (.inl f)))] H1 := hf.kept (fun k q hq => by
      have hlt := (hf k q hq).lt
      rw [one_o hq] at hlt ⊢
      exact hk o hlt (fun z => hoA (Af_AX z)))
    refine lv_i2l (v := r.toInt64) C.1 C.2.1 dL_bird_8 rfl ?_
    refine va_last (D := g.1) (A := Afo g o) C.1 C.2.1 C.2.2.2.2.2.2.2.1 (lx_P (hf1 0 _ rfl) hP1) (lx_D gi hoA) hS1 0 1 rfl rfl (vp_in_nI (n := 0) (N := 1) (by decide) (by decide)) dL_bird_9 (fun H2 locs2 hf2 _ hS2 => ?_)
    have hP2 : va_P g.1 clz (xw g M1) H2 := fun k q hq => hf2 (k + 1) q hq
    refine lv_goto (tgt := 21) C.1 C.2.1 dL_bird_10 (by decide) ?_
    refine lv_iconst (v := 0) C.1 C.2.1 dL_bird_21 (by decide) ?_
    exact W.iret C.1 C.2.1 C.2.2.2.1 (fun _ ht _ => ⟨⟨0, (r.toInt64, M1), rfl, Or.inl ⟨rfl, r, rfl, hQ⟩, by rw [ht]; exact hP2, by rw [ht]; exact ⟨_, fun k q hq => by rw [one_o hq]; exact hf2 0 _ rfl, rfl⟩⟩, hS2.F ht⟩) hS2.2.2 dL_bird_22 C.2.2.2.2.2.2.1
