def R_law : String := "BirdCodesLaw"
def lw_P (b : Addr) (xs : List Int32) (args : Array Value) (s : State) : Prop := args = #[.ref b] ∧ s.IntsAt b xs ∧ xs.length ≤ 3072 ∧ (Jvm.Cond.and given_1 narrow_1).before args s = true
def lw_Q (_ : Array Value) (s : State) (o : Outcome) (t : State) : Prop := o = .returned (some (.int 1)) ∧ Framed s o t [] 601024 7293034
def lw_Z (below : List Frame) (a : Array Value) (s : State) : State → Prop := fun t => ∃ o, t.status = .running ∧ Ended t below o ∧ lw_Q a s o t
/-- the law's own end, with 1 on the stack, nothing written that was there before, its room as the claim has it -/
theorem lw_ret {p : Program} {l : Launch} {e : Env} {s : State} {m : MethodId} {below : List Frame} {meth : Method} {c : Code} {b : Nat} (hx : p.tables.exec = Jvm.exec) (hb : c.code = code) (hr : meth.sig.returnType = ret) (hlocks : meth.locks = false) {pc : Nat} {H : Heap} {ls : Array Slot} (hdg : decode code pc = .ok (.ireturn, 1)) : W p l e room_1 s m #[Value.ref b] below meth c H [] 601024 7293034 (lw_Z below #[Value.ref b] s) (F0 m pc ls [.int 1]) := by
  intro T hT X
  obtain ⟨fs, hret, hrun, hended, hW, hframe⟩ := X.leave (v := some (.int 1)) (hlocks := hlocks) (fun h => by rw [hr] at h; cases h)
  have hmeth' : T.vm.method? m = some meth := X.method'
  refine ⟨T.setFrames fs, ?_, .returned (some (.int 1)), hrun, hended, rfl, ⟨_, rfl⟩, hW, hframe⟩
  jvm_step X.here [X.here.top, hx, hb, hdg, hmeth', hr, ret, narrow_b1]
  (try refine ⟨rfl, ?_⟩); (try refine ⟨rfl, ?_⟩)
  first | (intro acts; rw [hret _ acts rfl rfl rfl]) | rw [hret _ _ rfl rfl rfl]
  exact Steps.refl _
/-- what holds at the law's entry: the machine, the code, the tables' words (any of lw_tbl by 'hts w (by decide +kernel)'), the script of L ints xs at the cell b, what the Statement gives of the start (any of its parts by flat_of_before) -/
def lw_At (p : Program) (s : State) (m : MethodId) (meth : Method) (c : Code) (b L : Nat) (xs : Nat → Int32) : Prop :=
  p.tables.exec = Jvm.exec ∧ c.code = code ∧ meth.sig.returnType = ret ∧ c.maxLocals = 7 ∧ s.vm.findClass R_law = some m.cls ∧ (∀ w ∈ lw_tbl, w.before #[Value.ref b] s = true) ∧ va_X b L xs s s.heap ∧ b < s.heap.size ∧ meth.locks = false ∧ (Jvm.Cond.and given_1 narrow_1).before #[Value.ref b] s = true
/-- the law's own end: its words stand here, ahead of its loop (starting text of the kit's skeleton) -/
def OUT (g : Geo) (o : Nat) (H : Heap) : Prop := ∃ f : Nat → Int64, va_P g.1 clz [(o, .inl (g.2.2.1 1, 1, .inr (.inl f)))] H
theorem lw_ix {x4 : Int32} {i L : Nat} (j : Nat) (h : x4 = nI i) (h6 : i + 6 ≤ L) (hj : j < 6) (hL : L ≤ 3072) : vp_in (x4 + nI j) L := by
  rw [h, nI_add]; exact vp_in_nI (by omega) (by omega)
theorem lw_i6 {x4 : Int32} {i L : Nat} (h : x4 = nI i) (hL : L ≤ 3072) (hi : i ≤ L) (hle : ¬ Int32.ofNat L - 6 < x4) : i + 6 ≤ L := by
  have e : (Int32.ofNat L - 6).toInt = (L : Int) - 6 := pk_sub_toInt (a := L) (b := 6) (by omega) (by omega)
  rw [h, Int32.lt_iff_toInt_lt, e, nI_toInt (by omega)] at hle
  omega
section LAWROWS
variable {p : Program} {l : Launch} {e : Env} {R : Room} {s : State} {m : MethodId} {args : Array Value} {below : List Frame} {meth : Method} {c : Code} {H : Heap} {locs : List Loc} {cells slots : Nat} {Q : State → Prop} {g : Geo} {cc : ByteArray} {nL : Nat} {ret : Option FieldType} {own : String} {pc : Nat} {ls : Array Slot} {rest : List Value} {w : va_W} {wf : Mem → va_W}
theorem SX {sd : Nat} (hS : va_S (fun q => s.heap.size ≤ q) s.heap H locs) (hAd : ∀ i, i < NN → s.heap.size ≤ g.2.1 i) : va_S (Af sd g) s.heap H [] := ⟨hS.1, fun q h1 _ => hS.2.1 q h1 (Nat.not_le.mpr h1), fun _ h => by cases h⟩
theorem runVg {sd : Nat} (C : CX g p s m args meth c cc nL ret own) {idx : Nat} {y : MethodName} {bytes : ByteArray} {maxL n : Nat} {ret2 : Option FieldType} {rm : Room} {As : List Value} {b : Nat} {Qc : Array Value → State → Outcome → State → Prop} (lk : LV own idx y bytes maxL ret2 n)
    (hM : Met l y (Cond.code y bytes maxL ret2 :: bg) rm (va_Pc (.ref b :: As) (PW g w)) Qc 0 0 (Af sd g)) (hP : va_P g.1 clz w H) (hS : va_S (Af sd g) s.heap H []) (hrc : rm.cells = 0) (hrs : rm.slots = 0) (hR : rm.frames + 1 ≤ R.frames ∧ 8 + (maxL + 11) + rm.locals ≤ R.locals)
    {q : vw_C} {k ci : Nat} {fs : List Value} (he : w[k]? = some (b, .inr (ci, fs))) (hc : clz[ci]? = some q) (hq : q.1 = y.cls) (hl : ls.size = nL) (hn : As.length = n) (hroom : (rest.map fun v => v.category).sum ≤ 8) (hdg : decode cc pc = .ok (.invokevirtual idx, 3)) (hcs : cells + 0 ≤ R.cells ∧ slots + 0 ≤ R.slots) :
    va_Run p l e R s m args below meth c H locs cells slots 0 0 (F0 m pc ls (As.reverse ++ .ref b :: rest)) rest (Qc (Value.ref b :: As).toArray) (Af sd g) :=
  va_runV (C := y.cls) ⟨C.1, C.2.1, C.2.2.1, C.2.2.2.2.1, C.2.2.2.2.2.1⟩ hM (cwV n C.2.2.2.2.2.1 lk.1 rfl hrc hrs ⟨rfl, lk.2⟩ hR) ⟨PW.blind g w _, by rw [← hq]; exact va_recv C.2.2.2.2.2.2.2.1 hP hc he, fun U hU hW => ⟨rfl, PW.start C hP hS hU hW⟩⟩ rfl hn hl rfl (lv_room hroom) hdg hcs
theorem yx_apart (gi : GI g) (Y : Mem) : ∀ (k : Nat) (q : Nat × va_E), (yw g Y)[k]? = some q → ¬ Af 0 g q.1 := fun k q h h0 => Af_apart gi h0 ((yw_D gi Y).2 k q h)
theorem xy_apart (gi : GI g) (X : Mem) : ∀ (k : Nat) (q : Nat × va_E), (xw g X)[k]? = some q → ¬ Af 1 g q.1 := fun k q h h1 => Af_apart gi ((xw_D gi X).2 k q h) h1
theorem goLaw {a : Array Value} {st0 : List Value} {post : Int32 → Mem → Prop} {o sd : Nat} {wo : va_W} (hr : va_Run p l e R s m args below meth c H locs cells slots 0 0 (F0 m pc ls st0) rest (va_Qi post (PB g wf) (Af sd g) a) (Af sd g)) (hAd : ∀ i, i < NN → s.heap.size ≤ g.2.1 i) (hS : va_S (fun q => s.heap.size ≤ q) s.heap H locs) (hO : OUT g o H) (hoA : ¬ AX g o) (hPo : va_P g.1 clz wo H) (hdo : ∀ (k : Nat) (q : Nat × va_E), wo[k]? = some q → ¬ Af sd g q.1)
    (kk : ∀ (r : Int32) (M : Mem), post r M → ∀ (H1 : Heap) (locs1 : List Loc), va_P g.1 clz (wf M) H1 → va_S (fun q => s.heap.size ≤ q) s.heap H1 locs1 → OUT g o H1 → va_P g.1 clz wo H1 → W p l e R s m args below meth c H1 locs1 cells slots Q (F0 m (pc + 3) ls (.int r :: rest))) : W p l e R s m args below meth c H locs cells slots Q (F0 m pc ls st0) := by
  have hA : ∀ q, Af sd g q → s.heap.size ≤ q := fun q h => by obtain ⟨i, h1, _, h2⟩ := h; rw [h2]; exact hAd i h1
  refine va_calli hr hS (fun q _ h => hA q h) (fun q h => hA q h) (fun r u t H1 locs1 ht _ hw hB _ hk1 hS => ?_)
  refine kk r u hw H1 locs1 (by rw [← ht]; exact hB) hS ?_ (hPo.kept (fun k q hq => hk1 q.1 ((hPo k q hq).lt) (hdo k q hq)))
  obtain ⟨f, hf⟩ := hO
  refine ⟨f, hf.kept (fun k q hq => ?_)⟩
  have hlt := (hf k q hq).lt
  have hq1 : q.1 = o := by
    match k, hq with
    | 0, hq => cases hq; rfl
    | k + 1, hq => simp at hq
  exact hk1 q.1 hlt (by rw [hq1]; exact fun z => hoA (Af_AX z))
end LAWROWS
theorem lkL_21 : LV RL 21 yX10_feed cX10_feed 6 (some .int) 5 := ⟨bg_good (bg_cons (bg_of 621 (by decide +kernel) rfl) (bg_cons (bg_of 622 (by decide +kernel) rfl) (bg_cons (bg_of 623 (by decide +kernel) rfl) (bg_cons (bg_of 95 (by decide +kernel) rfl) (bg_cons (bg_of 624 (by decide +kernel) rfl) bg_bg))))), ⟨by decide +kernel, by decide +kernel, by decide +kernel⟩⟩
theorem lkL_25 : LV RL 25 yX11_feed cX11_feed 8 (some .int) 5 := ⟨bg_good (bg_cons (bg_of 1462 (by decide +kernel) rfl) (bg_cons (bg_of 1463 (by decide +kernel) rfl) (bg_cons (bg_of 1464 (by decide +kernel) rfl) (bg_cons (bg_of 107 (by decide +kernel) rfl) (bg_cons (bg_of 1465 (by decide +kernel) rfl) bg_bg))))), ⟨by decide +kernel, by decide +kernel, by decide +kernel⟩⟩
theorem lkL_26 : LV RL 26 yX10_text cX10_text 4 (some .int) 1 := ⟨bg_good (bg_cons (bg_of 629 (by decide +kernel) rfl) (bg_cons (bg_of 630 (by decide +kernel) rfl) (bg_cons (bg_of 631 (by decide +kernel) rfl) (bg_cons (bg_of 95 (by decide +kernel) rfl) (bg_cons (bg_of 632 (by decide +kernel) rfl) bg_bg))))), ⟨by decide +kernel, by decide +kernel, by decide +kernel⟩⟩
theorem lkL_30 : LV RL 30 yX11_text cX11_text 3 (some .int) 1 := ⟨bg_good (bg_cons (bg_of 1466 (by decide +kernel) rfl) (bg_cons (bg_of 1467 (by decide +kernel) rfl) (bg_cons (bg_of 1468 (by decide +kernel) rfl) (bg_cons (bg_of 107 (by decide +kernel) rfl) (bg_cons (bg_of 1469 (by decide +kernel) rfl) bg_bg))))), ⟨by decide +kernel, by decide +kernel, by decide +kernel⟩⟩
theorem lkL_31 : LV RL 31 yX10_fault cX10_fault 2 (some .int) 1 := ⟨bg_good (bg_cons (bg_of 751 (by decide +kernel) rfl) (bg_cons (bg_of 752 (by decide +kernel) rfl) (bg_cons (bg_of 753 (by decide +kernel) rfl) (bg_cons (bg_of 95 (by decide +kernel) rfl) (bg_cons (bg_of 754 (by decide +kernel) rfl) bg_bg))))), ⟨by decide +kernel, by decide +kernel, by decide +kernel⟩⟩
theorem lkL_34 : LV RL 34 yX11_fault cX11_fault 2 (some .int) 1 := ⟨bg_good (bg_cons (bg_of 1554 (by decide +kernel) rfl) (bg_cons (bg_of 1555 (by decide +kernel) rfl) (bg_cons (bg_of 1556 (by decide +kernel) rfl) (bg_cons (bg_of 107 (by decide +kernel) rfl) (bg_cons (bg_of 1557 (by decide +kernel) rfl) bg_bg))))), ⟨by decide +kernel, by decide +kernel, by decide +kernel⟩⟩
theorem lkL_35 : LV RL 35 yX10_named cX10_named 2 (some .int) 1 := ⟨bg_good (bg_cons (bg_of 755 (by decide +kernel) rfl) (bg_cons (bg_of 756 (by decide +kernel) rfl) (bg_cons (bg_of 757 (by decide +kernel) rfl) (bg_cons (bg_of 95 (by decide +kernel) rfl) (bg_cons (bg_of 758 (by decide +kernel) rfl) bg_bg))))), ⟨by decide +kernel, by decide +kernel, by decide +kernel⟩⟩
theorem lkL_38 : LV RL 38 yX11_named cX11_named 2 (some .int) 1 := ⟨bg_good (bg_cons (bg_of 1558 (by decide +kernel) rfl) (bg_cons (bg_of 1559 (by decide +kernel) rfl) (bg_cons (bg_of 1560 (by decide +kernel) rfl) (bg_cons (bg_of 107 (by decide +kernel) rfl) (bg_cons (bg_of 1561 (by decide +kernel) rfl) bg_bg))))), ⟨by decide +kernel, by decide +kernel, by decide +kernel⟩⟩
theorem lkL_49 : LV RL 49 yX10_chip cX10_chip 3 (some .int) 2 := ⟨bg_good (bg_cons (bg_of 760 (by decide +kernel) rfl) (bg_cons (bg_of 761 (by decide +kernel) rfl) (bg_cons (bg_of 762 (by decide +kernel) rfl) (bg_cons (bg_of 95 (by decide +kernel) rfl) (bg_cons (bg_of 763 (by decide +kernel) rfl) bg_bg))))), ⟨by decide +kernel, by decide +kernel, by decide +kernel⟩⟩
theorem lkL_52 : LV RL 52 yX11_chip cX11_chip 3 (some .int) 2 := ⟨bg_good (bg_cons (bg_of 1574 (by decide +kernel) rfl) (bg_cons (bg_of 1575 (by decide +kernel) rfl) (bg_cons (bg_of 1576 (by decide +kernel) rfl) (bg_cons (bg_of 107 (by decide +kernel) rfl) (bg_cons (bg_of 1577 (by decide +kernel) rfl) bg_bg))))), ⟨by decide +kernel, by decide +kernel, by decide +kernel⟩⟩
theorem lkL_53 : LV RL 53 yX10_period cX10_period 4 (some .int) 1 := ⟨bg_good (bg_cons (bg_of 768 (by decide +kernel) rfl) (bg_cons (bg_of 769 (by decide +kernel) rfl) (bg_cons (bg_of 770 (by decide +kernel) rfl) (bg_cons (bg_of 95 (by decide +kernel) rfl) (bg_cons (bg_of 771 (by decide +kernel) rfl) bg_bg))))), ⟨by decide +kernel, by decide +kernel, by decide +kernel⟩⟩
theorem lkL_56 : LV RL 56 yX11_period cX11_period 4 (some .int) 1 := ⟨bg_good (bg_cons (bg_of 1582 (by decide +kernel) rfl) (bg_cons (bg_of 1583 (by decide +kernel) rfl) (bg_cons (bg_of 1584 (by decide +kernel) rfl) (bg_cons (bg_of 107 (by decide +kernel) rfl) (bg_cons (bg_of 1585 (by decide +kernel) rfl) bg_bg))))), ⟨by decide +kernel, by decide +kernel, by decide +kernel⟩⟩
theorem lkL_57 : LV RL 57 yX10_cross cX10_cross 4 (some .int) 3 := ⟨bg_good (bg_cons (bg_of 772 (by decide +kernel) rfl) (bg_cons (bg_of 773 (by decide +kernel) rfl) (bg_cons (bg_of 774 (by decide +kernel) rfl) (bg_cons (bg_of 95 (by decide +kernel) rfl) (bg_cons (bg_of 775 (by decide +kernel) rfl) bg_bg))))), ⟨by decide +kernel, by decide +kernel, by decide +kernel⟩⟩
theorem lkL_61 : LV RL 61 yX11_cross cX11_cross 4 (some .int) 3 := ⟨bg_good (bg_cons (bg_of 1586 (by decide +kernel) rfl) (bg_cons (bg_of 1587 (by decide +kernel) rfl) (bg_cons (bg_of 1588 (by decide +kernel) rfl) (bg_cons (bg_of 107 (by decide +kernel) rfl) (bg_cons (bg_of 1589 (by decide +kernel) rfl) bg_bg))))), ⟨by decide +kernel, by decide +kernel, by decide +kernel⟩⟩
theorem lkL_62 : LV RL 62 yX10_worst cX10_worst 3 (some .int) 2 := ⟨bg_good (bg_cons (bg_of 780 (by decide +kernel) rfl) (bg_cons (bg_of 781 (by decide +kernel) rfl) (bg_cons (bg_of 782 (by decide +kernel) rfl) (bg_cons (bg_of 95 (by decide +kernel) rfl) (bg_cons (bg_of 783 (by decide +kernel) rfl) bg_bg))))), ⟨by decide +kernel, by decide +kernel, by decide +kernel⟩⟩
theorem lkL_65 : LV RL 65 yX11_worst cX11_worst 3 (some .int) 2 := ⟨bg_good (bg_cons (bg_of 1594 (by decide +kernel) rfl) (bg_cons (bg_of 1595 (by decide +kernel) rfl) (bg_cons (bg_of 1596 (by decide +kernel) rfl) (bg_cons (bg_of 107 (by decide +kernel) rfl) (bg_cons (bg_of 1597 (by decide +kernel) rfl) bg_bg))))), ⟨by decide +kernel, by decide +kernel, by decide +kernel⟩⟩
theorem lkL_66 : LV RL 66 yX10_quiet cX10_quiet 7 (some .int) 0 := ⟨bg_good (bg_cons (bg_of 793 (by decide +kernel) rfl) (bg_cons (bg_of 794 (by decide +kernel) rfl) (bg_cons (bg_of 795 (by decide +kernel) rfl) (bg_cons (bg_of 95 (by decide +kernel) rfl) (bg_cons (bg_of 796 (by decide +kernel) rfl) bg_bg))))), ⟨by decide +kernel, by decide +kernel, by decide +kernel⟩⟩
theorem lkL_69 : LV RL 69 yX11_quiet cX11_quiet 7 (some .int) 0 := ⟨bg_good (bg_cons (bg_of 1602 (by decide +kernel) rfl) (bg_cons (bg_of 1603 (by decide +kernel) rfl) (bg_cons (bg_of 1604 (by decide +kernel) rfl) (bg_cons (bg_of 107 (by decide +kernel) rfl) (bg_cons (bg_of 1605 (by decide +kernel) rfl) bg_bg))))), ⟨by decide +kernel, by decide +kernel, by decide +kernel⟩⟩
theorem lkL_70 : LV RL 70 yX10_sample cX10_sample 3 (some .int) 2 := ⟨bg_good (bg_cons (bg_of 798 (by decide +kernel) rfl) (bg_cons (bg_of 799 (by decide +kernel) rfl) (bg_cons (bg_of 800 (by decide +kernel) rfl) (bg_cons (bg_of 95 (by decide +kernel) rfl) (bg_cons (bg_of 801 (by decide +kernel) rfl) bg_bg))))), ⟨by decide +kernel, by decide +kernel, by decide +kernel⟩⟩
theorem lkL_73 : LV RL 73 yX11_sample cX11_sample 3 (some .int) 2 := ⟨bg_good (bg_cons (bg_of 1621 (by decide +kernel) rfl) (bg_cons (bg_of 1622 (by decide +kernel) rfl) (bg_cons (bg_of 1623 (by decide +kernel) rfl) (bg_cons (bg_of 107 (by decide +kernel) rfl) (bg_cons (bg_of 1624 (by decide +kernel) rfl) bg_bg))))), ⟨by decide +kernel, by decide +kernel, by decide +kernel⟩⟩
theorem lkL_74 : LV RL 74 yX10_bit cX10_bit 3 (some .int) 2 := ⟨bg_good (bg_cons (bg_of 846 (by decide +kernel) rfl) (bg_cons (bg_of 847 (by decide +kernel) rfl) (bg_cons (bg_of 848 (by decide +kernel) rfl) (bg_cons (bg_of 95 (by decide +kernel) rfl) (bg_cons (bg_of 849 (by decide +kernel) rfl) bg_bg))))), ⟨by decide +kernel, by decide +kernel, by decide +kernel⟩⟩
theorem lkL_77 : LV RL 77 yX11_bit cX11_bit 3 (some .int) 2 := ⟨bg_good (bg_cons (bg_of 1606 (by decide +kernel) rfl) (bg_cons (bg_of 1607 (by decide +kernel) rfl) (bg_cons (bg_of 1608 (by decide +kernel) rfl) (bg_cons (bg_of 107 (by decide +kernel) rfl) (bg_cons (bg_of 1609 (by decide +kernel) rfl) bg_bg))))), ⟨by decide +kernel, by decide +kernel, by decide +kernel⟩⟩
theorem lkL_78 : LV RL 78 yX10_sum cX10_sum 6 (some .int) 5 := ⟨bg_good (bg_cons (bg_of 851 (by decide +kernel) rfl) (bg_cons (bg_of 852 (by decide +kernel) rfl) (bg_cons (bg_of 853 (by decide +kernel) rfl) (bg_cons (bg_of 95 (by decide +kernel) rfl) (bg_cons (bg_of 854 (by decide +kernel) rfl) bg_bg))))), ⟨by decide +kernel, by decide +kernel, by decide +kernel⟩⟩
theorem lkL_81 : LV RL 81 yX11_sum cX11_sum 7 (some .int) 5 := ⟨bg_good (bg_cons (bg_of 1668 (by decide +kernel) rfl) (bg_cons (bg_of 1669 (by decide +kernel) rfl) (bg_cons (bg_of 1670 (by decide +kernel) rfl) (bg_cons (bg_of 107 (by decide +kernel) rfl) (bg_cons (bg_of 1671 (by decide +kernel) rfl) bg_bg))))), ⟨by decide +kernel, by decide +kernel, by decide +kernel⟩⟩
theorem lkL_82 : LV RL 82 yX10_hunt cX10_hunt 5 (some .int) 4 := ⟨bg_good (bg_cons (bg_of 875 (by decide +kernel) rfl) (bg_cons (bg_of 876 (by decide +kernel) rfl) (bg_cons (bg_of 877 (by decide +kernel) rfl) (bg_cons (bg_of 95 (by decide +kernel) rfl) (bg_cons (bg_of 878 (by decide +kernel) rfl) bg_bg))))), ⟨by decide +kernel, by decide +kernel, by decide +kernel⟩⟩
theorem lkL_86 : LV RL 86 yX11_hunt cX11_hunt 5 (some .int) 4 := ⟨bg_good (bg_cons (bg_of 1680 (by decide +kernel) rfl) (bg_cons (bg_of 1681 (by decide +kernel) rfl) (bg_cons (bg_of 1682 (by decide +kernel) rfl) (bg_cons (bg_of 107 (by decide +kernel) rfl) (bg_cons (bg_of 1683 (by decide +kernel) rfl) bg_bg))))), ⟨by decide +kernel, by decide +kernel, by decide +kernel⟩⟩
theorem lkL_87 : LV RL 87 yX10_listen cX10_listen 5 (some .int) 2 := ⟨bg_good (bg_cons (bg_of 916 (by decide +kernel) rfl) (bg_cons (bg_of 917 (by decide +kernel) rfl) (bg_cons (bg_of 918 (by decide +kernel) rfl) (bg_cons (bg_of 95 (by decide +kernel) rfl) (bg_cons (bg_of 919 (by decide +kernel) rfl) bg_bg))))), ⟨by decide +kernel, by decide +kernel, by decide +kernel⟩⟩
theorem lkL_90 : LV RL 90 yX11_listen cX11_listen 4 (some .int) 2 := ⟨bg_good (bg_cons (bg_of 1708 (by decide +kernel) rfl) (bg_cons (bg_of 1709 (by decide +kernel) rfl) (bg_cons (bg_of 1710 (by decide +kernel) rfl) (bg_cons (bg_of 107 (by decide +kernel) rfl) (bg_cons (bg_of 1711 (by decide +kernel) rfl) bg_bg))))), ⟨by decide +kernel, by decide +kernel, by decide +kernel⟩⟩
theorem lkL_91 : LV RL 91 yX10_clear cX10_clear 6 (some .int) 3 := ⟨bg_good (bg_cons (bg_of 926 (by decide +kernel) rfl) (bg_cons (bg_of 927 (by decide +kernel) rfl) (bg_cons (bg_of 928 (by decide +kernel) rfl) (bg_cons (bg_of 95 (by decide +kernel) rfl) (bg_cons (bg_of 929 (by decide +kernel) rfl) bg_bg))))), ⟨by decide +kernel, by decide +kernel, by decide +kernel⟩⟩
theorem lkL_94 : LV RL 94 yX11_clear cX11_clear 4 (some .int) 3 := ⟨bg_good (bg_cons (bg_of 1716 (by decide +kernel) rfl) (bg_cons (bg_of 1717 (by decide +kernel) rfl) (bg_cons (bg_of 1718 (by decide +kernel) rfl) (bg_cons (bg_of 107 (by decide +kernel) rfl) (bg_cons (bg_of 1719 (by decide +kernel) rfl) bg_bg))))), ⟨by decide +kernel, by decide +kernel, by decide +kernel⟩⟩
theorem lkL_95 : LV RL 95 yX10_limit cX10_limit 4 (some .int) 2 := ⟨bg_good (bg_cons (bg_of 935 (by decide +kernel) rfl) (bg_cons (bg_of 936 (by decide +kernel) rfl) (bg_cons (bg_of 937 (by decide +kernel) rfl) (bg_cons (bg_of 95 (by decide +kernel) rfl) (bg_cons (bg_of 938 (by decide +kernel) rfl) bg_bg))))), ⟨by decide +kernel, by decide +kernel, by decide +kernel⟩⟩
theorem lkL_98 : LV RL 98 yX11_limit cX11_limit 5 (some .int) 2 := ⟨bg_good (bg_cons (bg_of 1724 (by decide +kernel) rfl) (bg_cons (bg_of 1725 (by decide +kernel) rfl) (bg_cons (bg_of 1726 (by decide +kernel) rfl) (bg_cons (bg_of 107 (by decide +kernel) rfl) (bg_cons (bg_of 1727 (by decide +kernel) rfl) bg_bg))))), ⟨by decide +kernel, by decide +kernel, by decide +kernel⟩⟩
theorem lkL_99 : LV RL 99 yX10_chance cX10_chance 9 (some .int) 4 := ⟨bg_good (bg_cons (bg_of 939 (by decide +kernel) rfl) (bg_cons (bg_of 940 (by decide +kernel) rfl) (bg_cons (bg_of 941 (by decide +kernel) rfl) (bg_cons (bg_of 95 (by decide +kernel) rfl) (bg_cons (bg_of 942 (by decide +kernel) rfl) bg_bg))))), ⟨by decide +kernel, by decide +kernel, by decide +kernel⟩⟩
theorem lkL_102 : LV RL 102 yX11_chance cX11_chance 9 (some .int) 4 := ⟨bg_good (bg_cons (bg_of 1728 (by decide +kernel) rfl) (bg_cons (bg_of 1729 (by decide +kernel) rfl) (bg_cons (bg_of 1730 (by decide +kernel) rfl) (bg_cons (bg_of 107 (by decide +kernel) rfl) (bg_cons (bg_of 1731 (by decide +kernel) rfl) bg_bg))))), ⟨by decide +kernel, by decide +kernel, by decide +kernel⟩⟩
theorem lkL_103 : LV RL 103 yX10_clearest cX10_clearest 14 (some .int) 3 := ⟨bg_good (bg_cons (bg_of 945 (by decide +kernel) rfl) (bg_cons (bg_of 946 (by decide +kernel) rfl) (bg_cons (bg_of 947 (by decide +kernel) rfl) (bg_cons (bg_of 95 (by decide +kernel) rfl) (bg_cons (bg_of 948 (by decide +kernel) rfl) bg_bg))))), ⟨by decide +kernel, by decide +kernel, by decide +kernel⟩⟩
theorem lkL_106 : LV RL 106 yX11_clearest cX11_clearest 12 (some .int) 3 := ⟨bg_good (bg_cons (bg_of 1733 (by decide +kernel) rfl) (bg_cons (bg_of 1734 (by decide +kernel) rfl) (bg_cons (bg_of 1735 (by decide +kernel) rfl) (bg_cons (bg_of 107 (by decide +kernel) rfl) (bg_cons (bg_of 1736 (by decide +kernel) rfl) bg_bg))))), ⟨by decide +kernel, by decide +kernel, by decide +kernel⟩⟩
theorem lkL_107 : LV RL 107 yX10_tune cX10_tune 7 (some .int) 3 := ⟨bg_good (bg_cons (bg_of 950 (by decide +kernel) rfl) (bg_cons (bg_of 951 (by decide +kernel) rfl) (bg_cons (bg_of 952 (by decide +kernel) rfl) (bg_cons (bg_of 95 (by decide +kernel) rfl) (bg_cons (bg_of 953 (by decide +kernel) rfl) bg_bg))))), ⟨by decide +kernel, by decide +kernel, by decide +kernel⟩⟩
theorem lkL_110 : LV RL 110 yX11_tune cX11_tune 8 (some .int) 3 := ⟨bg_good (bg_cons (bg_of 1737 (by decide +kernel) rfl) (bg_cons (bg_of 1738 (by decide +kernel) rfl) (bg_cons (bg_of 1739 (by decide +kernel) rfl) (bg_cons (bg_of 107 (by decide +kernel) rfl) (bg_cons (bg_of 1740 (by decide +kernel) rfl) bg_bg))))), ⟨by decide +kernel, by decide +kernel, by decide +kernel⟩⟩
theorem lkL_111 : LV RL 111 yX10_lock cX10_lock 4 (some .int) 2 := ⟨bg_good (bg_cons (bg_of 954 (by decide +kernel) rfl) (bg_cons (bg_of 955 (by decide +kernel) rfl) (bg_cons (bg_of 956 (by decide +kernel) rfl) (bg_cons (bg_of 95 (by decide +kernel) rfl) (bg_cons (bg_of 957 (by decide +kernel) rfl) bg_bg))))), ⟨by decide +kernel, by decide +kernel, by decide +kernel⟩⟩
theorem lkL_114 : LV RL 114 yX11_lock cX11_lock 5 (some .int) 2 := ⟨bg_good (bg_cons (bg_of 1761 (by decide +kernel) rfl) (bg_cons (bg_of 1762 (by decide +kernel) rfl) (bg_cons (bg_of 1763 (by decide +kernel) rfl) (bg_cons (bg_of 107 (by decide +kernel) rfl) (bg_cons (bg_of 1764 (by decide +kernel) rfl) bg_bg))))), ⟨by decide +kernel, by decide +kernel, by decide +kernel⟩⟩
theorem lkL_115 : LV RL 115 yX10_drop cX10_drop 1 (some .int) 0 := ⟨bg_good (bg_cons (bg_of 975 (by decide +kernel) rfl) (bg_cons (bg_of 976 (by decide +kernel) rfl) (bg_cons (bg_of 977 (by decide +kernel) rfl) (bg_cons (bg_of 95 (by decide +kernel) rfl) (bg_cons (bg_of 978 (by decide +kernel) rfl) bg_bg))))), ⟨by decide +kernel, by decide +kernel, by decide +kernel⟩⟩
theorem lkL_118 : LV RL 118 yX11_drop cX11_drop 1 (some .int) 0 := ⟨bg_good (bg_cons (bg_of 1773 (by decide +kernel) rfl) (bg_cons (bg_of 1774 (by decide +kernel) rfl) (bg_cons (bg_of 1775 (by decide +kernel) rfl) (bg_cons (bg_of 107 (by decide +kernel) rfl) (bg_cons (bg_of 1776 (by decide +kernel) rfl) bg_bg))))), ⟨by decide +kernel, by decide +kernel, by decide +kernel⟩⟩
theorem lkL_119 : LV RL 119 yX10_follow cX10_follow 2 (some .int) 1 := ⟨bg_good (bg_cons (bg_of 979 (by decide +kernel) rfl) (bg_cons (bg_of 980 (by decide +kernel) rfl) (bg_cons (bg_of 981 (by decide +kernel) rfl) (bg_cons (bg_of 95 (by decide +kernel) rfl) (bg_cons (bg_of 982 (by decide +kernel) rfl) bg_bg))))), ⟨by decide +kernel, by decide +kernel, by decide +kernel⟩⟩
theorem lkL_122 : LV RL 122 yX11_follow cX11_follow 2 (some .int) 1 := ⟨bg_good (bg_cons (bg_of 1777 (by decide +kernel) rfl) (bg_cons (bg_of 1778 (by decide +kernel) rfl) (bg_cons (bg_of 1779 (by decide +kernel) rfl) (bg_cons (bg_of 107 (by decide +kernel) rfl) (bg_cons (bg_of 1780 (by decide +kernel) rfl) bg_bg))))), ⟨by decide +kernel, by decide +kernel, by decide +kernel⟩⟩
theorem lkL_123 : LV RL 123 yX10_channel cX10_channel 3 (some .int) 2 := ⟨bg_good (bg_cons (bg_of 1025 (by decide +kernel) rfl) (bg_cons (bg_of 1026 (by decide +kernel) rfl) (bg_cons (bg_of 1027 (by decide +kernel) rfl) (bg_cons (bg_of 95 (by decide +kernel) rfl) (bg_cons (bg_of 1028 (by decide +kernel) rfl) bg_bg))))), ⟨by decide +kernel, by decide +kernel, by decide +kernel⟩⟩
theorem lkL_126 : LV RL 126 yX11_channel cX11_channel 3 (some .int) 2 := ⟨bg_good (bg_cons (bg_of 1798 (by decide +kernel) rfl) (bg_cons (bg_of 1799 (by decide +kernel) rfl) (bg_cons (bg_of 1800 (by decide +kernel) rfl) (bg_cons (bg_of 107 (by decide +kernel) rfl) (bg_cons (bg_of 1801 (by decide +kernel) rfl) bg_bg))))), ⟨by decide +kernel, by decide +kernel, by decide +kernel⟩⟩
theorem lkL_127 : LV RL 127 yX10_logged cX10_logged 3 (some .int) 2 := ⟨bg_good (bg_cons (bg_of 1037 (by decide +kernel) rfl) (bg_cons (bg_of 1038 (by decide +kernel) rfl) (bg_cons (bg_of 1039 (by decide +kernel) rfl) (bg_cons (bg_of 95 (by decide +kernel) rfl) (bg_cons (bg_of 1040 (by decide +kernel) rfl) bg_bg))))), ⟨by decide +kernel, by decide +kernel, by decide +kernel⟩⟩
theorem lkL_130 : LV RL 130 yX11_logged cX11_logged 3 (some .int) 2 := ⟨bg_good (bg_cons (bg_of 1806 (by decide +kernel) rfl) (bg_cons (bg_of 1807 (by decide +kernel) rfl) (bg_cons (bg_of 1808 (by decide +kernel) rfl) (bg_cons (bg_of 107 (by decide +kernel) rfl) (bg_cons (bg_of 1809 (by decide +kernel) rfl) bg_bg))))), ⟨by decide +kernel, by decide +kernel, by decide +kernel⟩⟩
theorem lkL_131 : LV RL 131 yX10_frame cX10_frame 4 (some .int) 3 := ⟨bg_good (bg_cons (bg_of 1045 (by decide +kernel) rfl) (bg_cons (bg_of 1046 (by decide +kernel) rfl) (bg_cons (bg_of 1047 (by decide +kernel) rfl) (bg_cons (bg_of 95 (by decide +kernel) rfl) (bg_cons (bg_of 1048 (by decide +kernel) rfl) bg_bg))))), ⟨by decide +kernel, by decide +kernel, by decide +kernel⟩⟩
theorem lkL_134 : LV RL 134 yX11_frame cX11_frame 4 (some .int) 3 := ⟨bg_good (bg_cons (bg_of 1810 (by decide +kernel) rfl) (bg_cons (bg_of 1811 (by decide +kernel) rfl) (bg_cons (bg_of 1812 (by decide +kernel) rfl) (bg_cons (bg_of 107 (by decide +kernel) rfl) (bg_cons (bg_of 1813 (by decide +kernel) rfl) bg_bg))))), ⟨by decide +kernel, by decide +kernel, by decide +kernel⟩⟩
theorem lkL_135 : LV RL 135 yX10_bad cX10_bad 2 (some .int) 1 := ⟨bg_good (bg_cons (bg_of 1067 (by decide +kernel) rfl) (bg_cons (bg_of 1068 (by decide +kernel) rfl) (bg_cons (bg_of 1069 (by decide +kernel) rfl) (bg_cons (bg_of 95 (by decide +kernel) rfl) (bg_cons (bg_of 1070 (by decide +kernel) rfl) bg_bg))))), ⟨by decide +kernel, by decide +kernel, by decide +kernel⟩⟩
theorem lkL_138 : LV RL 138 yX11_bad cX11_bad 2 (some .int) 1 := ⟨bg_good (bg_cons (bg_of 1823 (by decide +kernel) rfl) (bg_cons (bg_of 1824 (by decide +kernel) rfl) (bg_cons (bg_of 1825 (by decide +kernel) rfl) (bg_cons (bg_of 107 (by decide +kernel) rfl) (bg_cons (bg_of 1826 (by decide +kernel) rfl) bg_bg))))), ⟨by decide +kernel, by decide +kernel, by decide +kernel⟩⟩
theorem lkL_139 : LV RL 139 yX10_errors cX10_errors 8 (some .int) 1 := ⟨bg_good (bg_cons (bg_of 1071 (by decide +kernel) rfl) (bg_cons (bg_of 1072 (by decide +kernel) rfl) (bg_cons (bg_of 1073 (by decide +kernel) rfl) (bg_cons (bg_of 95 (by decide +kernel) rfl) (bg_cons (bg_of 1074 (by decide +kernel) rfl) bg_bg))))), ⟨by decide +kernel, by decide +kernel, by decide +kernel⟩⟩
theorem lkL_142 : LV RL 142 yX11_errors cX11_errors 8 (some .int) 1 := ⟨bg_good (bg_cons (bg_of 1827 (by decide +kernel) rfl) (bg_cons (bg_of 1828 (by decide +kernel) rfl) (bg_cons (bg_of 1829 (by decide +kernel) rfl) (bg_cons (bg_of 107 (by decide +kernel) rfl) (bg_cons (bg_of 1830 (by decide +kernel) rfl) bg_bg))))), ⟨by decide +kernel, by decide +kernel, by decide +kernel⟩⟩
theorem lkL_143 : LV RL 143 yX10_latest cX10_latest 4 (some .int) 2 := ⟨bg_good (bg_cons (bg_of 1076 (by decide +kernel) rfl) (bg_cons (bg_of 1077 (by decide +kernel) rfl) (bg_cons (bg_of 1078 (by decide +kernel) rfl) (bg_cons (bg_of 95 (by decide +kernel) rfl) (bg_cons (bg_of 1079 (by decide +kernel) rfl) bg_bg))))), ⟨by decide +kernel, by decide +kernel, by decide +kernel⟩⟩
theorem lkL_146 : LV RL 146 yX11_latest cX11_latest 4 (some .int) 2 := ⟨bg_good (bg_cons (bg_of 1831 (by decide +kernel) rfl) (bg_cons (bg_of 1832 (by decide +kernel) rfl) (bg_cons (bg_of 1833 (by decide +kernel) rfl) (bg_cons (bg_of 107 (by decide +kernel) rfl) (bg_cons (bg_of 1834 (by decide +kernel) rfl) bg_bg))))), ⟨by decide +kernel, by decide +kernel, by decide +kernel⟩⟩
theorem lkL_147 : LV RL 147 yX10_off cX10_off 4 (some .int) 1 := ⟨bg_good (bg_cons (bg_of 1080 (by decide +kernel) rfl) (bg_cons (bg_of 1081 (by decide +kernel) rfl) (bg_cons (bg_of 1082 (by decide +kernel) rfl) (bg_cons (bg_of 95 (by decide +kernel) rfl) (bg_cons (bg_of 1083 (by decide +kernel) rfl) bg_bg))))), ⟨by decide +kernel, by decide +kernel, by decide +kernel⟩⟩
theorem lkL_150 : LV RL 150 yX11_off cX11_off 4 (some .int) 1 := ⟨bg_good (bg_cons (bg_of 1835 (by decide +kernel) rfl) (bg_cons (bg_of 1836 (by decide +kernel) rfl) (bg_cons (bg_of 1837 (by decide +kernel) rfl) (bg_cons (bg_of 107 (by decide +kernel) rfl) (bg_cons (bg_of 1838 (by decide +kernel) rfl) bg_bg))))), ⟨by decide +kernel, by decide +kernel, by decide +kernel⟩⟩
theorem lkL_151 : LV RL 151 yX10_range cX10_range 4 (some .int) 2 := ⟨bg_good (bg_cons (bg_of 1095 (by decide +kernel) rfl) (bg_cons (bg_of 1096 (by decide +kernel) rfl) (bg_cons (bg_of 1097 (by decide +kernel) rfl) (bg_cons (bg_of 95 (by decide +kernel) rfl) (bg_cons (bg_of 1098 (by decide +kernel) rfl) bg_bg))))), ⟨by decide +kernel, by decide +kernel, by decide +kernel⟩⟩
theorem lkL_154 : LV RL 154 yX11_range cX11_range 4 (some .int) 2 := ⟨bg_good (bg_cons (bg_of 1839 (by decide +kernel) rfl) (bg_cons (bg_of 1840 (by decide +kernel) rfl) (bg_cons (bg_of 1841 (by decide +kernel) rfl) (bg_cons (bg_of 107 (by decide +kernel) rfl) (bg_cons (bg_of 1842 (by decide +kernel) rfl) bg_bg))))), ⟨by decide +kernel, by decide +kernel, by decide +kernel⟩⟩
theorem lkL_155 : LV RL 155 yX10_measure cX10_measure 4 (some .int) 1 := ⟨bg_good (bg_cons (bg_of 1099 (by decide +kernel) rfl) (bg_cons (bg_of 1100 (by decide +kernel) rfl) (bg_cons (bg_of 1101 (by decide +kernel) rfl) (bg_cons (bg_of 95 (by decide +kernel) rfl) (bg_cons (bg_of 1102 (by decide +kernel) rfl) bg_bg))))), ⟨by decide +kernel, by decide +kernel, by decide +kernel⟩⟩
theorem lkL_158 : LV RL 158 yX11_measure cX11_measure 5 (some .int) 1 := ⟨bg_good (bg_cons (bg_of 1843 (by decide +kernel) rfl) (bg_cons (bg_of 1844 (by decide +kernel) rfl) (bg_cons (bg_of 1845 (by decide +kernel) rfl) (bg_cons (bg_of 107 (by decide +kernel) rfl) (bg_cons (bg_of 1846 (by decide +kernel) rfl) bg_bg))))), ⟨by decide +kernel, by decide +kernel, by decide +kernel⟩⟩
theorem lkL_159 : LV RL 159 yX10_fix cX10_fix 2 (some .int) 1 := ⟨bg_good (bg_cons (bg_of 1112 (by decide +kernel) rfl) (bg_cons (bg_of 1113 (by decide +kernel) rfl) (bg_cons (bg_of 1114 (by decide +kernel) rfl) (bg_cons (bg_of 95 (by decide +kernel) rfl) (bg_cons (bg_of 1115 (by decide +kernel) rfl) bg_bg))))), ⟨by decide +kernel, by decide +kernel, by decide +kernel⟩⟩
theorem lkL_162 : LV RL 162 yX11_fix cX11_fix 2 (some .int) 1 := ⟨bg_good (bg_cons (bg_of 1858 (by decide +kernel) rfl) (bg_cons (bg_of 1859 (by decide +kernel) rfl) (bg_cons (bg_of 1860 (by decide +kernel) rfl) (bg_cons (bg_of 107 (by decide +kernel) rfl) (bg_cons (bg_of 1861 (by decide +kernel) rfl) bg_bg))))), ⟨by decide +kernel, by decide +kernel, by decide +kernel⟩⟩
theorem lkL_163 : LV RL 163 yX10_fixWithout cX10_fixWithout 3 (some .int) 2 := ⟨bg_good (bg_cons (bg_of 1140 (by decide +kernel) rfl) (bg_cons (bg_of 1141 (by decide +kernel) rfl) (bg_cons (bg_of 1142 (by decide +kernel) rfl) (bg_cons (bg_of 95 (by decide +kernel) rfl) (bg_cons (bg_of 1143 (by decide +kernel) rfl) bg_bg))))), ⟨by decide +kernel, by decide +kernel, by decide +kernel⟩⟩
theorem lkL_166 : LV RL 166 yX11_fixWithout cX11_fixWithout 3 (some .int) 2 := ⟨bg_good (bg_cons (bg_of 1878 (by decide +kernel) rfl) (bg_cons (bg_of 1879 (by decide +kernel) rfl) (bg_cons (bg_of 1880 (by decide +kernel) rfl) (bg_cons (bg_of 107 (by decide +kernel) rfl) (bg_cons (bg_of 1881 (by decide +kernel) rfl) bg_bg))))), ⟨by decide +kernel, by decide +kernel, by decide +kernel⟩⟩
theorem lkL_167 : LV RL 167 yX10_suspect cX10_suspect 4 (some .int) 0 := ⟨bg_good (bg_cons (bg_of 1148 (by decide +kernel) rfl) (bg_cons (bg_of 1149 (by decide +kernel) rfl) (bg_cons (bg_of 1150 (by decide +kernel) rfl) (bg_cons (bg_of 95 (by decide +kernel) rfl) (bg_cons (bg_of 1151 (by decide +kernel) rfl) bg_bg))))), ⟨by decide +kernel, by decide +kernel, by decide +kernel⟩⟩
theorem lkL_170 : LV RL 170 yX11_suspect cX11_suspect 4 (some .int) 0 := ⟨bg_good (bg_cons (bg_of 1882 (by decide +kernel) rfl) (bg_cons (bg_of 1883 (by decide +kernel) rfl) (bg_cons (bg_of 1884 (by decide +kernel) rfl) (bg_cons (bg_of 107 (by decide +kernel) rfl) (bg_cons (bg_of 1885 (by decide +kernel) rfl) bg_bg))))), ⟨by decide +kernel, by decide +kernel, by decide +kernel⟩⟩
theorem lkL_171 : LV RL 171 yX10_spread cX10_spread 2 (some .int) 1 := ⟨bg_good (bg_cons (bg_of 1152 (by decide +kernel) rfl) (bg_cons (bg_of 1153 (by decide +kernel) rfl) (bg_cons (bg_of 1154 (by decide +kernel) rfl) (bg_cons (bg_of 95 (by decide +kernel) rfl) (bg_cons (bg_of 1155 (by decide +kernel) rfl) bg_bg))))), ⟨by decide +kernel, by decide +kernel, by decide +kernel⟩⟩
theorem lkL_174 : LV RL 174 yX11_spread cX11_spread 4 (some .int) 1 := ⟨bg_good (bg_cons (bg_of 1886 (by decide +kernel) rfl) (bg_cons (bg_of 1887 (by decide +kernel) rfl) (bg_cons (bg_of 1888 (by decide +kernel) rfl) (bg_cons (bg_of 107 (by decide +kernel) rfl) (bg_cons (bg_of 1889 (by decide +kernel) rfl) bg_bg))))), ⟨by decide +kernel, by decide +kernel, by decide +kernel⟩⟩
theorem lkL_175 : LV RL 175 yX10_distance cX10_distance 5 (some .int) 2 := ⟨bg_good (bg_cons (bg_of 1156 (by decide +kernel) rfl) (bg_cons (bg_of 1157 (by decide +kernel) rfl) (bg_cons (bg_of 1158 (by decide +kernel) rfl) (bg_cons (bg_of 95 (by decide +kernel) rfl) (bg_cons (bg_of 1159 (by decide +kernel) rfl) bg_bg))))), ⟨by decide +kernel, by decide +kernel, by decide +kernel⟩⟩
theorem lkL_178 : LV RL 178 yX11_distance cX11_distance 3 (some .int) 2 := ⟨bg_good (bg_cons (bg_of 1890 (by decide +kernel) rfl) (bg_cons (bg_of 1891 (by decide +kernel) rfl) (bg_cons (bg_of 1892 (by decide +kernel) rfl) (bg_cons (bg_of 107 (by decide +kernel) rfl) (bg_cons (bg_of 1893 (by decide +kernel) rfl) bg_bg))))), ⟨by decide +kernel, by decide +kernel, by decide +kernel⟩⟩
theorem lkL_179 : LV RL 179 yX10_tried cX10_tried 5 (some .int) 2 := ⟨bg_good (bg_cons (bg_of 1085 (by decide +kernel) rfl) (bg_cons (bg_of 1086 (by decide +kernel) rfl) (bg_cons (bg_of 1087 (by decide +kernel) rfl) (bg_cons (bg_of 95 (by decide +kernel) rfl) (bg_cons (bg_of 1088 (by decide +kernel) rfl) bg_bg))))), ⟨by decide +kernel, by decide +kernel, by decide +kernel⟩⟩
theorem lkL_182 : LV RL 182 yX11_tried cX11_tried 5 (some .int) 2 := ⟨bg_good (bg_cons (bg_of 1894 (by decide +kernel) rfl) (bg_cons (bg_of 1895 (by decide +kernel) rfl) (bg_cons (bg_of 1896 (by decide +kernel) rfl) (bg_cons (bg_of 107 (by decide +kernel) rfl) (bg_cons (bg_of 1897 (by decide +kernel) rfl) bg_bg))))), ⟨by decide +kernel, by decide +kernel, by decide +kernel⟩⟩
theorem lkL_183 : LV RL 183 yX10_undo cX10_undo 1 (some .int) 0 := ⟨bg_good (bg_cons (bg_of 1160 (by decide +kernel) rfl) (bg_cons (bg_of 1161 (by decide +kernel) rfl) (bg_cons (bg_of 1162 (by decide +kernel) rfl) (bg_cons (bg_of 95 (by decide +kernel) rfl) (bg_cons (bg_of 1163 (by decide +kernel) rfl) bg_bg))))), ⟨by decide +kernel, by decide +kernel, by decide +kernel⟩⟩
theorem lkL_186 : LV RL 186 yX11_undo cX11_undo 1 (some .int) 0 := ⟨bg_good (bg_cons (bg_of 1741 (by decide +kernel) rfl) (bg_cons (bg_of 1742 (by decide +kernel) rfl) (bg_cons (bg_of 1743 (by decide +kernel) rfl) (bg_cons (bg_of 107 (by decide +kernel) rfl) (bg_cons (bg_of 1744 (by decide +kernel) rfl) bg_bg))))), ⟨by decide +kernel, by decide +kernel, by decide +kernel⟩⟩
theorem lkL_187 : LV RL 187 yX10_keep cX10_keep 1 (some .int) 0 := ⟨bg_good (bg_cons (bg_of 1168 (by decide +kernel) rfl) (bg_cons (bg_of 1169 (by decide +kernel) rfl) (bg_cons (bg_of 1170 (by decide +kernel) rfl) (bg_cons (bg_of 95 (by decide +kernel) rfl) (bg_cons (bg_of 1171 (by decide +kernel) rfl) bg_bg))))), ⟨by decide +kernel, by decide +kernel, by decide +kernel⟩⟩
theorem lkL_190 : LV RL 190 yX11_keep cX11_keep 1 (some .int) 0 := ⟨bg_good (bg_cons (bg_of 1749 (by decide +kernel) rfl) (bg_cons (bg_of 1750 (by decide +kernel) rfl) (bg_cons (bg_of 1751 (by decide +kernel) rfl) (bg_cons (bg_of 107 (by decide +kernel) rfl) (bg_cons (bg_of 1752 (by decide +kernel) rfl) bg_bg))))), ⟨by decide +kernel, by decide +kernel, by decide +kernel⟩⟩
theorem lkL_191 : LV RL 191 yX10_back cX10_back 1 (some .int) 0 := ⟨bg_good (bg_cons (bg_of 1172 (by decide +kernel) rfl) (bg_cons (bg_of 1173 (by decide +kernel) rfl) (bg_cons (bg_of 1174 (by decide +kernel) rfl) (bg_cons (bg_of 95 (by decide +kernel) rfl) (bg_cons (bg_of 1175 (by decide +kernel) rfl) bg_bg))))), ⟨by decide +kernel, by decide +kernel, by decide +kernel⟩⟩
theorem lkL_194 : LV RL 194 yX11_back cX11_back 1 (some .int) 0 := ⟨bg_good (bg_cons (bg_of 1757 (by decide +kernel) rfl) (bg_cons (bg_of 1758 (by decide +kernel) rfl) (bg_cons (bg_of 1759 (by decide +kernel) rfl) (bg_cons (bg_of 107 (by decide +kernel) rfl) (bg_cons (bg_of 1760 (by decide +kernel) rfl) bg_bg))))), ⟨by decide +kernel, by decide +kernel, by decide +kernel⟩⟩
theorem lkL_195 : LV RL 195 yX10_count cX10_count 2 (some .int) 1 := ⟨bg_good (bg_cons (bg_of 1176 (by decide +kernel) rfl) (bg_cons (bg_of 1177 (by decide +kernel) rfl) (bg_cons (bg_of 1178 (by decide +kernel) rfl) (bg_cons (bg_of 95 (by decide +kernel) rfl) (bg_cons (bg_of 1179 (by decide +kernel) rfl) bg_bg))))), ⟨by decide +kernel, by decide +kernel, by decide +kernel⟩⟩
theorem lkL_198 : LV RL 198 yX11_count cX11_count 4 (some .int) 1 := ⟨bg_good (bg_cons (bg_of 1902 (by decide +kernel) rfl) (bg_cons (bg_of 1903 (by decide +kernel) rfl) (bg_cons (bg_of 1904 (by decide +kernel) rfl) (bg_cons (bg_of 107 (by decide +kernel) rfl) (bg_cons (bg_of 1905 (by decide +kernel) rfl) bg_bg))))), ⟨by decide +kernel, by decide +kernel, by decide +kernel⟩⟩
set_option maxRecDepth 100000 in
set_option maxHeartbeats 4000000 in
theorem lw_case_0 {p : Program} {l : Launch} {e : Env} {s : State} {m : MethodId} {below : List Frame} {meth : Method} {c : Code} {g : Geo} {b L o : Nat} {xs : Nat → Int32} (hL : L ≤ 3072) (C : CX g p s m #[Value.ref b] meth c cL_law 7 ret RL) (hX : va_X b L xs s s.heap) (hbl : b < s.heap.size) (hAd : ∀ i, i < NN → s.heap.size ≤ g.2.1 i) (hoA : ¬ AX g o) (Rel : Mem → Mem → Prop) (h0 : ∀ (X Y : Mem) (a1 a2 a3 a4 a5 : Int32), Rel X Y → p_X10_feed a1 a2 a3 a4 a5 X (fun r X1 => p_X11_feed a1 a2 a3 a4 a5 Y (fun r1 Y1 => r = r1 ∧ Rel X1 Y1))) (X Y : Mem) (hR : Rel X Y) {x4 : Int32} {i : Nat} (ex4 : x4 = nI i) (hi6 : i + 6 ≤ L) {cells slots : Nat} (hcs : cells + 0 ≤ room_1.cells ∧ slots + 0 ≤ room_1.slots) {H : Heap} {locs : List Loc} {ls : Array Slot} (hP : va_P g.1 clz (xw g X) H) (hPy : va_P g.1 clz (yw g Y) H) (hO : OUT g o H) (hS : va_S (fun q => s.heap.size ≤ q) s.heap H locs) (hl : lv_has ls 7 [(4, .int x4), (0, .ref b), (1, .ref (g.2.1 (0 + 0))), (2, .ref (g.2.1 (138 + 0))), (3, .ref o)]) (kk : ∀ (X1 Y1 : Mem) (H : Heap) (locs : List Loc) (ls : Array Slot), Rel X1 Y1 → va_P g.1 clz (xw g X1) H → va_P g.1 clz (yw g Y1) H → OUT g o H → va_S (fun q => s.heap.size ≤ q) s.heap H locs → lv_has ls 7 [(4, .int x4), (0, .ref b), (1, .ref (g.2.1 (0 + 0))), (2, .ref (g.2.1 (138 + 0))), (3, .ref o)] → W p l e room_1 s m #[Value.ref b] below meth c H locs cells slots (lw_Z below #[Value.ref b] s) (F0 m 1701 ls [])) : W p l e room_1 s m #[Value.ref b] below meth c H locs cells slots (lw_Z below #[Value.ref b] s) (F0 m 224 ls []) := by
  have hbA : ¬ (fun q : Nat => s.heap.size ≤ q) b := Nat.not_le.mpr hbl
  refine lv_aload_n C.1 C.2.1 dL_law_224 rfl (lv_at hl 2 rfl) ?_
  refine lv_aload_n C.1 C.2.1 dL_law_225 rfl (lv_at hl 1 rfl) ?_
  refine lv_iload C.1 C.2.1 dL_law_226 (lv_at hl 0 rfl) ?_
  refine lv_iconst (v := 1) C.1 C.2.1 dL_law_228 (by decide) ?_
  refine lv_iadd C.1 C.2.1 dL_law_229 ?_
  refine va_sld C.1 C.2.1 hX hbl hbA hS (lw_ix 1 ex4 hi6 (by decide) hL) dL_law_230 ?_
  refine lv_aload_n C.1 C.2.1 dL_law_231 rfl (lv_at hl 1 rfl) ?_
  refine lv_iload C.1 C.2.1 dL_law_232 (lv_at hl 0 rfl) ?_
  refine lv_iconst (v := 2) C.1 C.2.1 dL_law_234 (by decide) ?_
  refine lv_iadd C.1 C.2.1 dL_law_235 ?_
  refine va_sld C.1 C.2.1 hX hbl hbA hS (lw_ix 2 ex4 hi6 (by decide) hL) dL_law_236 ?_
  refine lv_aload_n C.1 C.2.1 dL_law_237 rfl (lv_at hl 1 rfl) ?_
  refine lv_iload C.1 C.2.1 dL_law_238 (lv_at hl 0 rfl) ?_
  refine lv_iconst (v := 3) C.1 C.2.1 dL_law_240 (by decide) ?_
  refine lv_iadd C.1 C.2.1 dL_law_241 ?_
  refine va_sld C.1 C.2.1 hX hbl hbA hS (lw_ix 3 ex4 hi6 (by decide) hL) dL_law_242 ?_
  refine lv_aload_n C.1 C.2.1 dL_law_243 rfl (lv_at hl 1 rfl) ?_
  refine lv_iload C.1 C.2.1 dL_law_244 (lv_at hl 0 rfl) ?_
  refine lv_iconst (v := 4) C.1 C.2.1 dL_law_246 (by decide) ?_
  refine lv_iadd C.1 C.2.1 dL_law_247 ?_
  refine va_sld C.1 C.2.1 hX hbl hbA hS (lw_ix 4 ex4 hi6 (by decide) hL) dL_law_248 ?_
  refine lv_aload_n C.1 C.2.1 dL_law_249 rfl (lv_at hl 1 rfl) ?_
  refine lv_iload C.1 C.2.1 dL_law_250 (lv_at hl 0 rfl) ?_
  refine lv_iconst (v := 5) C.1 C.2.1 dL_law_252 (by decide) ?_
  refine lv_iadd C.1 C.2.1 dL_law_253 ?_
  refine va_sld C.1 C.2.1 hX hbl hbA hS (lw_ix 5 ex4 hi6 (by decide) hL) dL_law_254 ?_
  have hw := h0 X Y (xs ((x4 + 1 : Int32)).toNatClampNeg) (xs ((x4 + 2 : Int32)).toNatClampNeg) (xs ((x4 + 3 : Int32)).toNatClampNeg) (xs ((x4 + 4 : Int32)).toNatClampNeg) (xs ((x4 + 5 : Int32)).toNatClampNeg) hR
  refine goLaw (wf := xw g) (runVg (w := xw g X) (As := [.int (xs ((x4 + 1 : Int32)).toNatClampNeg), .int (xs ((x4 + 2 : Int32)).toNatClampNeg), .int (xs ((x4 + 3 : Int32)).toNatClampNeg), .int (xs ((x4 + 4 : Int32)).toNatClampNeg), .int (xs ((x4 + 5 : Int32)).toNatClampNeg)]) (rest := []) C lkL_21 (c_X10_feed l g C.2.2.2.2.2.2.2.2.2.2 (xs ((x4 + 1 : Int32)).toNatClampNeg) (xs ((x4 + 2 : Int32)).toNatClampNeg) (xs ((x4 + 3 : Int32)).toNatClampNeg) (xs ((x4 + 4 : Int32)).toNatClampNeg) (xs ((x4 + 5 : Int32)).toNatClampNeg) X _ hw) hP (SX hS hAd) rfl rfl ⟨Nat.le_of_ble_eq_true rfl, Nat.le_of_ble_eq_true rfl⟩ (xx_0 Nat.zero_lt_one) rfl rfl hl.1 rfl (Nat.le_of_ble_eq_true rfl) dL_law_255 hcs) hAd hS hO hoA hPy (yx_apart C.2.2.2.2.2.2.2.2.2.2 Y) (fun r X1 hw H locs hP hS hO hPy => ?_)
  refine lv_aload_n C.1 C.2.1 dL_law_258 rfl (lv_at hl 3 rfl) ?_
  refine lv_aload_n C.1 C.2.1 dL_law_259 rfl (lv_at hl 1 rfl) ?_
  refine lv_iload C.1 C.2.1 dL_law_260 (lv_at hl 0 rfl) ?_
  refine lv_iconst (v := 1) C.1 C.2.1 dL_law_262 (by decide) ?_
  refine lv_iadd C.1 C.2.1 dL_law_263 ?_
  refine va_sld C.1 C.2.1 hX hbl hbA hS (lw_ix 1 ex4 hi6 (by decide) hL) dL_law_264 ?_
  refine lv_aload_n C.1 C.2.1 dL_law_265 rfl (lv_at hl 1 rfl) ?_
  refine lv_iload C.1 C.2.1 dL_law_266 (lv_at hl 0 rfl) ?_
  refine lv_iconst (v := 2) C.1 C.2.1 dL_law_268 (by decide) ?_
  refine lv_iadd C.1 C.2.1 dL_law_269 ?_
  refine va_sld C.1 C.2.1 hX hbl hbA hS (lw_ix 2 ex4 hi6 (by decide) hL) dL_law_270 ?_
  refine lv_aload_n C.1 C.2.1 dL_law_271 rfl (lv_at hl 1 rfl) ?_
  refine lv_iload C.1 C.2.1 dL_law_272 (lv_at hl 0 rfl) ?_
  refine lv_iconst (v := 3) C.1 C.2.1 dL_law_274 (by decide) ?_
  refine lv_iadd C.1 C.2.1 dL_law_275 ?_
  refine va_sld C.1 C.2.1 hX hbl hbA hS (lw_ix 3 ex4 hi6 (by decide) hL) dL_law_276 ?_
  refine lv_aload_n C.1 C.2.1 dL_law_277 rfl (lv_at hl 1 rfl) ?_
  refine lv_iload C.1 C.2.1 dL_law_278 (lv_at hl 0 rfl) ?_
  refine lv_iconst (v := 4) C.1 C.2.1 dL_law_280 (by decide) ?_
  refine lv_iadd C.1 C.2.1 dL_law_281 ?_
  refine va_sld C.1 C.2.1 hX hbl hbA hS (lw_ix 4 ex4 hi6 (by decide) hL) dL_law_282 ?_
  refine lv_aload_n C.1 C.2.1 dL_law_283 rfl (lv_at hl 1 rfl) ?_
  refine lv_iload C.1 C.2.1 dL_law_284 (lv_at hl 0 rfl) ?_
  refine lv_iconst (v := 5) C.1 C.2.1 dL_law_286 (by decide) ?_
  refine lv_iadd C.1 C.2.1 dL_law_287 ?_
  refine va_sld C.1 C.2.1 hX hbl hbA hS (lw_ix 5 ex4 hi6 (by decide) hL) dL_law_288 ?_
  refine goLaw (wf := yw g) (runVg (w := yw g Y) (As := [.int (xs ((x4 + 1 : Int32)).toNatClampNeg), .int (xs ((x4 + 2 : Int32)).toNatClampNeg), .int (xs ((x4 + 3 : Int32)).toNatClampNeg), .int (xs ((x4 + 4 : Int32)).toNatClampNeg), .int (xs ((x4 + 5 : Int32)).toNatClampNeg)]) (rest := [.int r]) C lkL_25 (c_X11_feed l g C.2.2.2.2.2.2.2.2.2.2 (xs ((x4 + 1 : Int32)).toNatClampNeg) (xs ((x4 + 2 : Int32)).toNatClampNeg) (xs ((x4 + 3 : Int32)).toNatClampNeg) (xs ((x4 + 4 : Int32)).toNatClampNeg) (xs ((x4 + 5 : Int32)).toNatClampNeg) Y _ hw) hPy (SX hS hAd) rfl rfl ⟨Nat.le_of_ble_eq_true rfl, Nat.le_of_ble_eq_true rfl⟩ (xx_40 Nat.zero_lt_one) rfl rfl hl.1 rfl (Nat.le_of_ble_eq_true rfl) dL_law_289 hcs) hAd hS hO hoA hP (xy_apart C.2.2.2.2.2.2.2.2.2.2 X1) (fun r1 Y1 hw H locs hPy hS hO hP => ?_)
  refine lv_icmp_eq (tgt := 1701) C.1 C.2.1 dL_law_292 (by decide) (fun _ => ?_) (fun hn => absurd hw.1 hn)
  exact kk X1 Y1 _ _ _ hw.2 hP hPy hO hS hl
set_option maxRecDepth 100000 in
set_option maxHeartbeats 4000000 in
theorem lw_case_1 {p : Program} {l : Launch} {e : Env} {s : State} {m : MethodId} {below : List Frame} {meth : Method} {c : Code} {g : Geo} {b L o : Nat} {xs : Nat → Int32} (hL : L ≤ 3072) (C : CX g p s m #[Value.ref b] meth c cL_law 7 ret RL) (hX : va_X b L xs s s.heap) (hbl : b < s.heap.size) (hAd : ∀ i, i < NN → s.heap.size ≤ g.2.1 i) (hoA : ¬ AX g o) (Rel : Mem → Mem → Prop) (h1 : ∀ (X Y : Mem) (a1 : Int32), Rel X Y → p_X10_text a1 X (fun r X1 => p_X11_text a1 Y (fun r1 Y1 => r = r1 ∧ Rel X1 Y1))) (X Y : Mem) (hR : Rel X Y) {x4 : Int32} {i : Nat} (ex4 : x4 = nI i) (hi6 : i + 6 ≤ L) {cells slots : Nat} (hcs : cells + 0 ≤ room_1.cells ∧ slots + 0 ≤ room_1.slots) {H : Heap} {locs : List Loc} {ls : Array Slot} (hP : va_P g.1 clz (xw g X) H) (hPy : va_P g.1 clz (yw g Y) H) (hO : OUT g o H) (hS : va_S (fun q => s.heap.size ≤ q) s.heap H locs) (hl : lv_has ls 7 [(4, .int x4), (0, .ref b), (1, .ref (g.2.1 (0 + 0))), (2, .ref (g.2.1 (138 + 0))), (3, .ref o)]) (kk : ∀ (X1 Y1 : Mem) (H : Heap) (locs : List Loc) (ls : Array Slot), Rel X1 Y1 → va_P g.1 clz (xw g X1) H → va_P g.1 clz (yw g Y1) H → OUT g o H → va_S (fun q => s.heap.size ≤ q) s.heap H locs → lv_has ls 7 [(4, .int x4), (0, .ref b), (1, .ref (g.2.1 (0 + 0))), (2, .ref (g.2.1 (138 + 0))), (3, .ref o)] → W p l e room_1 s m #[Value.ref b] below meth c H locs cells slots (lw_Z below #[Value.ref b] s) (F0 m 1701 ls [])) : W p l e room_1 s m #[Value.ref b] below meth c H locs cells slots (lw_Z below #[Value.ref b] s) (F0 m 297 ls []) := by
  have hbA : ¬ (fun q : Nat => s.heap.size ≤ q) b := Nat.not_le.mpr hbl
  refine lv_aload_n C.1 C.2.1 dL_law_297 rfl (lv_at hl 2 rfl) ?_
  refine lv_aload_n C.1 C.2.1 dL_law_298 rfl (lv_at hl 1 rfl) ?_
  refine lv_iload C.1 C.2.1 dL_law_299 (lv_at hl 0 rfl) ?_
  refine lv_iconst (v := 1) C.1 C.2.1 dL_law_301 (by decide) ?_
  refine lv_iadd C.1 C.2.1 dL_law_302 ?_
  refine va_sld C.1 C.2.1 hX hbl hbA hS (lw_ix 1 ex4 hi6 (by decide) hL) dL_law_303 ?_
  have hw := h1 X Y (xs ((x4 + 1 : Int32)).toNatClampNeg) hR
  refine goLaw (wf := xw g) (runVg (w := xw g X) (As := [.int (xs ((x4 + 1 : Int32)).toNatClampNeg)]) (rest := []) C lkL_26 (c_X10_text l g C.2.2.2.2.2.2.2.2.2.2 (xs ((x4 + 1 : Int32)).toNatClampNeg) X _ hw) hP (SX hS hAd) rfl rfl ⟨Nat.le_of_ble_eq_true rfl, Nat.le_of_ble_eq_true rfl⟩ (xx_0 Nat.zero_lt_one) rfl rfl hl.1 rfl (Nat.le_of_ble_eq_true rfl) dL_law_304 hcs) hAd hS hO hoA hPy (yx_apart C.2.2.2.2.2.2.2.2.2.2 Y) (fun r X1 hw H locs hP hS hO hPy => ?_)
  refine lv_aload_n C.1 C.2.1 dL_law_307 rfl (lv_at hl 3 rfl) ?_
  refine lv_aload_n C.1 C.2.1 dL_law_308 rfl (lv_at hl 1 rfl) ?_
  refine lv_iload C.1 C.2.1 dL_law_309 (lv_at hl 0 rfl) ?_
  refine lv_iconst (v := 1) C.1 C.2.1 dL_law_311 (by decide) ?_
  refine lv_iadd C.1 C.2.1 dL_law_312 ?_
  refine va_sld C.1 C.2.1 hX hbl hbA hS (lw_ix 1 ex4 hi6 (by decide) hL) dL_law_313 ?_
  refine goLaw (wf := yw g) (runVg (w := yw g Y) (As := [.int (xs ((x4 + 1 : Int32)).toNatClampNeg)]) (rest := [.int r]) C lkL_30 (c_X11_text l g C.2.2.2.2.2.2.2.2.2.2 (xs ((x4 + 1 : Int32)).toNatClampNeg) Y _ hw) hPy (SX hS hAd) rfl rfl ⟨Nat.le_of_ble_eq_true rfl, Nat.le_of_ble_eq_true rfl⟩ (xx_40 Nat.zero_lt_one) rfl rfl hl.1 rfl (Nat.le_of_ble_eq_true rfl) dL_law_314 hcs) hAd hS hO hoA hP (xy_apart C.2.2.2.2.2.2.2.2.2.2 X1) (fun r1 Y1 hw H locs hPy hS hO hP => ?_)
  refine lv_icmp_eq (tgt := 1701) C.1 C.2.1 dL_law_317 (by decide) (fun _ => ?_) (fun hn => absurd hw.1 hn)
  exact kk X1 Y1 _ _ _ hw.2 hP hPy hO hS hl
set_option maxRecDepth 100000 in
set_option maxHeartbeats 4000000 in
theorem lw_case_2 {p : Program} {l : Launch} {e : Env} {s : State} {m : MethodId} {below : List Frame} {meth : Method} {c : Code} {g : Geo} {b L o : Nat} {xs : Nat → Int32} (hL : L ≤ 3072) (C : CX g p s m #[Value.ref b] meth c cL_law 7 ret RL) (hX : va_X b L xs s s.heap) (hbl : b < s.heap.size) (hAd : ∀ i, i < NN → s.heap.size ≤ g.2.1 i) (hoA : ¬ AX g o) (Rel : Mem → Mem → Prop) (h2 : ∀ (X Y : Mem) (a1 : Int32), Rel X Y → p_X10_fault a1 X (fun r X1 => p_X11_fault a1 Y (fun r1 Y1 => r = r1 ∧ Rel X1 Y1))) (X Y : Mem) (hR : Rel X Y) {x4 : Int32} {i : Nat} (ex4 : x4 = nI i) (hi6 : i + 6 ≤ L) {cells slots : Nat} (hcs : cells + 0 ≤ room_1.cells ∧ slots + 0 ≤ room_1.slots) {H : Heap} {locs : List Loc} {ls : Array Slot} (hP : va_P g.1 clz (xw g X) H) (hPy : va_P g.1 clz (yw g Y) H) (hO : OUT g o H) (hS : va_S (fun q => s.heap.size ≤ q) s.heap H locs) (hl : lv_has ls 7 [(4, .int x4), (0, .ref b), (1, .ref (g.2.1 (0 + 0))), (2, .ref (g.2.1 (138 + 0))), (3, .ref o)]) (kk : ∀ (X1 Y1 : Mem) (H : Heap) (locs : List Loc) (ls : Array Slot), Rel X1 Y1 → va_P g.1 clz (xw g X1) H → va_P g.1 clz (yw g Y1) H → OUT g o H → va_S (fun q => s.heap.size ≤ q) s.heap H locs → lv_has ls 7 [(4, .int x4), (0, .ref b), (1, .ref (g.2.1 (0 + 0))), (2, .ref (g.2.1 (138 + 0))), (3, .ref o)] → W p l e room_1 s m #[Value.ref b] below meth c H locs cells slots (lw_Z below #[Value.ref b] s) (F0 m 1701 ls [])) : W p l e room_1 s m #[Value.ref b] below meth c H locs cells slots (lw_Z below #[Value.ref b] s) (F0 m 322 ls []) := by
  have hbA : ¬ (fun q : Nat => s.heap.size ≤ q) b := Nat.not_le.mpr hbl
  refine lv_aload_n C.1 C.2.1 dL_law_322 rfl (lv_at hl 2 rfl) ?_
  refine lv_aload_n C.1 C.2.1 dL_law_323 rfl (lv_at hl 1 rfl) ?_
  refine lv_iload C.1 C.2.1 dL_law_324 (lv_at hl 0 rfl) ?_
  refine lv_iconst (v := 1) C.1 C.2.1 dL_law_326 (by decide) ?_
  refine lv_iadd C.1 C.2.1 dL_law_327 ?_
  refine va_sld C.1 C.2.1 hX hbl hbA hS (lw_ix 1 ex4 hi6 (by decide) hL) dL_law_328 ?_
  have hw := h2 X Y (xs ((x4 + 1 : Int32)).toNatClampNeg) hR
  refine goLaw (wf := xw g) (runVg (w := xw g X) (As := [.int (xs ((x4 + 1 : Int32)).toNatClampNeg)]) (rest := []) C lkL_31 (c_X10_fault l g C.2.2.2.2.2.2.2.2.2.2 (xs ((x4 + 1 : Int32)).toNatClampNeg) X _ hw) hP (SX hS hAd) rfl rfl ⟨Nat.le_of_ble_eq_true rfl, Nat.le_of_ble_eq_true rfl⟩ (xx_0 Nat.zero_lt_one) rfl rfl hl.1 rfl (Nat.le_of_ble_eq_true rfl) dL_law_329 hcs) hAd hS hO hoA hPy (yx_apart C.2.2.2.2.2.2.2.2.2.2 Y) (fun r X1 hw H locs hP hS hO hPy => ?_)
  refine lv_aload_n C.1 C.2.1 dL_law_332 rfl (lv_at hl 3 rfl) ?_
  refine lv_aload_n C.1 C.2.1 dL_law_333 rfl (lv_at hl 1 rfl) ?_
  refine lv_iload C.1 C.2.1 dL_law_334 (lv_at hl 0 rfl) ?_
  refine lv_iconst (v := 1) C.1 C.2.1 dL_law_336 (by decide) ?_
  refine lv_iadd C.1 C.2.1 dL_law_337 ?_
  refine va_sld C.1 C.2.1 hX hbl hbA hS (lw_ix 1 ex4 hi6 (by decide) hL) dL_law_338 ?_
  refine goLaw (wf := yw g) (runVg (w := yw g Y) (As := [.int (xs ((x4 + 1 : Int32)).toNatClampNeg)]) (rest := [.int r]) C lkL_34 (c_X11_fault l g C.2.2.2.2.2.2.2.2.2.2 (xs ((x4 + 1 : Int32)).toNatClampNeg) Y _ hw) hPy (SX hS hAd) rfl rfl ⟨Nat.le_of_ble_eq_true rfl, Nat.le_of_ble_eq_true rfl⟩ (xx_40 Nat.zero_lt_one) rfl rfl hl.1 rfl (Nat.le_of_ble_eq_true rfl) dL_law_339 hcs) hAd hS hO hoA hP (xy_apart C.2.2.2.2.2.2.2.2.2.2 X1) (fun r1 Y1 hw H locs hPy hS hO hP => ?_)
  refine lv_icmp_eq (tgt := 1701) C.1 C.2.1 dL_law_342 (by decide) (fun _ => ?_) (fun hn => absurd hw.1 hn)
  exact kk X1 Y1 _ _ _ hw.2 hP hPy hO hS hl
set_option maxRecDepth 100000 in
set_option maxHeartbeats 4000000 in
theorem lw_case_3 {p : Program} {l : Launch} {e : Env} {s : State} {m : MethodId} {below : List Frame} {meth : Method} {c : Code} {g : Geo} {b L o : Nat} {xs : Nat → Int32} (hL : L ≤ 3072) (C : CX g p s m #[Value.ref b] meth c cL_law 7 ret RL) (hX : va_X b L xs s s.heap) (hbl : b < s.heap.size) (hAd : ∀ i, i < NN → s.heap.size ≤ g.2.1 i) (hoA : ¬ AX g o) (Rel : Mem → Mem → Prop) (h3 : ∀ (X Y : Mem) (a1 : Int32), Rel X Y → p_X10_named a1 X (fun r X1 => p_X11_named a1 Y (fun r1 Y1 => r = r1 ∧ Rel X1 Y1))) (X Y : Mem) (hR : Rel X Y) {x4 : Int32} {i : Nat} (ex4 : x4 = nI i) (hi6 : i + 6 ≤ L) {cells slots : Nat} (hcs : cells + 0 ≤ room_1.cells ∧ slots + 0 ≤ room_1.slots) {H : Heap} {locs : List Loc} {ls : Array Slot} (hP : va_P g.1 clz (xw g X) H) (hPy : va_P g.1 clz (yw g Y) H) (hO : OUT g o H) (hS : va_S (fun q => s.heap.size ≤ q) s.heap H locs) (hl : lv_has ls 7 [(4, .int x4), (0, .ref b), (1, .ref (g.2.1 (0 + 0))), (2, .ref (g.2.1 (138 + 0))), (3, .ref o)]) (kk : ∀ (X1 Y1 : Mem) (H : Heap) (locs : List Loc) (ls : Array Slot), Rel X1 Y1 → va_P g.1 clz (xw g X1) H → va_P g.1 clz (yw g Y1) H → OUT g o H → va_S (fun q => s.heap.size ≤ q) s.heap H locs → lv_has ls 7 [(4, .int x4), (0, .ref b), (1, .ref (g.2.1 (0 + 0))), (2, .ref (g.2.1 (138 + 0))), (3, .ref o)] → W p l e room_1 s m #[Value.ref b] below meth c H locs cells slots (lw_Z below #[Value.ref b] s) (F0 m 1701 ls [])) : W p l e room_1 s m #[Value.ref b] below meth c H locs cells slots (lw_Z below #[Value.ref b] s) (F0 m 347 ls []) := by
  have hbA : ¬ (fun q : Nat => s.heap.size ≤ q) b := Nat.not_le.mpr hbl
  refine lv_aload_n C.1 C.2.1 dL_law_347 rfl (lv_at hl 2 rfl) ?_
  refine lv_aload_n C.1 C.2.1 dL_law_348 rfl (lv_at hl 1 rfl) ?_
  refine lv_iload C.1 C.2.1 dL_law_349 (lv_at hl 0 rfl) ?_
  refine lv_iconst (v := 1) C.1 C.2.1 dL_law_351 (by decide) ?_
  refine lv_iadd C.1 C.2.1 dL_law_352 ?_
  refine va_sld C.1 C.2.1 hX hbl hbA hS (lw_ix 1 ex4 hi6 (by decide) hL) dL_law_353 ?_
  have hw := h3 X Y (xs ((x4 + 1 : Int32)).toNatClampNeg) hR
  refine goLaw (wf := xw g) (runVg (w := xw g X) (As := [.int (xs ((x4 + 1 : Int32)).toNatClampNeg)]) (rest := []) C lkL_35 (c_X10_named l g C.2.2.2.2.2.2.2.2.2.2 (xs ((x4 + 1 : Int32)).toNatClampNeg) X _ hw) hP (SX hS hAd) rfl rfl ⟨Nat.le_of_ble_eq_true rfl, Nat.le_of_ble_eq_true rfl⟩ (xx_0 Nat.zero_lt_one) rfl rfl hl.1 rfl (Nat.le_of_ble_eq_true rfl) dL_law_354 hcs) hAd hS hO hoA hPy (yx_apart C.2.2.2.2.2.2.2.2.2.2 Y) (fun r X1 hw H locs hP hS hO hPy => ?_)
  refine lv_aload_n C.1 C.2.1 dL_law_357 rfl (lv_at hl 3 rfl) ?_
  refine lv_aload_n C.1 C.2.1 dL_law_358 rfl (lv_at hl 1 rfl) ?_
  refine lv_iload C.1 C.2.1 dL_law_359 (lv_at hl 0 rfl) ?_
  refine lv_iconst (v := 1) C.1 C.2.1 dL_law_361 (by decide) ?_
  refine lv_iadd C.1 C.2.1 dL_law_362 ?_
  refine va_sld C.1 C.2.1 hX hbl hbA hS (lw_ix 1 ex4 hi6 (by decide) hL) dL_law_363 ?_
  refine goLaw (wf := yw g) (runVg (w := yw g Y) (As := [.int (xs ((x4 + 1 : Int32)).toNatClampNeg)]) (rest := [.int r]) C lkL_38 (c_X11_named l g C.2.2.2.2.2.2.2.2.2.2 (xs ((x4 + 1 : Int32)).toNatClampNeg) Y _ hw) hPy (SX hS hAd) rfl rfl ⟨Nat.le_of_ble_eq_true rfl, Nat.le_of_ble_eq_true rfl⟩ (xx_40 Nat.zero_lt_one) rfl rfl hl.1 rfl (Nat.le_of_ble_eq_true rfl) dL_law_364 hcs) hAd hS hO hoA hP (xy_apart C.2.2.2.2.2.2.2.2.2.2 X1) (fun r1 Y1 hw H locs hPy hS hO hP => ?_)
  refine lv_icmp_eq (tgt := 1701) C.1 C.2.1 dL_law_367 (by decide) (fun _ => ?_) (fun hn => absurd hw.1 hn)
  exact kk X1 Y1 _ _ _ hw.2 hP hPy hO hS hl
set_option maxRecDepth 100000 in
set_option maxHeartbeats 4000000 in
theorem lw_case_5 {p : Program} {l : Launch} {e : Env} {s : State} {m : MethodId} {below : List Frame} {meth : Method} {c : Code} {g : Geo} {b L o : Nat} {xs : Nat → Int32} (hL : L ≤ 3072) (C : CX g p s m #[Value.ref b] meth c cL_law 7 ret RL) (hX : va_X b L xs s s.heap) (hbl : b < s.heap.size) (hAd : ∀ i, i < NN → s.heap.size ≤ g.2.1 i) (hoA : ¬ AX g o) (Rel : Mem → Mem → Prop) (h5 : ∀ (X Y : Mem) (a1 a2 : Int32), Rel X Y → p_X10_chip a1 a2 X (fun r X1 => p_X11_chip a1 a2 Y (fun r1 Y1 => r = r1 ∧ Rel X1 Y1))) (X Y : Mem) (hR : Rel X Y) {x4 : Int32} {i : Nat} (ex4 : x4 = nI i) (hi6 : i + 6 ≤ L) {cells slots : Nat} (hcs : cells + 0 ≤ room_1.cells ∧ slots + 0 ≤ room_1.slots) {H : Heap} {locs : List Loc} {ls : Array Slot} (hP : va_P g.1 clz (xw g X) H) (hPy : va_P g.1 clz (yw g Y) H) (hO : OUT g o H) (hS : va_S (fun q => s.heap.size ≤ q) s.heap H locs) (hl : lv_has ls 7 [(4, .int x4), (0, .ref b), (1, .ref (g.2.1 (0 + 0))), (2, .ref (g.2.1 (138 + 0))), (3, .ref o)]) (kk : ∀ (X1 Y1 : Mem) (H : Heap) (locs : List Loc) (ls : Array Slot), Rel X1 Y1 → va_P g.1 clz (xw g X1) H → va_P g.1 clz (yw g Y1) H → OUT g o H → va_S (fun q => s.heap.size ≤ q) s.heap H locs → lv_has ls 7 [(4, .int x4), (0, .ref b), (1, .ref (g.2.1 (0 + 0))), (2, .ref (g.2.1 (138 + 0))), (3, .ref o)] → W p l e room_1 s m #[Value.ref b] below meth c H locs cells slots (lw_Z below #[Value.ref b] s) (F0 m 1701 ls [])) : W p l e room_1 s m #[Value.ref b] below meth c H locs cells slots (lw_Z below #[Value.ref b] s) (F0 m 440 ls []) := by
  have hbA : ¬ (fun q : Nat => s.heap.size ≤ q) b := Nat.not_le.mpr hbl
  refine lv_aload_n C.1 C.2.1 dL_law_440 rfl (lv_at hl 2 rfl) ?_
  refine lv_aload_n C.1 C.2.1 dL_law_441 rfl (lv_at hl 1 rfl) ?_
  refine lv_iload C.1 C.2.1 dL_law_442 (lv_at hl 0 rfl) ?_
  refine lv_iconst (v := 1) C.1 C.2.1 dL_law_444 (by decide) ?_
  refine lv_iadd C.1 C.2.1 dL_law_445 ?_
  refine va_sld C.1 C.2.1 hX hbl hbA hS (lw_ix 1 ex4 hi6 (by decide) hL) dL_law_446 ?_
  refine lv_aload_n C.1 C.2.1 dL_law_447 rfl (lv_at hl 1 rfl) ?_
  refine lv_iload C.1 C.2.1 dL_law_448 (lv_at hl 0 rfl) ?_
  refine lv_iconst (v := 2) C.1 C.2.1 dL_law_450 (by decide) ?_
  refine lv_iadd C.1 C.2.1 dL_law_451 ?_
  refine va_sld C.1 C.2.1 hX hbl hbA hS (lw_ix 2 ex4 hi6 (by decide) hL) dL_law_452 ?_
  have hw := h5 X Y (xs ((x4 + 1 : Int32)).toNatClampNeg) (xs ((x4 + 2 : Int32)).toNatClampNeg) hR
  refine goLaw (wf := xw g) (runVg (w := xw g X) (As := [.int (xs ((x4 + 1 : Int32)).toNatClampNeg), .int (xs ((x4 + 2 : Int32)).toNatClampNeg)]) (rest := []) C lkL_49 (c_X10_chip l g C.2.2.2.2.2.2.2.2.2.2 (xs ((x4 + 1 : Int32)).toNatClampNeg) (xs ((x4 + 2 : Int32)).toNatClampNeg) X _ hw) hP (SX hS hAd) rfl rfl ⟨Nat.le_of_ble_eq_true rfl, Nat.le_of_ble_eq_true rfl⟩ (xx_0 Nat.zero_lt_one) rfl rfl hl.1 rfl (Nat.le_of_ble_eq_true rfl) dL_law_453 hcs) hAd hS hO hoA hPy (yx_apart C.2.2.2.2.2.2.2.2.2.2 Y) (fun r X1 hw H locs hP hS hO hPy => ?_)
  refine lv_aload_n C.1 C.2.1 dL_law_456 rfl (lv_at hl 3 rfl) ?_
  refine lv_aload_n C.1 C.2.1 dL_law_457 rfl (lv_at hl 1 rfl) ?_
  refine lv_iload C.1 C.2.1 dL_law_458 (lv_at hl 0 rfl) ?_
  refine lv_iconst (v := 1) C.1 C.2.1 dL_law_460 (by decide) ?_
  refine lv_iadd C.1 C.2.1 dL_law_461 ?_
  refine va_sld C.1 C.2.1 hX hbl hbA hS (lw_ix 1 ex4 hi6 (by decide) hL) dL_law_462 ?_
  refine lv_aload_n C.1 C.2.1 dL_law_463 rfl (lv_at hl 1 rfl) ?_
  refine lv_iload C.1 C.2.1 dL_law_464 (lv_at hl 0 rfl) ?_
  refine lv_iconst (v := 2) C.1 C.2.1 dL_law_466 (by decide) ?_
  refine lv_iadd C.1 C.2.1 dL_law_467 ?_
  refine va_sld C.1 C.2.1 hX hbl hbA hS (lw_ix 2 ex4 hi6 (by decide) hL) dL_law_468 ?_
  refine goLaw (wf := yw g) (runVg (w := yw g Y) (As := [.int (xs ((x4 + 1 : Int32)).toNatClampNeg), .int (xs ((x4 + 2 : Int32)).toNatClampNeg)]) (rest := [.int r]) C lkL_52 (c_X11_chip l g C.2.2.2.2.2.2.2.2.2.2 (xs ((x4 + 1 : Int32)).toNatClampNeg) (xs ((x4 + 2 : Int32)).toNatClampNeg) Y _ hw) hPy (SX hS hAd) rfl rfl ⟨Nat.le_of_ble_eq_true rfl, Nat.le_of_ble_eq_true rfl⟩ (xx_40 Nat.zero_lt_one) rfl rfl hl.1 rfl (Nat.le_of_ble_eq_true rfl) dL_law_469 hcs) hAd hS hO hoA hP (xy_apart C.2.2.2.2.2.2.2.2.2.2 X1) (fun r1 Y1 hw H locs hPy hS hO hP => ?_)
  refine lv_icmp_eq (tgt := 1701) C.1 C.2.1 dL_law_472 (by decide) (fun _ => ?_) (fun hn => absurd hw.1 hn)
  exact kk X1 Y1 _ _ _ hw.2 hP hPy hO hS hl
set_option maxRecDepth 100000 in
set_option maxHeartbeats 4000000 in
theorem lw_case_6 {p : Program} {l : Launch} {e : Env} {s : State} {m : MethodId} {below : List Frame} {meth : Method} {c : Code} {g : Geo} {b L o : Nat} {xs : Nat → Int32} (hL : L ≤ 3072) (C : CX g p s m #[Value.ref b] meth c cL_law 7 ret RL) (hX : va_X b L xs s s.heap) (hbl : b < s.heap.size) (hAd : ∀ i, i < NN → s.heap.size ≤ g.2.1 i) (hoA : ¬ AX g o) (Rel : Mem → Mem → Prop) (h6 : ∀ (X Y : Mem) (a1 : Int32), Rel X Y → p_X10_period a1 X (fun r X1 => p_X11_period a1 Y (fun r1 Y1 => r = r1 ∧ Rel X1 Y1))) (X Y : Mem) (hR : Rel X Y) {x4 : Int32} {i : Nat} (ex4 : x4 = nI i) (hi6 : i + 6 ≤ L) {cells slots : Nat} (hcs : cells + 0 ≤ room_1.cells ∧ slots + 0 ≤ room_1.slots) {H : Heap} {locs : List Loc} {ls : Array Slot} (hP : va_P g.1 clz (xw g X) H) (hPy : va_P g.1 clz (yw g Y) H) (hO : OUT g o H) (hS : va_S (fun q => s.heap.size ≤ q) s.heap H locs) (hl : lv_has ls 7 [(4, .int x4), (0, .ref b), (1, .ref (g.2.1 (0 + 0))), (2, .ref (g.2.1 (138 + 0))), (3, .ref o)]) (kk : ∀ (X1 Y1 : Mem) (H : Heap) (locs : List Loc) (ls : Array Slot), Rel X1 Y1 → va_P g.1 clz (xw g X1) H → va_P g.1 clz (yw g Y1) H → OUT g o H → va_S (fun q => s.heap.size ≤ q) s.heap H locs → lv_has ls 7 [(4, .int x4), (0, .ref b), (1, .ref (g.2.1 (0 + 0))), (2, .ref (g.2.1 (138 + 0))), (3, .ref o)] → W p l e room_1 s m #[Value.ref b] below meth c H locs cells slots (lw_Z below #[Value.ref b] s) (F0 m 1701 ls [])) : W p l e room_1 s m #[Value.ref b] below meth c H locs cells slots (lw_Z below #[Value.ref b] s) (F0 m 477 ls []) := by
  have hbA : ¬ (fun q : Nat => s.heap.size ≤ q) b := Nat.not_le.mpr hbl
  refine lv_aload_n C.1 C.2.1 dL_law_477 rfl (lv_at hl 2 rfl) ?_
  refine lv_aload_n C.1 C.2.1 dL_law_478 rfl (lv_at hl 1 rfl) ?_
  refine lv_iload C.1 C.2.1 dL_law_479 (lv_at hl 0 rfl) ?_
  refine lv_iconst (v := 1) C.1 C.2.1 dL_law_481 (by decide) ?_
  refine lv_iadd C.1 C.2.1 dL_law_482 ?_
  refine va_sld C.1 C.2.1 hX hbl hbA hS (lw_ix 1 ex4 hi6 (by decide) hL) dL_law_483 ?_
  have hw := h6 X Y (xs ((x4 + 1 : Int32)).toNatClampNeg) hR
  refine goLaw (wf := xw g) (runVg (w := xw g X) (As := [.int (xs ((x4 + 1 : Int32)).toNatClampNeg)]) (rest := []) C lkL_53 (c_X10_period l g C.2.2.2.2.2.2.2.2.2.2 (xs ((x4 + 1 : Int32)).toNatClampNeg) X _ hw) hP (SX hS hAd) rfl rfl ⟨Nat.le_of_ble_eq_true rfl, Nat.le_of_ble_eq_true rfl⟩ (xx_0 Nat.zero_lt_one) rfl rfl hl.1 rfl (Nat.le_of_ble_eq_true rfl) dL_law_484 hcs) hAd hS hO hoA hPy (yx_apart C.2.2.2.2.2.2.2.2.2.2 Y) (fun r X1 hw H locs hP hS hO hPy => ?_)
  refine lv_aload_n C.1 C.2.1 dL_law_487 rfl (lv_at hl 3 rfl) ?_
  refine lv_aload_n C.1 C.2.1 dL_law_488 rfl (lv_at hl 1 rfl) ?_
  refine lv_iload C.1 C.2.1 dL_law_489 (lv_at hl 0 rfl) ?_
  refine lv_iconst (v := 1) C.1 C.2.1 dL_law_491 (by decide) ?_
  refine lv_iadd C.1 C.2.1 dL_law_492 ?_
  refine va_sld C.1 C.2.1 hX hbl hbA hS (lw_ix 1 ex4 hi6 (by decide) hL) dL_law_493 ?_
  refine goLaw (wf := yw g) (runVg (w := yw g Y) (As := [.int (xs ((x4 + 1 : Int32)).toNatClampNeg)]) (rest := [.int r]) C lkL_56 (c_X11_period l g C.2.2.2.2.2.2.2.2.2.2 (xs ((x4 + 1 : Int32)).toNatClampNeg) Y _ hw) hPy (SX hS hAd) rfl rfl ⟨Nat.le_of_ble_eq_true rfl, Nat.le_of_ble_eq_true rfl⟩ (xx_40 Nat.zero_lt_one) rfl rfl hl.1 rfl (Nat.le_of_ble_eq_true rfl) dL_law_494 hcs) hAd hS hO hoA hP (xy_apart C.2.2.2.2.2.2.2.2.2.2 X1) (fun r1 Y1 hw H locs hPy hS hO hP => ?_)
  refine lv_icmp_eq (tgt := 1701) C.1 C.2.1 dL_law_497 (by decide) (fun _ => ?_) (fun hn => absurd hw.1 hn)
  exact kk X1 Y1 _ _ _ hw.2 hP hPy hO hS hl
set_option maxRecDepth 100000 in
set_option maxHeartbeats 4000000 in
theorem lw_case_7 {p : Program} {l : Launch} {e : Env} {s : State} {m : MethodId} {below : List Frame} {meth : Method} {c : Code} {g : Geo} {b L o : Nat} {xs : Nat → Int32} (hL : L ≤ 3072) (C : CX g p s m #[Value.ref b] meth c cL_law 7 ret RL) (hX : va_X b L xs s s.heap) (hbl : b < s.heap.size) (hAd : ∀ i, i < NN → s.heap.size ≤ g.2.1 i) (hoA : ¬ AX g o) (Rel : Mem → Mem → Prop) (h7 : ∀ (X Y : Mem) (a1 a2 a3 : Int32), Rel X Y → p_X10_cross a1 a2 a3 X (fun r X1 => p_X11_cross a1 a2 a3 Y (fun r1 Y1 => r = r1 ∧ Rel X1 Y1))) (X Y : Mem) (hR : Rel X Y) {x4 : Int32} {i : Nat} (ex4 : x4 = nI i) (hi6 : i + 6 ≤ L) {cells slots : Nat} (hcs : cells + 0 ≤ room_1.cells ∧ slots + 0 ≤ room_1.slots) {H : Heap} {locs : List Loc} {ls : Array Slot} (hP : va_P g.1 clz (xw g X) H) (hPy : va_P g.1 clz (yw g Y) H) (hO : OUT g o H) (hS : va_S (fun q => s.heap.size ≤ q) s.heap H locs) (hl : lv_has ls 7 [(4, .int x4), (0, .ref b), (1, .ref (g.2.1 (0 + 0))), (2, .ref (g.2.1 (138 + 0))), (3, .ref o)]) (kk : ∀ (X1 Y1 : Mem) (H : Heap) (locs : List Loc) (ls : Array Slot), Rel X1 Y1 → va_P g.1 clz (xw g X1) H → va_P g.1 clz (yw g Y1) H → OUT g o H → va_S (fun q => s.heap.size ≤ q) s.heap H locs → lv_has ls 7 [(4, .int x4), (0, .ref b), (1, .ref (g.2.1 (0 + 0))), (2, .ref (g.2.1 (138 + 0))), (3, .ref o)] → W p l e room_1 s m #[Value.ref b] below meth c H locs cells slots (lw_Z below #[Value.ref b] s) (F0 m 1701 ls [])) : W p l e room_1 s m #[Value.ref b] below meth c H locs cells slots (lw_Z below #[Value.ref b] s) (F0 m 502 ls []) := by
  have hbA : ¬ (fun q : Nat => s.heap.size ≤ q) b := Nat.not_le.mpr hbl
  refine lv_aload_n C.1 C.2.1 dL_law_502 rfl (lv_at hl 2 rfl) ?_
  refine lv_aload_n C.1 C.2.1 dL_law_503 rfl (lv_at hl 1 rfl) ?_
  refine lv_iload C.1 C.2.1 dL_law_504 (lv_at hl 0 rfl) ?_
  refine lv_iconst (v := 1) C.1 C.2.1 dL_law_506 (by decide) ?_
  refine lv_iadd C.1 C.2.1 dL_law_507 ?_
  refine va_sld C.1 C.2.1 hX hbl hbA hS (lw_ix 1 ex4 hi6 (by decide) hL) dL_law_508 ?_
  refine lv_aload_n C.1 C.2.1 dL_law_509 rfl (lv_at hl 1 rfl) ?_
  refine lv_iload C.1 C.2.1 dL_law_510 (lv_at hl 0 rfl) ?_
  refine lv_iconst (v := 2) C.1 C.2.1 dL_law_512 (by decide) ?_
  refine lv_iadd C.1 C.2.1 dL_law_513 ?_
  refine va_sld C.1 C.2.1 hX hbl hbA hS (lw_ix 2 ex4 hi6 (by decide) hL) dL_law_514 ?_
  refine lv_aload_n C.1 C.2.1 dL_law_515 rfl (lv_at hl 1 rfl) ?_
  refine lv_iload C.1 C.2.1 dL_law_516 (lv_at hl 0 rfl) ?_
  refine lv_iconst (v := 3) C.1 C.2.1 dL_law_518 (by decide) ?_
  refine lv_iadd C.1 C.2.1 dL_law_519 ?_
  refine va_sld C.1 C.2.1 hX hbl hbA hS (lw_ix 3 ex4 hi6 (by decide) hL) dL_law_520 ?_
  have hw := h7 X Y (xs ((x4 + 1 : Int32)).toNatClampNeg) (xs ((x4 + 2 : Int32)).toNatClampNeg) (xs ((x4 + 3 : Int32)).toNatClampNeg) hR
  refine goLaw (wf := xw g) (runVg (w := xw g X) (As := [.int (xs ((x4 + 1 : Int32)).toNatClampNeg), .int (xs ((x4 + 2 : Int32)).toNatClampNeg), .int (xs ((x4 + 3 : Int32)).toNatClampNeg)]) (rest := []) C lkL_57 (c_X10_cross l g C.2.2.2.2.2.2.2.2.2.2 (xs ((x4 + 1 : Int32)).toNatClampNeg) (xs ((x4 + 2 : Int32)).toNatClampNeg) (xs ((x4 + 3 : Int32)).toNatClampNeg) X _ hw) hP (SX hS hAd) rfl rfl ⟨Nat.le_of_ble_eq_true rfl, Nat.le_of_ble_eq_true rfl⟩ (xx_0 Nat.zero_lt_one) rfl rfl hl.1 rfl (Nat.le_of_ble_eq_true rfl) dL_law_521 hcs) hAd hS hO hoA hPy (yx_apart C.2.2.2.2.2.2.2.2.2.2 Y) (fun r X1 hw H locs hP hS hO hPy => ?_)
  refine lv_aload_n C.1 C.2.1 dL_law_524 rfl (lv_at hl 3 rfl) ?_
  refine lv_aload_n C.1 C.2.1 dL_law_525 rfl (lv_at hl 1 rfl) ?_
  refine lv_iload C.1 C.2.1 dL_law_526 (lv_at hl 0 rfl) ?_
  refine lv_iconst (v := 1) C.1 C.2.1 dL_law_528 (by decide) ?_
  refine lv_iadd C.1 C.2.1 dL_law_529 ?_
  refine va_sld C.1 C.2.1 hX hbl hbA hS (lw_ix 1 ex4 hi6 (by decide) hL) dL_law_530 ?_
  refine lv_aload_n C.1 C.2.1 dL_law_531 rfl (lv_at hl 1 rfl) ?_
  refine lv_iload C.1 C.2.1 dL_law_532 (lv_at hl 0 rfl) ?_
  refine lv_iconst (v := 2) C.1 C.2.1 dL_law_534 (by decide) ?_
  refine lv_iadd C.1 C.2.1 dL_law_535 ?_
  refine va_sld C.1 C.2.1 hX hbl hbA hS (lw_ix 2 ex4 hi6 (by decide) hL) dL_law_536 ?_
  refine lv_aload_n C.1 C.2.1 dL_law_537 rfl (lv_at hl 1 rfl) ?_
  refine lv_iload C.1 C.2.1 dL_law_538 (lv_at hl 0 rfl) ?_
  refine lv_iconst (v := 3) C.1 C.2.1 dL_law_540 (by decide) ?_
  refine lv_iadd C.1 C.2.1 dL_law_541 ?_
  refine va_sld C.1 C.2.1 hX hbl hbA hS (lw_ix 3 ex4 hi6 (by decide) hL) dL_law_542 ?_
  refine goLaw (wf := yw g) (runVg (w := yw g Y) (As := [.int (xs ((x4 + 1 : Int32)).toNatClampNeg), .int (xs ((x4 + 2 : Int32)).toNatClampNeg), .int (xs ((x4 + 3 : Int32)).toNatClampNeg)]) (rest := [.int r]) C lkL_61 (c_X11_cross l g C.2.2.2.2.2.2.2.2.2.2 (xs ((x4 + 1 : Int32)).toNatClampNeg) (xs ((x4 + 2 : Int32)).toNatClampNeg) (xs ((x4 + 3 : Int32)).toNatClampNeg) Y _ hw) hPy (SX hS hAd) rfl rfl ⟨Nat.le_of_ble_eq_true rfl, Nat.le_of_ble_eq_true rfl⟩ (xx_40 Nat.zero_lt_one) rfl rfl hl.1 rfl (Nat.le_of_ble_eq_true rfl) dL_law_543 hcs) hAd hS hO hoA hP (xy_apart C.2.2.2.2.2.2.2.2.2.2 X1) (fun r1 Y1 hw H locs hPy hS hO hP => ?_)
  refine lv_icmp_eq (tgt := 1701) C.1 C.2.1 dL_law_546 (by decide) (fun _ => ?_) (fun hn => absurd hw.1 hn)
  exact kk X1 Y1 _ _ _ hw.2 hP hPy hO hS hl
set_option maxRecDepth 100000 in
set_option maxHeartbeats 4000000 in
theorem lw_case_8 {p : Program} {l : Launch} {e : Env} {s : State} {m : MethodId} {below : List Frame} {meth : Method} {c : Code} {g : Geo} {b L o : Nat} {xs : Nat → Int32} (hL : L ≤ 3072) (C : CX g p s m #[Value.ref b] meth c cL_law 7 ret RL) (hX : va_X b L xs s s.heap) (hbl : b < s.heap.size) (hAd : ∀ i, i < NN → s.heap.size ≤ g.2.1 i) (hoA : ¬ AX g o) (Rel : Mem → Mem → Prop) (h8 : ∀ (X Y : Mem) (a1 a2 : Int32), Rel X Y → p_X10_worst a1 a2 X (fun r X1 => p_X11_worst a1 a2 Y (fun r1 Y1 => r = r1 ∧ Rel X1 Y1))) (X Y : Mem) (hR : Rel X Y) {x4 : Int32} {i : Nat} (ex4 : x4 = nI i) (hi6 : i + 6 ≤ L) {cells slots : Nat} (hcs : cells + 0 ≤ room_1.cells ∧ slots + 0 ≤ room_1.slots) {H : Heap} {locs : List Loc} {ls : Array Slot} (hP : va_P g.1 clz (xw g X) H) (hPy : va_P g.1 clz (yw g Y) H) (hO : OUT g o H) (hS : va_S (fun q => s.heap.size ≤ q) s.heap H locs) (hl : lv_has ls 7 [(4, .int x4), (0, .ref b), (1, .ref (g.2.1 (0 + 0))), (2, .ref (g.2.1 (138 + 0))), (3, .ref o)]) (kk : ∀ (X1 Y1 : Mem) (H : Heap) (locs : List Loc) (ls : Array Slot), Rel X1 Y1 → va_P g.1 clz (xw g X1) H → va_P g.1 clz (yw g Y1) H → OUT g o H → va_S (fun q => s.heap.size ≤ q) s.heap H locs → lv_has ls 7 [(4, .int x4), (0, .ref b), (1, .ref (g.2.1 (0 + 0))), (2, .ref (g.2.1 (138 + 0))), (3, .ref o)] → W p l e room_1 s m #[Value.ref b] below meth c H locs cells slots (lw_Z below #[Value.ref b] s) (F0 m 1701 ls [])) : W p l e room_1 s m #[Value.ref b] below meth c H locs cells slots (lw_Z below #[Value.ref b] s) (F0 m 551 ls []) := by
  have hbA : ¬ (fun q : Nat => s.heap.size ≤ q) b := Nat.not_le.mpr hbl
  refine lv_aload_n C.1 C.2.1 dL_law_551 rfl (lv_at hl 2 rfl) ?_
  refine lv_aload_n C.1 C.2.1 dL_law_552 rfl (lv_at hl 1 rfl) ?_
  refine lv_iload C.1 C.2.1 dL_law_553 (lv_at hl 0 rfl) ?_
  refine lv_iconst (v := 1) C.1 C.2.1 dL_law_555 (by decide) ?_
  refine lv_iadd C.1 C.2.1 dL_law_556 ?_
  refine va_sld C.1 C.2.1 hX hbl hbA hS (lw_ix 1 ex4 hi6 (by decide) hL) dL_law_557 ?_
  refine lv_aload_n C.1 C.2.1 dL_law_558 rfl (lv_at hl 1 rfl) ?_
  refine lv_iload C.1 C.2.1 dL_law_559 (lv_at hl 0 rfl) ?_
  refine lv_iconst (v := 2) C.1 C.2.1 dL_law_561 (by decide) ?_
  refine lv_iadd C.1 C.2.1 dL_law_562 ?_
  refine va_sld C.1 C.2.1 hX hbl hbA hS (lw_ix 2 ex4 hi6 (by decide) hL) dL_law_563 ?_
  have hw := h8 X Y (xs ((x4 + 1 : Int32)).toNatClampNeg) (xs ((x4 + 2 : Int32)).toNatClampNeg) hR
  refine goLaw (wf := xw g) (runVg (w := xw g X) (As := [.int (xs ((x4 + 1 : Int32)).toNatClampNeg), .int (xs ((x4 + 2 : Int32)).toNatClampNeg)]) (rest := []) C lkL_62 (c_X10_worst l g C.2.2.2.2.2.2.2.2.2.2 (xs ((x4 + 1 : Int32)).toNatClampNeg) (xs ((x4 + 2 : Int32)).toNatClampNeg) X _ hw) hP (SX hS hAd) rfl rfl ⟨Nat.le_of_ble_eq_true rfl, Nat.le_of_ble_eq_true rfl⟩ (xx_0 Nat.zero_lt_one) rfl rfl hl.1 rfl (Nat.le_of_ble_eq_true rfl) dL_law_564 hcs) hAd hS hO hoA hPy (yx_apart C.2.2.2.2.2.2.2.2.2.2 Y) (fun r X1 hw H locs hP hS hO hPy => ?_)
  refine lv_aload_n C.1 C.2.1 dL_law_567 rfl (lv_at hl 3 rfl) ?_
  refine lv_aload_n C.1 C.2.1 dL_law_568 rfl (lv_at hl 1 rfl) ?_
  refine lv_iload C.1 C.2.1 dL_law_569 (lv_at hl 0 rfl) ?_
  refine lv_iconst (v := 1) C.1 C.2.1 dL_law_571 (by decide) ?_
  refine lv_iadd C.1 C.2.1 dL_law_572 ?_
  refine va_sld C.1 C.2.1 hX hbl hbA hS (lw_ix 1 ex4 hi6 (by decide) hL) dL_law_573 ?_
  refine lv_aload_n C.1 C.2.1 dL_law_574 rfl (lv_at hl 1 rfl) ?_
  refine lv_iload C.1 C.2.1 dL_law_575 (lv_at hl 0 rfl) ?_
  refine lv_iconst (v := 2) C.1 C.2.1 dL_law_577 (by decide) ?_
  refine lv_iadd C.1 C.2.1 dL_law_578 ?_
  refine va_sld C.1 C.2.1 hX hbl hbA hS (lw_ix 2 ex4 hi6 (by decide) hL) dL_law_579 ?_
  refine goLaw (wf := yw g) (runVg (w := yw g Y) (As := [.int (xs ((x4 + 1 : Int32)).toNatClampNeg), .int (xs ((x4 + 2 : Int32)).toNatClampNeg)]) (rest := [.int r]) C lkL_65 (c_X11_worst l g C.2.2.2.2.2.2.2.2.2.2 (xs ((x4 + 1 : Int32)).toNatClampNeg) (xs ((x4 + 2 : Int32)).toNatClampNeg) Y _ hw) hPy (SX hS hAd) rfl rfl ⟨Nat.le_of_ble_eq_true rfl, Nat.le_of_ble_eq_true rfl⟩ (xx_40 Nat.zero_lt_one) rfl rfl hl.1 rfl (Nat.le_of_ble_eq_true rfl) dL_law_580 hcs) hAd hS hO hoA hP (xy_apart C.2.2.2.2.2.2.2.2.2.2 X1) (fun r1 Y1 hw H locs hPy hS hO hP => ?_)
  refine lv_icmp_eq (tgt := 1701) C.1 C.2.1 dL_law_583 (by decide) (fun _ => ?_) (fun hn => absurd hw.1 hn)
  exact kk X1 Y1 _ _ _ hw.2 hP hPy hO hS hl
set_option maxRecDepth 100000 in
set_option maxHeartbeats 4000000 in
theorem lw_case_9 {p : Program} {l : Launch} {e : Env} {s : State} {m : MethodId} {below : List Frame} {meth : Method} {c : Code} {g : Geo} {b L o : Nat} {xs : Nat → Int32} (hL : L ≤ 3072) (C : CX g p s m #[Value.ref b] meth c cL_law 7 ret RL) (hX : va_X b L xs s s.heap) (hbl : b < s.heap.size) (hAd : ∀ i, i < NN → s.heap.size ≤ g.2.1 i) (hoA : ¬ AX g o) (Rel : Mem → Mem → Prop) (h9 : ∀ (X Y : Mem), Rel X Y → p_X10_quiet  X (fun r X1 => p_X11_quiet  Y (fun r1 Y1 => r = r1 ∧ Rel X1 Y1))) (X Y : Mem) (hR : Rel X Y) {x4 : Int32} {i : Nat} (ex4 : x4 = nI i) (hi6 : i + 6 ≤ L) {cells slots : Nat} (hcs : cells + 0 ≤ room_1.cells ∧ slots + 0 ≤ room_1.slots) {H : Heap} {locs : List Loc} {ls : Array Slot} (hP : va_P g.1 clz (xw g X) H) (hPy : va_P g.1 clz (yw g Y) H) (hO : OUT g o H) (hS : va_S (fun q => s.heap.size ≤ q) s.heap H locs) (hl : lv_has ls 7 [(4, .int x4), (0, .ref b), (1, .ref (g.2.1 (0 + 0))), (2, .ref (g.2.1 (138 + 0))), (3, .ref o)]) (kk : ∀ (X1 Y1 : Mem) (H : Heap) (locs : List Loc) (ls : Array Slot), Rel X1 Y1 → va_P g.1 clz (xw g X1) H → va_P g.1 clz (yw g Y1) H → OUT g o H → va_S (fun q => s.heap.size ≤ q) s.heap H locs → lv_has ls 7 [(4, .int x4), (0, .ref b), (1, .ref (g.2.1 (0 + 0))), (2, .ref (g.2.1 (138 + 0))), (3, .ref o)] → W p l e room_1 s m #[Value.ref b] below meth c H locs cells slots (lw_Z below #[Value.ref b] s) (F0 m 1701 ls [])) : W p l e room_1 s m #[Value.ref b] below meth c H locs cells slots (lw_Z below #[Value.ref b] s) (F0 m 588 ls []) := by
  have hbA : ¬ (fun q : Nat => s.heap.size ≤ q) b := Nat.not_le.mpr hbl
  refine lv_aload_n C.1 C.2.1 dL_law_588 rfl (lv_at hl 2 rfl) ?_
  have hw := h9 X Y  hR
  refine goLaw (wf := xw g) (runVg (w := xw g X) (As := []) (rest := []) C lkL_66 (c_X10_quiet l g C.2.2.2.2.2.2.2.2.2.2  X _ hw) hP (SX hS hAd) rfl rfl ⟨Nat.le_of_ble_eq_true rfl, Nat.le_of_ble_eq_true rfl⟩ (xx_0 Nat.zero_lt_one) rfl rfl hl.1 rfl (Nat.le_of_ble_eq_true rfl) dL_law_589 hcs) hAd hS hO hoA hPy (yx_apart C.2.2.2.2.2.2.2.2.2.2 Y) (fun r X1 hw H locs hP hS hO hPy => ?_)
  refine lv_aload_n C.1 C.2.1 dL_law_592 rfl (lv_at hl 3 rfl) ?_
  refine goLaw (wf := yw g) (runVg (w := yw g Y) (As := []) (rest := [.int r]) C lkL_69 (c_X11_quiet l g C.2.2.2.2.2.2.2.2.2.2  Y _ hw) hPy (SX hS hAd) rfl rfl ⟨Nat.le_of_ble_eq_true rfl, Nat.le_of_ble_eq_true rfl⟩ (xx_40 Nat.zero_lt_one) rfl rfl hl.1 rfl (Nat.le_of_ble_eq_true rfl) dL_law_593 hcs) hAd hS hO hoA hP (xy_apart C.2.2.2.2.2.2.2.2.2.2 X1) (fun r1 Y1 hw H locs hPy hS hO hP => ?_)
  refine lv_icmp_eq (tgt := 1701) C.1 C.2.1 dL_law_596 (by decide) (fun _ => ?_) (fun hn => absurd hw.1 hn)
  exact kk X1 Y1 _ _ _ hw.2 hP hPy hO hS hl
set_option maxRecDepth 100000 in
set_option maxHeartbeats 4000000 in
theorem lw_case_10 {p : Program} {l : Launch} {e : Env} {s : State} {m : MethodId} {below : List Frame} {meth : Method} {c : Code} {g : Geo} {b L o : Nat} {xs : Nat → Int32} (hL : L ≤ 3072) (C : CX g p s m #[Value.ref b] meth c cL_law 7 ret RL) (hX : va_X b L xs s s.heap) (hbl : b < s.heap.size) (hAd : ∀ i, i < NN → s.heap.size ≤ g.2.1 i) (hoA : ¬ AX g o) (Rel : Mem → Mem → Prop) (h10 : ∀ (X Y : Mem) (a1 a2 : Int32), Rel X Y → p_X10_sample a1 a2 X (fun r X1 => p_X11_sample a1 a2 Y (fun r1 Y1 => r = r1 ∧ Rel X1 Y1))) (X Y : Mem) (hR : Rel X Y) {x4 : Int32} {i : Nat} (ex4 : x4 = nI i) (hi6 : i + 6 ≤ L) {cells slots : Nat} (hcs : cells + 0 ≤ room_1.cells ∧ slots + 0 ≤ room_1.slots) {H : Heap} {locs : List Loc} {ls : Array Slot} (hP : va_P g.1 clz (xw g X) H) (hPy : va_P g.1 clz (yw g Y) H) (hO : OUT g o H) (hS : va_S (fun q => s.heap.size ≤ q) s.heap H locs) (hl : lv_has ls 7 [(4, .int x4), (0, .ref b), (1, .ref (g.2.1 (0 + 0))), (2, .ref (g.2.1 (138 + 0))), (3, .ref o)]) (kk : ∀ (X1 Y1 : Mem) (H : Heap) (locs : List Loc) (ls : Array Slot), Rel X1 Y1 → va_P g.1 clz (xw g X1) H → va_P g.1 clz (yw g Y1) H → OUT g o H → va_S (fun q => s.heap.size ≤ q) s.heap H locs → lv_has ls 7 [(4, .int x4), (0, .ref b), (1, .ref (g.2.1 (0 + 0))), (2, .ref (g.2.1 (138 + 0))), (3, .ref o)] → W p l e room_1 s m #[Value.ref b] below meth c H locs cells slots (lw_Z below #[Value.ref b] s) (F0 m 1701 ls [])) : W p l e room_1 s m #[Value.ref b] below meth c H locs cells slots (lw_Z below #[Value.ref b] s) (F0 m 601 ls []) := by
  have hbA : ¬ (fun q : Nat => s.heap.size ≤ q) b := Nat.not_le.mpr hbl
  refine lv_aload_n C.1 C.2.1 dL_law_601 rfl (lv_at hl 2 rfl) ?_
  refine lv_aload_n C.1 C.2.1 dL_law_602 rfl (lv_at hl 1 rfl) ?_
  refine lv_iload C.1 C.2.1 dL_law_603 (lv_at hl 0 rfl) ?_
  refine lv_iconst (v := 1) C.1 C.2.1 dL_law_605 (by decide) ?_
  refine lv_iadd C.1 C.2.1 dL_law_606 ?_
  refine va_sld C.1 C.2.1 hX hbl hbA hS (lw_ix 1 ex4 hi6 (by decide) hL) dL_law_607 ?_
  refine lv_aload_n C.1 C.2.1 dL_law_608 rfl (lv_at hl 1 rfl) ?_
  refine lv_iload C.1 C.2.1 dL_law_609 (lv_at hl 0 rfl) ?_
  refine lv_iconst (v := 2) C.1 C.2.1 dL_law_611 (by decide) ?_
  refine lv_iadd C.1 C.2.1 dL_law_612 ?_
  refine va_sld C.1 C.2.1 hX hbl hbA hS (lw_ix 2 ex4 hi6 (by decide) hL) dL_law_613 ?_
  have hw := h10 X Y (xs ((x4 + 1 : Int32)).toNatClampNeg) (xs ((x4 + 2 : Int32)).toNatClampNeg) hR
  refine goLaw (wf := xw g) (runVg (w := xw g X) (As := [.int (xs ((x4 + 1 : Int32)).toNatClampNeg), .int (xs ((x4 + 2 : Int32)).toNatClampNeg)]) (rest := []) C lkL_70 (c_X10_sample l g C.2.2.2.2.2.2.2.2.2.2 (xs ((x4 + 1 : Int32)).toNatClampNeg) (xs ((x4 + 2 : Int32)).toNatClampNeg) X _ hw) hP (SX hS hAd) rfl rfl ⟨Nat.le_of_ble_eq_true rfl, Nat.le_of_ble_eq_true rfl⟩ (xx_0 Nat.zero_lt_one) rfl rfl hl.1 rfl (Nat.le_of_ble_eq_true rfl) dL_law_614 hcs) hAd hS hO hoA hPy (yx_apart C.2.2.2.2.2.2.2.2.2.2 Y) (fun r X1 hw H locs hP hS hO hPy => ?_)
  refine lv_aload_n C.1 C.2.1 dL_law_617 rfl (lv_at hl 3 rfl) ?_
  refine lv_aload_n C.1 C.2.1 dL_law_618 rfl (lv_at hl 1 rfl) ?_
  refine lv_iload C.1 C.2.1 dL_law_619 (lv_at hl 0 rfl) ?_
  refine lv_iconst (v := 1) C.1 C.2.1 dL_law_621 (by decide) ?_
  refine lv_iadd C.1 C.2.1 dL_law_622 ?_
  refine va_sld C.1 C.2.1 hX hbl hbA hS (lw_ix 1 ex4 hi6 (by decide) hL) dL_law_623 ?_
  refine lv_aload_n C.1 C.2.1 dL_law_624 rfl (lv_at hl 1 rfl) ?_
  refine lv_iload C.1 C.2.1 dL_law_625 (lv_at hl 0 rfl) ?_
  refine lv_iconst (v := 2) C.1 C.2.1 dL_law_627 (by decide) ?_
  refine lv_iadd C.1 C.2.1 dL_law_628 ?_
  refine va_sld C.1 C.2.1 hX hbl hbA hS (lw_ix 2 ex4 hi6 (by decide) hL) dL_law_629 ?_
  refine goLaw (wf := yw g) (runVg (w := yw g Y) (As := [.int (xs ((x4 + 1 : Int32)).toNatClampNeg), .int (xs ((x4 + 2 : Int32)).toNatClampNeg)]) (rest := [.int r]) C lkL_73 (c_X11_sample l g C.2.2.2.2.2.2.2.2.2.2 (xs ((x4 + 1 : Int32)).toNatClampNeg) (xs ((x4 + 2 : Int32)).toNatClampNeg) Y _ hw) hPy (SX hS hAd) rfl rfl ⟨Nat.le_of_ble_eq_true rfl, Nat.le_of_ble_eq_true rfl⟩ (xx_40 Nat.zero_lt_one) rfl rfl hl.1 rfl (Nat.le_of_ble_eq_true rfl) dL_law_630 hcs) hAd hS hO hoA hP (xy_apart C.2.2.2.2.2.2.2.2.2.2 X1) (fun r1 Y1 hw H locs hPy hS hO hP => ?_)
  refine lv_icmp_eq (tgt := 1701) C.1 C.2.1 dL_law_633 (by decide) (fun _ => ?_) (fun hn => absurd hw.1 hn)
  exact kk X1 Y1 _ _ _ hw.2 hP hPy hO hS hl
set_option maxRecDepth 100000 in
set_option maxHeartbeats 4000000 in
theorem lw_case_11 {p : Program} {l : Launch} {e : Env} {s : State} {m : MethodId} {below : List Frame} {meth : Method} {c : Code} {g : Geo} {b L o : Nat} {xs : Nat → Int32} (hL : L ≤ 3072) (C : CX g p s m #[Value.ref b] meth c cL_law 7 ret RL) (hX : va_X b L xs s s.heap) (hbl : b < s.heap.size) (hAd : ∀ i, i < NN → s.heap.size ≤ g.2.1 i) (hoA : ¬ AX g o) (Rel : Mem → Mem → Prop) (h11 : ∀ (X Y : Mem) (a1 a2 : Int32), Rel X Y → p_X10_bit a1 a2 X (fun r X1 => p_X11_bit a1 a2 Y (fun r1 Y1 => r = r1 ∧ Rel X1 Y1))) (X Y : Mem) (hR : Rel X Y) {x4 : Int32} {i : Nat} (ex4 : x4 = nI i) (hi6 : i + 6 ≤ L) {cells slots : Nat} (hcs : cells + 0 ≤ room_1.cells ∧ slots + 0 ≤ room_1.slots) {H : Heap} {locs : List Loc} {ls : Array Slot} (hP : va_P g.1 clz (xw g X) H) (hPy : va_P g.1 clz (yw g Y) H) (hO : OUT g o H) (hS : va_S (fun q => s.heap.size ≤ q) s.heap H locs) (hl : lv_has ls 7 [(4, .int x4), (0, .ref b), (1, .ref (g.2.1 (0 + 0))), (2, .ref (g.2.1 (138 + 0))), (3, .ref o)]) (kk : ∀ (X1 Y1 : Mem) (H : Heap) (locs : List Loc) (ls : Array Slot), Rel X1 Y1 → va_P g.1 clz (xw g X1) H → va_P g.1 clz (yw g Y1) H → OUT g o H → va_S (fun q => s.heap.size ≤ q) s.heap H locs → lv_has ls 7 [(4, .int x4), (0, .ref b), (1, .ref (g.2.1 (0 + 0))), (2, .ref (g.2.1 (138 + 0))), (3, .ref o)] → W p l e room_1 s m #[Value.ref b] below meth c H locs cells slots (lw_Z below #[Value.ref b] s) (F0 m 1701 ls [])) : W p l e room_1 s m #[Value.ref b] below meth c H locs cells slots (lw_Z below #[Value.ref b] s) (F0 m 638 ls []) := by
  have hbA : ¬ (fun q : Nat => s.heap.size ≤ q) b := Nat.not_le.mpr hbl
  refine lv_aload_n C.1 C.2.1 dL_law_638 rfl (lv_at hl 2 rfl) ?_
  refine lv_aload_n C.1 C.2.1 dL_law_639 rfl (lv_at hl 1 rfl) ?_
  refine lv_iload C.1 C.2.1 dL_law_640 (lv_at hl 0 rfl) ?_
  refine lv_iconst (v := 1) C.1 C.2.1 dL_law_642 (by decide) ?_
  refine lv_iadd C.1 C.2.1 dL_law_643 ?_
  refine va_sld C.1 C.2.1 hX hbl hbA hS (lw_ix 1 ex4 hi6 (by decide) hL) dL_law_644 ?_
  refine lv_aload_n C.1 C.2.1 dL_law_645 rfl (lv_at hl 1 rfl) ?_
  refine lv_iload C.1 C.2.1 dL_law_646 (lv_at hl 0 rfl) ?_
  refine lv_iconst (v := 2) C.1 C.2.1 dL_law_648 (by decide) ?_
  refine lv_iadd C.1 C.2.1 dL_law_649 ?_
  refine va_sld C.1 C.2.1 hX hbl hbA hS (lw_ix 2 ex4 hi6 (by decide) hL) dL_law_650 ?_
  have hw := h11 X Y (xs ((x4 + 1 : Int32)).toNatClampNeg) (xs ((x4 + 2 : Int32)).toNatClampNeg) hR
  refine goLaw (wf := xw g) (runVg (w := xw g X) (As := [.int (xs ((x4 + 1 : Int32)).toNatClampNeg), .int (xs ((x4 + 2 : Int32)).toNatClampNeg)]) (rest := []) C lkL_74 (c_X10_bit l g C.2.2.2.2.2.2.2.2.2.2 (xs ((x4 + 1 : Int32)).toNatClampNeg) (xs ((x4 + 2 : Int32)).toNatClampNeg) X _ hw) hP (SX hS hAd) rfl rfl ⟨Nat.le_of_ble_eq_true rfl, Nat.le_of_ble_eq_true rfl⟩ (xx_0 Nat.zero_lt_one) rfl rfl hl.1 rfl (Nat.le_of_ble_eq_true rfl) dL_law_651 hcs) hAd hS hO hoA hPy (yx_apart C.2.2.2.2.2.2.2.2.2.2 Y) (fun r X1 hw H locs hP hS hO hPy => ?_)
  refine lv_aload_n C.1 C.2.1 dL_law_654 rfl (lv_at hl 3 rfl) ?_
  refine lv_aload_n C.1 C.2.1 dL_law_655 rfl (lv_at hl 1 rfl) ?_
  refine lv_iload C.1 C.2.1 dL_law_656 (lv_at hl 0 rfl) ?_
  refine lv_iconst (v := 1) C.1 C.2.1 dL_law_658 (by decide) ?_
  refine lv_iadd C.1 C.2.1 dL_law_659 ?_
  refine va_sld C.1 C.2.1 hX hbl hbA hS (lw_ix 1 ex4 hi6 (by decide) hL) dL_law_660 ?_
  refine lv_aload_n C.1 C.2.1 dL_law_661 rfl (lv_at hl 1 rfl) ?_
  refine lv_iload C.1 C.2.1 dL_law_662 (lv_at hl 0 rfl) ?_
  refine lv_iconst (v := 2) C.1 C.2.1 dL_law_664 (by decide) ?_
  refine lv_iadd C.1 C.2.1 dL_law_665 ?_
  refine va_sld C.1 C.2.1 hX hbl hbA hS (lw_ix 2 ex4 hi6 (by decide) hL) dL_law_666 ?_
  refine goLaw (wf := yw g) (runVg (w := yw g Y) (As := [.int (xs ((x4 + 1 : Int32)).toNatClampNeg), .int (xs ((x4 + 2 : Int32)).toNatClampNeg)]) (rest := [.int r]) C lkL_77 (c_X11_bit l g C.2.2.2.2.2.2.2.2.2.2 (xs ((x4 + 1 : Int32)).toNatClampNeg) (xs ((x4 + 2 : Int32)).toNatClampNeg) Y _ hw) hPy (SX hS hAd) rfl rfl ⟨Nat.le_of_ble_eq_true rfl, Nat.le_of_ble_eq_true rfl⟩ (xx_40 Nat.zero_lt_one) rfl rfl hl.1 rfl (Nat.le_of_ble_eq_true rfl) dL_law_667 hcs) hAd hS hO hoA hP (xy_apart C.2.2.2.2.2.2.2.2.2.2 X1) (fun r1 Y1 hw H locs hPy hS hO hP => ?_)
  refine lv_icmp_eq (tgt := 1701) C.1 C.2.1 dL_law_670 (by decide) (fun _ => ?_) (fun hn => absurd hw.1 hn)
  exact kk X1 Y1 _ _ _ hw.2 hP hPy hO hS hl
set_option maxRecDepth 100000 in
set_option maxHeartbeats 4000000 in
theorem lw_case_12 {p : Program} {l : Launch} {e : Env} {s : State} {m : MethodId} {below : List Frame} {meth : Method} {c : Code} {g : Geo} {b L o : Nat} {xs : Nat → Int32} (hL : L ≤ 3072) (C : CX g p s m #[Value.ref b] meth c cL_law 7 ret RL) (hX : va_X b L xs s s.heap) (hbl : b < s.heap.size) (hAd : ∀ i, i < NN → s.heap.size ≤ g.2.1 i) (hoA : ¬ AX g o) (Rel : Mem → Mem → Prop) (h12 : ∀ (X Y : Mem) (a1 a2 a3 a4 a5 : Int32), Rel X Y → p_X10_sum a1 a2 a3 a4 a5 X (fun r X1 => p_X11_sum a1 a2 a3 a4 a5 Y (fun r1 Y1 => r = r1 ∧ Rel X1 Y1))) (X Y : Mem) (hR : Rel X Y) {x4 : Int32} {i : Nat} (ex4 : x4 = nI i) (hi6 : i + 6 ≤ L) {cells slots : Nat} (hcs : cells + 0 ≤ room_1.cells ∧ slots + 0 ≤ room_1.slots) {H : Heap} {locs : List Loc} {ls : Array Slot} (hP : va_P g.1 clz (xw g X) H) (hPy : va_P g.1 clz (yw g Y) H) (hO : OUT g o H) (hS : va_S (fun q => s.heap.size ≤ q) s.heap H locs) (hl : lv_has ls 7 [(4, .int x4), (0, .ref b), (1, .ref (g.2.1 (0 + 0))), (2, .ref (g.2.1 (138 + 0))), (3, .ref o)]) (kk : ∀ (X1 Y1 : Mem) (H : Heap) (locs : List Loc) (ls : Array Slot), Rel X1 Y1 → va_P g.1 clz (xw g X1) H → va_P g.1 clz (yw g Y1) H → OUT g o H → va_S (fun q => s.heap.size ≤ q) s.heap H locs → lv_has ls 7 [(4, .int x4), (0, .ref b), (1, .ref (g.2.1 (0 + 0))), (2, .ref (g.2.1 (138 + 0))), (3, .ref o)] → W p l e room_1 s m #[Value.ref b] below meth c H locs cells slots (lw_Z below #[Value.ref b] s) (F0 m 1701 ls [])) : W p l e room_1 s m #[Value.ref b] below meth c H locs cells slots (lw_Z below #[Value.ref b] s) (F0 m 675 ls []) := by
  have hbA : ¬ (fun q : Nat => s.heap.size ≤ q) b := Nat.not_le.mpr hbl
  refine lv_aload_n C.1 C.2.1 dL_law_675 rfl (lv_at hl 2 rfl) ?_
  refine lv_aload_n C.1 C.2.1 dL_law_676 rfl (lv_at hl 1 rfl) ?_
  refine lv_iload C.1 C.2.1 dL_law_677 (lv_at hl 0 rfl) ?_
  refine lv_iconst (v := 1) C.1 C.2.1 dL_law_679 (by decide) ?_
  refine lv_iadd C.1 C.2.1 dL_law_680 ?_
  refine va_sld C.1 C.2.1 hX hbl hbA hS (lw_ix 1 ex4 hi6 (by decide) hL) dL_law_681 ?_
  refine lv_aload_n C.1 C.2.1 dL_law_682 rfl (lv_at hl 1 rfl) ?_
  refine lv_iload C.1 C.2.1 dL_law_683 (lv_at hl 0 rfl) ?_
  refine lv_iconst (v := 2) C.1 C.2.1 dL_law_685 (by decide) ?_
  refine lv_iadd C.1 C.2.1 dL_law_686 ?_
  refine va_sld C.1 C.2.1 hX hbl hbA hS (lw_ix 2 ex4 hi6 (by decide) hL) dL_law_687 ?_
  refine lv_aload_n C.1 C.2.1 dL_law_688 rfl (lv_at hl 1 rfl) ?_
  refine lv_iload C.1 C.2.1 dL_law_689 (lv_at hl 0 rfl) ?_
  refine lv_iconst (v := 3) C.1 C.2.1 dL_law_691 (by decide) ?_
  refine lv_iadd C.1 C.2.1 dL_law_692 ?_
  refine va_sld C.1 C.2.1 hX hbl hbA hS (lw_ix 3 ex4 hi6 (by decide) hL) dL_law_693 ?_
  refine lv_aload_n C.1 C.2.1 dL_law_694 rfl (lv_at hl 1 rfl) ?_
  refine lv_iload C.1 C.2.1 dL_law_695 (lv_at hl 0 rfl) ?_
  refine lv_iconst (v := 4) C.1 C.2.1 dL_law_697 (by decide) ?_
  refine lv_iadd C.1 C.2.1 dL_law_698 ?_
  refine va_sld C.1 C.2.1 hX hbl hbA hS (lw_ix 4 ex4 hi6 (by decide) hL) dL_law_699 ?_
  refine lv_aload_n C.1 C.2.1 dL_law_700 rfl (lv_at hl 1 rfl) ?_
  refine lv_iload C.1 C.2.1 dL_law_701 (lv_at hl 0 rfl) ?_
  refine lv_iconst (v := 5) C.1 C.2.1 dL_law_703 (by decide) ?_
  refine lv_iadd C.1 C.2.1 dL_law_704 ?_
  refine va_sld C.1 C.2.1 hX hbl hbA hS (lw_ix 5 ex4 hi6 (by decide) hL) dL_law_705 ?_
  have hw := h12 X Y (xs ((x4 + 1 : Int32)).toNatClampNeg) (xs ((x4 + 2 : Int32)).toNatClampNeg) (xs ((x4 + 3 : Int32)).toNatClampNeg) (xs ((x4 + 4 : Int32)).toNatClampNeg) (xs ((x4 + 5 : Int32)).toNatClampNeg) hR
  refine goLaw (wf := xw g) (runVg (w := xw g X) (As := [.int (xs ((x4 + 1 : Int32)).toNatClampNeg), .int (xs ((x4 + 2 : Int32)).toNatClampNeg), .int (xs ((x4 + 3 : Int32)).toNatClampNeg), .int (xs ((x4 + 4 : Int32)).toNatClampNeg), .int (xs ((x4 + 5 : Int32)).toNatClampNeg)]) (rest := []) C lkL_78 (c_X10_sum l g C.2.2.2.2.2.2.2.2.2.2 (xs ((x4 + 1 : Int32)).toNatClampNeg) (xs ((x4 + 2 : Int32)).toNatClampNeg) (xs ((x4 + 3 : Int32)).toNatClampNeg) (xs ((x4 + 4 : Int32)).toNatClampNeg) (xs ((x4 + 5 : Int32)).toNatClampNeg) X _ hw) hP (SX hS hAd) rfl rfl ⟨Nat.le_of_ble_eq_true rfl, Nat.le_of_ble_eq_true rfl⟩ (xx_0 Nat.zero_lt_one) rfl rfl hl.1 rfl (Nat.le_of_ble_eq_true rfl) dL_law_706 hcs) hAd hS hO hoA hPy (yx_apart C.2.2.2.2.2.2.2.2.2.2 Y) (fun r X1 hw H locs hP hS hO hPy => ?_)
  refine lv_aload_n C.1 C.2.1 dL_law_709 rfl (lv_at hl 3 rfl) ?_
  refine lv_aload_n C.1 C.2.1 dL_law_710 rfl (lv_at hl 1 rfl) ?_
  refine lv_iload C.1 C.2.1 dL_law_711 (lv_at hl 0 rfl) ?_
  refine lv_iconst (v := 1) C.1 C.2.1 dL_law_713 (by decide) ?_
  refine lv_iadd C.1 C.2.1 dL_law_714 ?_
  refine va_sld C.1 C.2.1 hX hbl hbA hS (lw_ix 1 ex4 hi6 (by decide) hL) dL_law_715 ?_
  refine lv_aload_n C.1 C.2.1 dL_law_716 rfl (lv_at hl 1 rfl) ?_
  refine lv_iload C.1 C.2.1 dL_law_717 (lv_at hl 0 rfl) ?_
  refine lv_iconst (v := 2) C.1 C.2.1 dL_law_719 (by decide) ?_
  refine lv_iadd C.1 C.2.1 dL_law_720 ?_
  refine va_sld C.1 C.2.1 hX hbl hbA hS (lw_ix 2 ex4 hi6 (by decide) hL) dL_law_721 ?_
  refine lv_aload_n C.1 C.2.1 dL_law_722 rfl (lv_at hl 1 rfl) ?_
  refine lv_iload C.1 C.2.1 dL_law_723 (lv_at hl 0 rfl) ?_
  refine lv_iconst (v := 3) C.1 C.2.1 dL_law_725 (by decide) ?_
  refine lv_iadd C.1 C.2.1 dL_law_726 ?_
  refine va_sld C.1 C.2.1 hX hbl hbA hS (lw_ix 3 ex4 hi6 (by decide) hL) dL_law_727 ?_
  refine lv_aload_n C.1 C.2.1 dL_law_728 rfl (lv_at hl 1 rfl) ?_
  refine lv_iload C.1 C.2.1 dL_law_729 (lv_at hl 0 rfl) ?_
  refine lv_iconst (v := 4) C.1 C.2.1 dL_law_731 (by decide) ?_
  refine lv_iadd C.1 C.2.1 dL_law_732 ?_
  refine va_sld C.1 C.2.1 hX hbl hbA hS (lw_ix 4 ex4 hi6 (by decide) hL) dL_law_733 ?_
  refine lv_aload_n C.1 C.2.1 dL_law_734 rfl (lv_at hl 1 rfl) ?_
  refine lv_iload C.1 C.2.1 dL_law_735 (lv_at hl 0 rfl) ?_
  refine lv_iconst (v := 5) C.1 C.2.1 dL_law_737 (by decide) ?_
  refine lv_iadd C.1 C.2.1 dL_law_738 ?_
  refine va_sld C.1 C.2.1 hX hbl hbA hS (lw_ix 5 ex4 hi6 (by decide) hL) dL_law_739 ?_
  refine goLaw (wf := yw g) (runVg (w := yw g Y) (As := [.int (xs ((x4 + 1 : Int32)).toNatClampNeg), .int (xs ((x4 + 2 : Int32)).toNatClampNeg), .int (xs ((x4 + 3 : Int32)).toNatClampNeg), .int (xs ((x4 + 4 : Int32)).toNatClampNeg), .int (xs ((x4 + 5 : Int32)).toNatClampNeg)]) (rest := [.int r]) C lkL_81 (c_X11_sum l g C.2.2.2.2.2.2.2.2.2.2 (xs ((x4 + 1 : Int32)).toNatClampNeg) (xs ((x4 + 2 : Int32)).toNatClampNeg) (xs ((x4 + 3 : Int32)).toNatClampNeg) (xs ((x4 + 4 : Int32)).toNatClampNeg) (xs ((x4 + 5 : Int32)).toNatClampNeg) Y _ hw) hPy (SX hS hAd) rfl rfl ⟨Nat.le_of_ble_eq_true rfl, Nat.le_of_ble_eq_true rfl⟩ (xx_40 Nat.zero_lt_one) rfl rfl hl.1 rfl (Nat.le_of_ble_eq_true rfl) dL_law_740 hcs) hAd hS hO hoA hP (xy_apart C.2.2.2.2.2.2.2.2.2.2 X1) (fun r1 Y1 hw H locs hPy hS hO hP => ?_)
  refine lv_icmp_eq (tgt := 1701) C.1 C.2.1 dL_law_743 (by decide) (fun _ => ?_) (fun hn => absurd hw.1 hn)
  exact kk X1 Y1 _ _ _ hw.2 hP hPy hO hS hl
set_option maxRecDepth 100000 in
set_option maxHeartbeats 4000000 in
theorem lw_case_13 {p : Program} {l : Launch} {e : Env} {s : State} {m : MethodId} {below : List Frame} {meth : Method} {c : Code} {g : Geo} {b L o : Nat} {xs : Nat → Int32} (hL : L ≤ 3072) (C : CX g p s m #[Value.ref b] meth c cL_law 7 ret RL) (hX : va_X b L xs s s.heap) (hbl : b < s.heap.size) (hAd : ∀ i, i < NN → s.heap.size ≤ g.2.1 i) (hoA : ¬ AX g o) (Rel : Mem → Mem → Prop) (h13 : ∀ (X Y : Mem) (a1 a2 a3 a4 : Int32), Rel X Y → p_X10_hunt a1 a2 a3 a4 X (fun r X1 => p_X11_hunt a1 a2 a3 a4 Y (fun r1 Y1 => r = r1 ∧ Rel X1 Y1))) (X Y : Mem) (hR : Rel X Y) {x4 : Int32} {i : Nat} (ex4 : x4 = nI i) (hi6 : i + 6 ≤ L) {cells slots : Nat} (hcs : cells + 0 ≤ room_1.cells ∧ slots + 0 ≤ room_1.slots) {H : Heap} {locs : List Loc} {ls : Array Slot} (hP : va_P g.1 clz (xw g X) H) (hPy : va_P g.1 clz (yw g Y) H) (hO : OUT g o H) (hS : va_S (fun q => s.heap.size ≤ q) s.heap H locs) (hl : lv_has ls 7 [(4, .int x4), (0, .ref b), (1, .ref (g.2.1 (0 + 0))), (2, .ref (g.2.1 (138 + 0))), (3, .ref o)]) (kk : ∀ (X1 Y1 : Mem) (H : Heap) (locs : List Loc) (ls : Array Slot), Rel X1 Y1 → va_P g.1 clz (xw g X1) H → va_P g.1 clz (yw g Y1) H → OUT g o H → va_S (fun q => s.heap.size ≤ q) s.heap H locs → lv_has ls 7 [(4, .int x4), (0, .ref b), (1, .ref (g.2.1 (0 + 0))), (2, .ref (g.2.1 (138 + 0))), (3, .ref o)] → W p l e room_1 s m #[Value.ref b] below meth c H locs cells slots (lw_Z below #[Value.ref b] s) (F0 m 1701 ls [])) : W p l e room_1 s m #[Value.ref b] below meth c H locs cells slots (lw_Z below #[Value.ref b] s) (F0 m 748 ls []) := by
  have hbA : ¬ (fun q : Nat => s.heap.size ≤ q) b := Nat.not_le.mpr hbl
  refine lv_aload_n C.1 C.2.1 dL_law_748 rfl (lv_at hl 2 rfl) ?_
  refine lv_aload_n C.1 C.2.1 dL_law_749 rfl (lv_at hl 1 rfl) ?_
  refine lv_iload C.1 C.2.1 dL_law_750 (lv_at hl 0 rfl) ?_
  refine lv_iconst (v := 1) C.1 C.2.1 dL_law_752 (by decide) ?_
  refine lv_iadd C.1 C.2.1 dL_law_753 ?_
  refine va_sld C.1 C.2.1 hX hbl hbA hS (lw_ix 1 ex4 hi6 (by decide) hL) dL_law_754 ?_
  refine lv_aload_n C.1 C.2.1 dL_law_755 rfl (lv_at hl 1 rfl) ?_
  refine lv_iload C.1 C.2.1 dL_law_756 (lv_at hl 0 rfl) ?_
  refine lv_iconst (v := 2) C.1 C.2.1 dL_law_758 (by decide) ?_
  refine lv_iadd C.1 C.2.1 dL_law_759 ?_
  refine va_sld C.1 C.2.1 hX hbl hbA hS (lw_ix 2 ex4 hi6 (by decide) hL) dL_law_760 ?_
  refine lv_aload_n C.1 C.2.1 dL_law_761 rfl (lv_at hl 1 rfl) ?_
  refine lv_iload C.1 C.2.1 dL_law_762 (lv_at hl 0 rfl) ?_
  refine lv_iconst (v := 3) C.1 C.2.1 dL_law_764 (by decide) ?_
  refine lv_iadd C.1 C.2.1 dL_law_765 ?_
  refine va_sld C.1 C.2.1 hX hbl hbA hS (lw_ix 3 ex4 hi6 (by decide) hL) dL_law_766 ?_
  refine lv_aload_n C.1 C.2.1 dL_law_767 rfl (lv_at hl 1 rfl) ?_
  refine lv_iload C.1 C.2.1 dL_law_768 (lv_at hl 0 rfl) ?_
  refine lv_iconst (v := 4) C.1 C.2.1 dL_law_770 (by decide) ?_
  refine lv_iadd C.1 C.2.1 dL_law_771 ?_
  refine va_sld C.1 C.2.1 hX hbl hbA hS (lw_ix 4 ex4 hi6 (by decide) hL) dL_law_772 ?_
  have hw := h13 X Y (xs ((x4 + 1 : Int32)).toNatClampNeg) (xs ((x4 + 2 : Int32)).toNatClampNeg) (xs ((x4 + 3 : Int32)).toNatClampNeg) (xs ((x4 + 4 : Int32)).toNatClampNeg) hR
  refine goLaw (wf := xw g) (runVg (w := xw g X) (As := [.int (xs ((x4 + 1 : Int32)).toNatClampNeg), .int (xs ((x4 + 2 : Int32)).toNatClampNeg), .int (xs ((x4 + 3 : Int32)).toNatClampNeg), .int (xs ((x4 + 4 : Int32)).toNatClampNeg)]) (rest := []) C lkL_82 (c_X10_hunt l g C.2.2.2.2.2.2.2.2.2.2 (xs ((x4 + 1 : Int32)).toNatClampNeg) (xs ((x4 + 2 : Int32)).toNatClampNeg) (xs ((x4 + 3 : Int32)).toNatClampNeg) (xs ((x4 + 4 : Int32)).toNatClampNeg) X _ hw) hP (SX hS hAd) rfl rfl ⟨Nat.le_of_ble_eq_true rfl, Nat.le_of_ble_eq_true rfl⟩ (xx_0 Nat.zero_lt_one) rfl rfl hl.1 rfl (Nat.le_of_ble_eq_true rfl) dL_law_773 hcs) hAd hS hO hoA hPy (yx_apart C.2.2.2.2.2.2.2.2.2.2 Y) (fun r X1 hw H locs hP hS hO hPy => ?_)
  refine lv_aload_n C.1 C.2.1 dL_law_776 rfl (lv_at hl 3 rfl) ?_
  refine lv_aload_n C.1 C.2.1 dL_law_777 rfl (lv_at hl 1 rfl) ?_
  refine lv_iload C.1 C.2.1 dL_law_778 (lv_at hl 0 rfl) ?_
  refine lv_iconst (v := 1) C.1 C.2.1 dL_law_780 (by decide) ?_
  refine lv_iadd C.1 C.2.1 dL_law_781 ?_
  refine va_sld C.1 C.2.1 hX hbl hbA hS (lw_ix 1 ex4 hi6 (by decide) hL) dL_law_782 ?_
  refine lv_aload_n C.1 C.2.1 dL_law_783 rfl (lv_at hl 1 rfl) ?_
  refine lv_iload C.1 C.2.1 dL_law_784 (lv_at hl 0 rfl) ?_
  refine lv_iconst (v := 2) C.1 C.2.1 dL_law_786 (by decide) ?_
  refine lv_iadd C.1 C.2.1 dL_law_787 ?_
  refine va_sld C.1 C.2.1 hX hbl hbA hS (lw_ix 2 ex4 hi6 (by decide) hL) dL_law_788 ?_
  refine lv_aload_n C.1 C.2.1 dL_law_789 rfl (lv_at hl 1 rfl) ?_
  refine lv_iload C.1 C.2.1 dL_law_790 (lv_at hl 0 rfl) ?_
  refine lv_iconst (v := 3) C.1 C.2.1 dL_law_792 (by decide) ?_
  refine lv_iadd C.1 C.2.1 dL_law_793 ?_
  refine va_sld C.1 C.2.1 hX hbl hbA hS (lw_ix 3 ex4 hi6 (by decide) hL) dL_law_794 ?_
  refine lv_aload_n C.1 C.2.1 dL_law_795 rfl (lv_at hl 1 rfl) ?_
  refine lv_iload C.1 C.2.1 dL_law_796 (lv_at hl 0 rfl) ?_
  refine lv_iconst (v := 4) C.1 C.2.1 dL_law_798 (by decide) ?_
  refine lv_iadd C.1 C.2.1 dL_law_799 ?_
  refine va_sld C.1 C.2.1 hX hbl hbA hS (lw_ix 4 ex4 hi6 (by decide) hL) dL_law_800 ?_
  refine goLaw (wf := yw g) (runVg (w := yw g Y) (As := [.int (xs ((x4 + 1 : Int32)).toNatClampNeg), .int (xs ((x4 + 2 : Int32)).toNatClampNeg), .int (xs ((x4 + 3 : Int32)).toNatClampNeg), .int (xs ((x4 + 4 : Int32)).toNatClampNeg)]) (rest := [.int r]) C lkL_86 (c_X11_hunt l g C.2.2.2.2.2.2.2.2.2.2 (xs ((x4 + 1 : Int32)).toNatClampNeg) (xs ((x4 + 2 : Int32)).toNatClampNeg) (xs ((x4 + 3 : Int32)).toNatClampNeg) (xs ((x4 + 4 : Int32)).toNatClampNeg) Y _ hw) hPy (SX hS hAd) rfl rfl ⟨Nat.le_of_ble_eq_true rfl, Nat.le_of_ble_eq_true rfl⟩ (xx_40 Nat.zero_lt_one) rfl rfl hl.1 rfl (Nat.le_of_ble_eq_true rfl) dL_law_801 hcs) hAd hS hO hoA hP (xy_apart C.2.2.2.2.2.2.2.2.2.2 X1) (fun r1 Y1 hw H locs hPy hS hO hP => ?_)
  refine lv_icmp_eq (tgt := 1701) C.1 C.2.1 dL_law_804 (by decide) (fun _ => ?_) (fun hn => absurd hw.1 hn)
  exact kk X1 Y1 _ _ _ hw.2 hP hPy hO hS hl
set_option maxRecDepth 100000 in
set_option maxHeartbeats 4000000 in
theorem lw_case_14 {p : Program} {l : Launch} {e : Env} {s : State} {m : MethodId} {below : List Frame} {meth : Method} {c : Code} {g : Geo} {b L o : Nat} {xs : Nat → Int32} (hL : L ≤ 3072) (C : CX g p s m #[Value.ref b] meth c cL_law 7 ret RL) (hX : va_X b L xs s s.heap) (hbl : b < s.heap.size) (hAd : ∀ i, i < NN → s.heap.size ≤ g.2.1 i) (hoA : ¬ AX g o) (Rel : Mem → Mem → Prop) (h14 : ∀ (X Y : Mem) (a1 a2 : Int32), Rel X Y → p_X10_listen a1 a2 X (fun r X1 => p_X11_listen a1 a2 Y (fun r1 Y1 => r = r1 ∧ Rel X1 Y1))) (X Y : Mem) (hR : Rel X Y) {x4 : Int32} {i : Nat} (ex4 : x4 = nI i) (hi6 : i + 6 ≤ L) {cells slots : Nat} (hcs : cells + 0 ≤ room_1.cells ∧ slots + 0 ≤ room_1.slots) {H : Heap} {locs : List Loc} {ls : Array Slot} (hP : va_P g.1 clz (xw g X) H) (hPy : va_P g.1 clz (yw g Y) H) (hO : OUT g o H) (hS : va_S (fun q => s.heap.size ≤ q) s.heap H locs) (hl : lv_has ls 7 [(4, .int x4), (0, .ref b), (1, .ref (g.2.1 (0 + 0))), (2, .ref (g.2.1 (138 + 0))), (3, .ref o)]) (kk : ∀ (X1 Y1 : Mem) (H : Heap) (locs : List Loc) (ls : Array Slot), Rel X1 Y1 → va_P g.1 clz (xw g X1) H → va_P g.1 clz (yw g Y1) H → OUT g o H → va_S (fun q => s.heap.size ≤ q) s.heap H locs → lv_has ls 7 [(4, .int x4), (0, .ref b), (1, .ref (g.2.1 (0 + 0))), (2, .ref (g.2.1 (138 + 0))), (3, .ref o)] → W p l e room_1 s m #[Value.ref b] below meth c H locs cells slots (lw_Z below #[Value.ref b] s) (F0 m 1701 ls [])) : W p l e room_1 s m #[Value.ref b] below meth c H locs cells slots (lw_Z below #[Value.ref b] s) (F0 m 809 ls []) := by
  have hbA : ¬ (fun q : Nat => s.heap.size ≤ q) b := Nat.not_le.mpr hbl
  refine lv_aload_n C.1 C.2.1 dL_law_809 rfl (lv_at hl 2 rfl) ?_
  refine lv_aload_n C.1 C.2.1 dL_law_810 rfl (lv_at hl 1 rfl) ?_
  refine lv_iload C.1 C.2.1 dL_law_811 (lv_at hl 0 rfl) ?_
  refine lv_iconst (v := 1) C.1 C.2.1 dL_law_813 (by decide) ?_
  refine lv_iadd C.1 C.2.1 dL_law_814 ?_
  refine va_sld C.1 C.2.1 hX hbl hbA hS (lw_ix 1 ex4 hi6 (by decide) hL) dL_law_815 ?_
  refine lv_aload_n C.1 C.2.1 dL_law_816 rfl (lv_at hl 1 rfl) ?_
  refine lv_iload C.1 C.2.1 dL_law_817 (lv_at hl 0 rfl) ?_
  refine lv_iconst (v := 2) C.1 C.2.1 dL_law_819 (by decide) ?_
  refine lv_iadd C.1 C.2.1 dL_law_820 ?_
  refine va_sld C.1 C.2.1 hX hbl hbA hS (lw_ix 2 ex4 hi6 (by decide) hL) dL_law_821 ?_
  have hw := h14 X Y (xs ((x4 + 1 : Int32)).toNatClampNeg) (xs ((x4 + 2 : Int32)).toNatClampNeg) hR
  refine goLaw (wf := xw g) (runVg (w := xw g X) (As := [.int (xs ((x4 + 1 : Int32)).toNatClampNeg), .int (xs ((x4 + 2 : Int32)).toNatClampNeg)]) (rest := []) C lkL_87 (c_X10_listen l g C.2.2.2.2.2.2.2.2.2.2 (xs ((x4 + 1 : Int32)).toNatClampNeg) (xs ((x4 + 2 : Int32)).toNatClampNeg) X _ hw) hP (SX hS hAd) rfl rfl ⟨Nat.le_of_ble_eq_true rfl, Nat.le_of_ble_eq_true rfl⟩ (xx_0 Nat.zero_lt_one) rfl rfl hl.1 rfl (Nat.le_of_ble_eq_true rfl) dL_law_822 hcs) hAd hS hO hoA hPy (yx_apart C.2.2.2.2.2.2.2.2.2.2 Y) (fun r X1 hw H locs hP hS hO hPy => ?_)
  refine lv_aload_n C.1 C.2.1 dL_law_825 rfl (lv_at hl 3 rfl) ?_
  refine lv_aload_n C.1 C.2.1 dL_law_826 rfl (lv_at hl 1 rfl) ?_
  refine lv_iload C.1 C.2.1 dL_law_827 (lv_at hl 0 rfl) ?_
  refine lv_iconst (v := 1) C.1 C.2.1 dL_law_829 (by decide) ?_
  refine lv_iadd C.1 C.2.1 dL_law_830 ?_
  refine va_sld C.1 C.2.1 hX hbl hbA hS (lw_ix 1 ex4 hi6 (by decide) hL) dL_law_831 ?_
  refine lv_aload_n C.1 C.2.1 dL_law_832 rfl (lv_at hl 1 rfl) ?_
  refine lv_iload C.1 C.2.1 dL_law_833 (lv_at hl 0 rfl) ?_
  refine lv_iconst (v := 2) C.1 C.2.1 dL_law_835 (by decide) ?_
  refine lv_iadd C.1 C.2.1 dL_law_836 ?_
  refine va_sld C.1 C.2.1 hX hbl hbA hS (lw_ix 2 ex4 hi6 (by decide) hL) dL_law_837 ?_
  refine goLaw (wf := yw g) (runVg (w := yw g Y) (As := [.int (xs ((x4 + 1 : Int32)).toNatClampNeg), .int (xs ((x4 + 2 : Int32)).toNatClampNeg)]) (rest := [.int r]) C lkL_90 (c_X11_listen l g C.2.2.2.2.2.2.2.2.2.2 (xs ((x4 + 1 : Int32)).toNatClampNeg) (xs ((x4 + 2 : Int32)).toNatClampNeg) Y _ hw) hPy (SX hS hAd) rfl rfl ⟨Nat.le_of_ble_eq_true rfl, Nat.le_of_ble_eq_true rfl⟩ (xx_40 Nat.zero_lt_one) rfl rfl hl.1 rfl (Nat.le_of_ble_eq_true rfl) dL_law_838 hcs) hAd hS hO hoA hP (xy_apart C.2.2.2.2.2.2.2.2.2.2 X1) (fun r1 Y1 hw H locs hPy hS hO hP => ?_)
  refine lv_icmp_eq (tgt := 1701) C.1 C.2.1 dL_law_841 (by decide) (fun _ => ?_) (fun hn => absurd hw.1 hn)
  exact kk X1 Y1 _ _ _ hw.2 hP hPy hO hS hl
set_option maxRecDepth 100000 in
set_option maxHeartbeats 4000000 in
theorem lw_case_15 {p : Program} {l : Launch} {e : Env} {s : State} {m : MethodId} {below : List Frame} {meth : Method} {c : Code} {g : Geo} {b L o : Nat} {xs : Nat → Int32} (hL : L ≤ 3072) (C : CX g p s m #[Value.ref b] meth c cL_law 7 ret RL) (hX : va_X b L xs s s.heap) (hbl : b < s.heap.size) (hAd : ∀ i, i < NN → s.heap.size ≤ g.2.1 i) (hoA : ¬ AX g o) (Rel : Mem → Mem → Prop) (h15 : ∀ (X Y : Mem) (a1 a2 a3 : Int32), Rel X Y → p_X10_clear a1 a2 a3 X (fun r X1 => p_X11_clear a1 a2 a3 Y (fun r1 Y1 => r = r1 ∧ Rel X1 Y1))) (X Y : Mem) (hR : Rel X Y) {x4 : Int32} {i : Nat} (ex4 : x4 = nI i) (hi6 : i + 6 ≤ L) {cells slots : Nat} (hcs : cells + 0 ≤ room_1.cells ∧ slots + 0 ≤ room_1.slots) {H : Heap} {locs : List Loc} {ls : Array Slot} (hP : va_P g.1 clz (xw g X) H) (hPy : va_P g.1 clz (yw g Y) H) (hO : OUT g o H) (hS : va_S (fun q => s.heap.size ≤ q) s.heap H locs) (hl : lv_has ls 7 [(4, .int x4), (0, .ref b), (1, .ref (g.2.1 (0 + 0))), (2, .ref (g.2.1 (138 + 0))), (3, .ref o)]) (kk : ∀ (X1 Y1 : Mem) (H : Heap) (locs : List Loc) (ls : Array Slot), Rel X1 Y1 → va_P g.1 clz (xw g X1) H → va_P g.1 clz (yw g Y1) H → OUT g o H → va_S (fun q => s.heap.size ≤ q) s.heap H locs → lv_has ls 7 [(4, .int x4), (0, .ref b), (1, .ref (g.2.1 (0 + 0))), (2, .ref (g.2.1 (138 + 0))), (3, .ref o)] → W p l e room_1 s m #[Value.ref b] below meth c H locs cells slots (lw_Z below #[Value.ref b] s) (F0 m 1701 ls [])) : W p l e room_1 s m #[Value.ref b] below meth c H locs cells slots (lw_Z below #[Value.ref b] s) (F0 m 846 ls []) := by
  have hbA : ¬ (fun q : Nat => s.heap.size ≤ q) b := Nat.not_le.mpr hbl
  refine lv_aload_n C.1 C.2.1 dL_law_846 rfl (lv_at hl 2 rfl) ?_
  refine lv_aload_n C.1 C.2.1 dL_law_847 rfl (lv_at hl 1 rfl) ?_
  refine lv_iload C.1 C.2.1 dL_law_848 (lv_at hl 0 rfl) ?_
  refine lv_iconst (v := 1) C.1 C.2.1 dL_law_850 (by decide) ?_
  refine lv_iadd C.1 C.2.1 dL_law_851 ?_
  refine va_sld C.1 C.2.1 hX hbl hbA hS (lw_ix 1 ex4 hi6 (by decide) hL) dL_law_852 ?_
  refine lv_aload_n C.1 C.2.1 dL_law_853 rfl (lv_at hl 1 rfl) ?_
  refine lv_iload C.1 C.2.1 dL_law_854 (lv_at hl 0 rfl) ?_
  refine lv_iconst (v := 2) C.1 C.2.1 dL_law_856 (by decide) ?_
  refine lv_iadd C.1 C.2.1 dL_law_857 ?_
  refine va_sld C.1 C.2.1 hX hbl hbA hS (lw_ix 2 ex4 hi6 (by decide) hL) dL_law_858 ?_
  refine lv_aload_n C.1 C.2.1 dL_law_859 rfl (lv_at hl 1 rfl) ?_
  refine lv_iload C.1 C.2.1 dL_law_860 (lv_at hl 0 rfl) ?_
  refine lv_iconst (v := 3) C.1 C.2.1 dL_law_862 (by decide) ?_
  refine lv_iadd C.1 C.2.1 dL_law_863 ?_
  refine va_sld C.1 C.2.1 hX hbl hbA hS (lw_ix 3 ex4 hi6 (by decide) hL) dL_law_864 ?_
  have hw := h15 X Y (xs ((x4 + 1 : Int32)).toNatClampNeg) (xs ((x4 + 2 : Int32)).toNatClampNeg) (xs ((x4 + 3 : Int32)).toNatClampNeg) hR
  refine goLaw (wf := xw g) (runVg (w := xw g X) (As := [.int (xs ((x4 + 1 : Int32)).toNatClampNeg), .int (xs ((x4 + 2 : Int32)).toNatClampNeg), .int (xs ((x4 + 3 : Int32)).toNatClampNeg)]) (rest := []) C lkL_91 (c_X10_clear l g C.2.2.2.2.2.2.2.2.2.2 (xs ((x4 + 1 : Int32)).toNatClampNeg) (xs ((x4 + 2 : Int32)).toNatClampNeg) (xs ((x4 + 3 : Int32)).toNatClampNeg) X _ hw) hP (SX hS hAd) rfl rfl ⟨Nat.le_of_ble_eq_true rfl, Nat.le_of_ble_eq_true rfl⟩ (xx_0 Nat.zero_lt_one) rfl rfl hl.1 rfl (Nat.le_of_ble_eq_true rfl) dL_law_865 hcs) hAd hS hO hoA hPy (yx_apart C.2.2.2.2.2.2.2.2.2.2 Y) (fun r X1 hw H locs hP hS hO hPy => ?_)
  refine lv_aload_n C.1 C.2.1 dL_law_868 rfl (lv_at hl 3 rfl) ?_
  refine lv_aload_n C.1 C.2.1 dL_law_869 rfl (lv_at hl 1 rfl) ?_
  refine lv_iload C.1 C.2.1 dL_law_870 (lv_at hl 0 rfl) ?_
  refine lv_iconst (v := 1) C.1 C.2.1 dL_law_872 (by decide) ?_
  refine lv_iadd C.1 C.2.1 dL_law_873 ?_
  refine va_sld C.1 C.2.1 hX hbl hbA hS (lw_ix 1 ex4 hi6 (by decide) hL) dL_law_874 ?_
  refine lv_aload_n C.1 C.2.1 dL_law_875 rfl (lv_at hl 1 rfl) ?_
  refine lv_iload C.1 C.2.1 dL_law_876 (lv_at hl 0 rfl) ?_
  refine lv_iconst (v := 2) C.1 C.2.1 dL_law_878 (by decide) ?_
  refine lv_iadd C.1 C.2.1 dL_law_879 ?_
  refine va_sld C.1 C.2.1 hX hbl hbA hS (lw_ix 2 ex4 hi6 (by decide) hL) dL_law_880 ?_
  refine lv_aload_n C.1 C.2.1 dL_law_881 rfl (lv_at hl 1 rfl) ?_
  refine lv_iload C.1 C.2.1 dL_law_882 (lv_at hl 0 rfl) ?_
  refine lv_iconst (v := 3) C.1 C.2.1 dL_law_884 (by decide) ?_
  refine lv_iadd C.1 C.2.1 dL_law_885 ?_
  refine va_sld C.1 C.2.1 hX hbl hbA hS (lw_ix 3 ex4 hi6 (by decide) hL) dL_law_886 ?_
  refine goLaw (wf := yw g) (runVg (w := yw g Y) (As := [.int (xs ((x4 + 1 : Int32)).toNatClampNeg), .int (xs ((x4 + 2 : Int32)).toNatClampNeg), .int (xs ((x4 + 3 : Int32)).toNatClampNeg)]) (rest := [.int r]) C lkL_94 (c_X11_clear l g C.2.2.2.2.2.2.2.2.2.2 (xs ((x4 + 1 : Int32)).toNatClampNeg) (xs ((x4 + 2 : Int32)).toNatClampNeg) (xs ((x4 + 3 : Int32)).toNatClampNeg) Y _ hw) hPy (SX hS hAd) rfl rfl ⟨Nat.le_of_ble_eq_true rfl, Nat.le_of_ble_eq_true rfl⟩ (xx_40 Nat.zero_lt_one) rfl rfl hl.1 rfl (Nat.le_of_ble_eq_true rfl) dL_law_887 hcs) hAd hS hO hoA hP (xy_apart C.2.2.2.2.2.2.2.2.2.2 X1) (fun r1 Y1 hw H locs hPy hS hO hP => ?_)
  refine lv_icmp_eq (tgt := 1701) C.1 C.2.1 dL_law_890 (by decide) (fun _ => ?_) (fun hn => absurd hw.1 hn)
  exact kk X1 Y1 _ _ _ hw.2 hP hPy hO hS hl
set_option maxRecDepth 100000 in
set_option maxHeartbeats 4000000 in
theorem lw_case_16 {p : Program} {l : Launch} {e : Env} {s : State} {m : MethodId} {below : List Frame} {meth : Method} {c : Code} {g : Geo} {b L o : Nat} {xs : Nat → Int32} (hL : L ≤ 3072) (C : CX g p s m #[Value.ref b] meth c cL_law 7 ret RL) (hX : va_X b L xs s s.heap) (hbl : b < s.heap.size) (hAd : ∀ i, i < NN → s.heap.size ≤ g.2.1 i) (hoA : ¬ AX g o) (Rel : Mem → Mem → Prop) (h16 : ∀ (X Y : Mem) (a1 a2 : Int32), Rel X Y → p_X10_limit a1 a2 X (fun r X1 => p_X11_limit a1 a2 Y (fun r1 Y1 => r = r1 ∧ Rel X1 Y1))) (X Y : Mem) (hR : Rel X Y) {x4 : Int32} {i : Nat} (ex4 : x4 = nI i) (hi6 : i + 6 ≤ L) {cells slots : Nat} (hcs : cells + 0 ≤ room_1.cells ∧ slots + 0 ≤ room_1.slots) {H : Heap} {locs : List Loc} {ls : Array Slot} (hP : va_P g.1 clz (xw g X) H) (hPy : va_P g.1 clz (yw g Y) H) (hO : OUT g o H) (hS : va_S (fun q => s.heap.size ≤ q) s.heap H locs) (hl : lv_has ls 7 [(4, .int x4), (0, .ref b), (1, .ref (g.2.1 (0 + 0))), (2, .ref (g.2.1 (138 + 0))), (3, .ref o)]) (kk : ∀ (X1 Y1 : Mem) (H : Heap) (locs : List Loc) (ls : Array Slot), Rel X1 Y1 → va_P g.1 clz (xw g X1) H → va_P g.1 clz (yw g Y1) H → OUT g o H → va_S (fun q => s.heap.size ≤ q) s.heap H locs → lv_has ls 7 [(4, .int x4), (0, .ref b), (1, .ref (g.2.1 (0 + 0))), (2, .ref (g.2.1 (138 + 0))), (3, .ref o)] → W p l e room_1 s m #[Value.ref b] below meth c H locs cells slots (lw_Z below #[Value.ref b] s) (F0 m 1701 ls [])) : W p l e room_1 s m #[Value.ref b] below meth c H locs cells slots (lw_Z below #[Value.ref b] s) (F0 m 895 ls []) := by
  have hbA : ¬ (fun q : Nat => s.heap.size ≤ q) b := Nat.not_le.mpr hbl
  refine lv_aload_n C.1 C.2.1 dL_law_895 rfl (lv_at hl 2 rfl) ?_
  refine lv_aload_n C.1 C.2.1 dL_law_896 rfl (lv_at hl 1 rfl) ?_
  refine lv_iload C.1 C.2.1 dL_law_897 (lv_at hl 0 rfl) ?_
  refine lv_iconst (v := 1) C.1 C.2.1 dL_law_899 (by decide) ?_
  refine lv_iadd C.1 C.2.1 dL_law_900 ?_
  refine va_sld C.1 C.2.1 hX hbl hbA hS (lw_ix 1 ex4 hi6 (by decide) hL) dL_law_901 ?_
  refine lv_aload_n C.1 C.2.1 dL_law_902 rfl (lv_at hl 1 rfl) ?_
  refine lv_iload C.1 C.2.1 dL_law_903 (lv_at hl 0 rfl) ?_
  refine lv_iconst (v := 2) C.1 C.2.1 dL_law_905 (by decide) ?_
  refine lv_iadd C.1 C.2.1 dL_law_906 ?_
  refine va_sld C.1 C.2.1 hX hbl hbA hS (lw_ix 2 ex4 hi6 (by decide) hL) dL_law_907 ?_
  have hw := h16 X Y (xs ((x4 + 1 : Int32)).toNatClampNeg) (xs ((x4 + 2 : Int32)).toNatClampNeg) hR
  refine goLaw (wf := xw g) (runVg (w := xw g X) (As := [.int (xs ((x4 + 1 : Int32)).toNatClampNeg), .int (xs ((x4 + 2 : Int32)).toNatClampNeg)]) (rest := []) C lkL_95 (c_X10_limit l g C.2.2.2.2.2.2.2.2.2.2 (xs ((x4 + 1 : Int32)).toNatClampNeg) (xs ((x4 + 2 : Int32)).toNatClampNeg) X _ hw) hP (SX hS hAd) rfl rfl ⟨Nat.le_of_ble_eq_true rfl, Nat.le_of_ble_eq_true rfl⟩ (xx_0 Nat.zero_lt_one) rfl rfl hl.1 rfl (Nat.le_of_ble_eq_true rfl) dL_law_908 hcs) hAd hS hO hoA hPy (yx_apart C.2.2.2.2.2.2.2.2.2.2 Y) (fun r X1 hw H locs hP hS hO hPy => ?_)
  refine lv_aload_n C.1 C.2.1 dL_law_911 rfl (lv_at hl 3 rfl) ?_
  refine lv_aload_n C.1 C.2.1 dL_law_912 rfl (lv_at hl 1 rfl) ?_
  refine lv_iload C.1 C.2.1 dL_law_913 (lv_at hl 0 rfl) ?_
  refine lv_iconst (v := 1) C.1 C.2.1 dL_law_915 (by decide) ?_
  refine lv_iadd C.1 C.2.1 dL_law_916 ?_
  refine va_sld C.1 C.2.1 hX hbl hbA hS (lw_ix 1 ex4 hi6 (by decide) hL) dL_law_917 ?_
  refine lv_aload_n C.1 C.2.1 dL_law_918 rfl (lv_at hl 1 rfl) ?_
  refine lv_iload C.1 C.2.1 dL_law_919 (lv_at hl 0 rfl) ?_
  refine lv_iconst (v := 2) C.1 C.2.1 dL_law_921 (by decide) ?_
  refine lv_iadd C.1 C.2.1 dL_law_922 ?_
  refine va_sld C.1 C.2.1 hX hbl hbA hS (lw_ix 2 ex4 hi6 (by decide) hL) dL_law_923 ?_
  refine goLaw (wf := yw g) (runVg (w := yw g Y) (As := [.int (xs ((x4 + 1 : Int32)).toNatClampNeg), .int (xs ((x4 + 2 : Int32)).toNatClampNeg)]) (rest := [.int r]) C lkL_98 (c_X11_limit l g C.2.2.2.2.2.2.2.2.2.2 (xs ((x4 + 1 : Int32)).toNatClampNeg) (xs ((x4 + 2 : Int32)).toNatClampNeg) Y _ hw) hPy (SX hS hAd) rfl rfl ⟨Nat.le_of_ble_eq_true rfl, Nat.le_of_ble_eq_true rfl⟩ (xx_40 Nat.zero_lt_one) rfl rfl hl.1 rfl (Nat.le_of_ble_eq_true rfl) dL_law_924 hcs) hAd hS hO hoA hP (xy_apart C.2.2.2.2.2.2.2.2.2.2 X1) (fun r1 Y1 hw H locs hPy hS hO hP => ?_)
  refine lv_icmp_eq (tgt := 1701) C.1 C.2.1 dL_law_927 (by decide) (fun _ => ?_) (fun hn => absurd hw.1 hn)
  exact kk X1 Y1 _ _ _ hw.2 hP hPy hO hS hl
set_option maxRecDepth 100000 in
set_option maxHeartbeats 4000000 in
theorem lw_case_17 {p : Program} {l : Launch} {e : Env} {s : State} {m : MethodId} {below : List Frame} {meth : Method} {c : Code} {g : Geo} {b L o : Nat} {xs : Nat → Int32} (hL : L ≤ 3072) (C : CX g p s m #[Value.ref b] meth c cL_law 7 ret RL) (hX : va_X b L xs s s.heap) (hbl : b < s.heap.size) (hAd : ∀ i, i < NN → s.heap.size ≤ g.2.1 i) (hoA : ¬ AX g o) (Rel : Mem → Mem → Prop) (h17 : ∀ (X Y : Mem) (a1 a2 a3 a4 : Int32), Rel X Y → p_X10_chance a1 a2 a3 a4 X (fun r X1 => p_X11_chance a1 a2 a3 a4 Y (fun r1 Y1 => r = r1 ∧ Rel X1 Y1))) (X Y : Mem) (hR : Rel X Y) {x4 : Int32} {i : Nat} (ex4 : x4 = nI i) (hi6 : i + 6 ≤ L) {cells slots : Nat} (hcs : cells + 0 ≤ room_1.cells ∧ slots + 0 ≤ room_1.slots) {H : Heap} {locs : List Loc} {ls : Array Slot} (hP : va_P g.1 clz (xw g X) H) (hPy : va_P g.1 clz (yw g Y) H) (hO : OUT g o H) (hS : va_S (fun q => s.heap.size ≤ q) s.heap H locs) (hl : lv_has ls 7 [(4, .int x4), (0, .ref b), (1, .ref (g.2.1 (0 + 0))), (2, .ref (g.2.1 (138 + 0))), (3, .ref o)]) (kk : ∀ (X1 Y1 : Mem) (H : Heap) (locs : List Loc) (ls : Array Slot), Rel X1 Y1 → va_P g.1 clz (xw g X1) H → va_P g.1 clz (yw g Y1) H → OUT g o H → va_S (fun q => s.heap.size ≤ q) s.heap H locs → lv_has ls 7 [(4, .int x4), (0, .ref b), (1, .ref (g.2.1 (0 + 0))), (2, .ref (g.2.1 (138 + 0))), (3, .ref o)] → W p l e room_1 s m #[Value.ref b] below meth c H locs cells slots (lw_Z below #[Value.ref b] s) (F0 m 1701 ls [])) : W p l e room_1 s m #[Value.ref b] below meth c H locs cells slots (lw_Z below #[Value.ref b] s) (F0 m 932 ls []) := by
  have hbA : ¬ (fun q : Nat => s.heap.size ≤ q) b := Nat.not_le.mpr hbl
  refine lv_aload_n C.1 C.2.1 dL_law_932 rfl (lv_at hl 2 rfl) ?_
  refine lv_aload_n C.1 C.2.1 dL_law_933 rfl (lv_at hl 1 rfl) ?_
  refine lv_iload C.1 C.2.1 dL_law_934 (lv_at hl 0 rfl) ?_
  refine lv_iconst (v := 1) C.1 C.2.1 dL_law_936 (by decide) ?_
  refine lv_iadd C.1 C.2.1 dL_law_937 ?_
  refine va_sld C.1 C.2.1 hX hbl hbA hS (lw_ix 1 ex4 hi6 (by decide) hL) dL_law_938 ?_
  refine lv_aload_n C.1 C.2.1 dL_law_939 rfl (lv_at hl 1 rfl) ?_
  refine lv_iload C.1 C.2.1 dL_law_940 (lv_at hl 0 rfl) ?_
  refine lv_iconst (v := 2) C.1 C.2.1 dL_law_942 (by decide) ?_
  refine lv_iadd C.1 C.2.1 dL_law_943 ?_
  refine va_sld C.1 C.2.1 hX hbl hbA hS (lw_ix 2 ex4 hi6 (by decide) hL) dL_law_944 ?_
  refine lv_aload_n C.1 C.2.1 dL_law_945 rfl (lv_at hl 1 rfl) ?_
  refine lv_iload C.1 C.2.1 dL_law_946 (lv_at hl 0 rfl) ?_
  refine lv_iconst (v := 3) C.1 C.2.1 dL_law_948 (by decide) ?_
  refine lv_iadd C.1 C.2.1 dL_law_949 ?_
  refine va_sld C.1 C.2.1 hX hbl hbA hS (lw_ix 3 ex4 hi6 (by decide) hL) dL_law_950 ?_
  refine lv_aload_n C.1 C.2.1 dL_law_951 rfl (lv_at hl 1 rfl) ?_
  refine lv_iload C.1 C.2.1 dL_law_952 (lv_at hl 0 rfl) ?_
  refine lv_iconst (v := 4) C.1 C.2.1 dL_law_954 (by decide) ?_
  refine lv_iadd C.1 C.2.1 dL_law_955 ?_
  refine va_sld C.1 C.2.1 hX hbl hbA hS (lw_ix 4 ex4 hi6 (by decide) hL) dL_law_956 ?_
  have hw := h17 X Y (xs ((x4 + 1 : Int32)).toNatClampNeg) (xs ((x4 + 2 : Int32)).toNatClampNeg) (xs ((x4 + 3 : Int32)).toNatClampNeg) (xs ((x4 + 4 : Int32)).toNatClampNeg) hR
  refine goLaw (wf := xw g) (runVg (w := xw g X) (As := [.int (xs ((x4 + 1 : Int32)).toNatClampNeg), .int (xs ((x4 + 2 : Int32)).toNatClampNeg), .int (xs ((x4 + 3 : Int32)).toNatClampNeg), .int (xs ((x4 + 4 : Int32)).toNatClampNeg)]) (rest := []) C lkL_99 (c_X10_chance l g C.2.2.2.2.2.2.2.2.2.2 (xs ((x4 + 1 : Int32)).toNatClampNeg) (xs ((x4 + 2 : Int32)).toNatClampNeg) (xs ((x4 + 3 : Int32)).toNatClampNeg) (xs ((x4 + 4 : Int32)).toNatClampNeg) X _ hw) hP (SX hS hAd) rfl rfl ⟨Nat.le_of_ble_eq_true rfl, Nat.le_of_ble_eq_true rfl⟩ (xx_0 Nat.zero_lt_one) rfl rfl hl.1 rfl (Nat.le_of_ble_eq_true rfl) dL_law_957 hcs) hAd hS hO hoA hPy (yx_apart C.2.2.2.2.2.2.2.2.2.2 Y) (fun r X1 hw H locs hP hS hO hPy => ?_)
  refine lv_aload_n C.1 C.2.1 dL_law_960 rfl (lv_at hl 3 rfl) ?_
  refine lv_aload_n C.1 C.2.1 dL_law_961 rfl (lv_at hl 1 rfl) ?_
  refine lv_iload C.1 C.2.1 dL_law_962 (lv_at hl 0 rfl) ?_
  refine lv_iconst (v := 1) C.1 C.2.1 dL_law_964 (by decide) ?_
  refine lv_iadd C.1 C.2.1 dL_law_965 ?_
  refine va_sld C.1 C.2.1 hX hbl hbA hS (lw_ix 1 ex4 hi6 (by decide) hL) dL_law_966 ?_
  refine lv_aload_n C.1 C.2.1 dL_law_967 rfl (lv_at hl 1 rfl) ?_
  refine lv_iload C.1 C.2.1 dL_law_968 (lv_at hl 0 rfl) ?_
  refine lv_iconst (v := 2) C.1 C.2.1 dL_law_970 (by decide) ?_
  refine lv_iadd C.1 C.2.1 dL_law_971 ?_
  refine va_sld C.1 C.2.1 hX hbl hbA hS (lw_ix 2 ex4 hi6 (by decide) hL) dL_law_972 ?_
  refine lv_aload_n C.1 C.2.1 dL_law_973 rfl (lv_at hl 1 rfl) ?_
  refine lv_iload C.1 C.2.1 dL_law_974 (lv_at hl 0 rfl) ?_
  refine lv_iconst (v := 3) C.1 C.2.1 dL_law_976 (by decide) ?_
  refine lv_iadd C.1 C.2.1 dL_law_977 ?_
  refine va_sld C.1 C.2.1 hX hbl hbA hS (lw_ix 3 ex4 hi6 (by decide) hL) dL_law_978 ?_
  refine lv_aload_n C.1 C.2.1 dL_law_979 rfl (lv_at hl 1 rfl) ?_
  refine lv_iload C.1 C.2.1 dL_law_980 (lv_at hl 0 rfl) ?_
  refine lv_iconst (v := 4) C.1 C.2.1 dL_law_982 (by decide) ?_
  refine lv_iadd C.1 C.2.1 dL_law_983 ?_
  refine va_sld C.1 C.2.1 hX hbl hbA hS (lw_ix 4 ex4 hi6 (by decide) hL) dL_law_984 ?_
  refine goLaw (wf := yw g) (runVg (w := yw g Y) (As := [.int (xs ((x4 + 1 : Int32)).toNatClampNeg), .int (xs ((x4 + 2 : Int32)).toNatClampNeg), .int (xs ((x4 + 3 : Int32)).toNatClampNeg), .int (xs ((x4 + 4 : Int32)).toNatClampNeg)]) (rest := [.int r]) C lkL_102 (c_X11_chance l g C.2.2.2.2.2.2.2.2.2.2 (xs ((x4 + 1 : Int32)).toNatClampNeg) (xs ((x4 + 2 : Int32)).toNatClampNeg) (xs ((x4 + 3 : Int32)).toNatClampNeg) (xs ((x4 + 4 : Int32)).toNatClampNeg) Y _ hw) hPy (SX hS hAd) rfl rfl ⟨Nat.le_of_ble_eq_true rfl, Nat.le_of_ble_eq_true rfl⟩ (xx_40 Nat.zero_lt_one) rfl rfl hl.1 rfl (Nat.le_of_ble_eq_true rfl) dL_law_985 hcs) hAd hS hO hoA hP (xy_apart C.2.2.2.2.2.2.2.2.2.2 X1) (fun r1 Y1 hw H locs hPy hS hO hP => ?_)
  refine lv_icmp_eq (tgt := 1701) C.1 C.2.1 dL_law_988 (by decide) (fun _ => ?_) (fun hn => absurd hw.1 hn)
  exact kk X1 Y1 _ _ _ hw.2 hP hPy hO hS hl
set_option maxRecDepth 100000 in
set_option maxHeartbeats 4000000 in
theorem lw_case_18 {p : Program} {l : Launch} {e : Env} {s : State} {m : MethodId} {below : List Frame} {meth : Method} {c : Code} {g : Geo} {b L o : Nat} {xs : Nat → Int32} (hL : L ≤ 3072) (C : CX g p s m #[Value.ref b] meth c cL_law 7 ret RL) (hX : va_X b L xs s s.heap) (hbl : b < s.heap.size) (hAd : ∀ i, i < NN → s.heap.size ≤ g.2.1 i) (hoA : ¬ AX g o) (Rel : Mem → Mem → Prop) (h18 : ∀ (X Y : Mem) (a1 a2 a3 : Int32), Rel X Y → p_X10_clearest a1 a2 a3 X (fun r X1 => p_X11_clearest a1 a2 a3 Y (fun r1 Y1 => r = r1 ∧ Rel X1 Y1))) (X Y : Mem) (hR : Rel X Y) {x4 : Int32} {i : Nat} (ex4 : x4 = nI i) (hi6 : i + 6 ≤ L) {cells slots : Nat} (hcs : cells + 0 ≤ room_1.cells ∧ slots + 0 ≤ room_1.slots) {H : Heap} {locs : List Loc} {ls : Array Slot} (hP : va_P g.1 clz (xw g X) H) (hPy : va_P g.1 clz (yw g Y) H) (hO : OUT g o H) (hS : va_S (fun q => s.heap.size ≤ q) s.heap H locs) (hl : lv_has ls 7 [(4, .int x4), (0, .ref b), (1, .ref (g.2.1 (0 + 0))), (2, .ref (g.2.1 (138 + 0))), (3, .ref o)]) (kk : ∀ (X1 Y1 : Mem) (H : Heap) (locs : List Loc) (ls : Array Slot), Rel X1 Y1 → va_P g.1 clz (xw g X1) H → va_P g.1 clz (yw g Y1) H → OUT g o H → va_S (fun q => s.heap.size ≤ q) s.heap H locs → lv_has ls 7 [(4, .int x4), (0, .ref b), (1, .ref (g.2.1 (0 + 0))), (2, .ref (g.2.1 (138 + 0))), (3, .ref o)] → W p l e room_1 s m #[Value.ref b] below meth c H locs cells slots (lw_Z below #[Value.ref b] s) (F0 m 1701 ls [])) : W p l e room_1 s m #[Value.ref b] below meth c H locs cells slots (lw_Z below #[Value.ref b] s) (F0 m 993 ls []) := by
  have hbA : ¬ (fun q : Nat => s.heap.size ≤ q) b := Nat.not_le.mpr hbl
  refine lv_aload_n C.1 C.2.1 dL_law_993 rfl (lv_at hl 2 rfl) ?_
  refine lv_aload_n C.1 C.2.1 dL_law_994 rfl (lv_at hl 1 rfl) ?_
  refine lv_iload C.1 C.2.1 dL_law_995 (lv_at hl 0 rfl) ?_
  refine lv_iconst (v := 1) C.1 C.2.1 dL_law_997 (by decide) ?_
  refine lv_iadd C.1 C.2.1 dL_law_998 ?_
  refine va_sld C.1 C.2.1 hX hbl hbA hS (lw_ix 1 ex4 hi6 (by decide) hL) dL_law_999 ?_
  refine lv_aload_n C.1 C.2.1 dL_law_1000 rfl (lv_at hl 1 rfl) ?_
  refine lv_iload C.1 C.2.1 dL_law_1001 (lv_at hl 0 rfl) ?_
  refine lv_iconst (v := 2) C.1 C.2.1 dL_law_1003 (by decide) ?_
  refine lv_iadd C.1 C.2.1 dL_law_1004 ?_
  refine va_sld C.1 C.2.1 hX hbl hbA hS (lw_ix 2 ex4 hi6 (by decide) hL) dL_law_1005 ?_
  refine lv_aload_n C.1 C.2.1 dL_law_1006 rfl (lv_at hl 1 rfl) ?_
  refine lv_iload C.1 C.2.1 dL_law_1007 (lv_at hl 0 rfl) ?_
  refine lv_iconst (v := 3) C.1 C.2.1 dL_law_1009 (by decide) ?_
  refine lv_iadd C.1 C.2.1 dL_law_1010 ?_
  refine va_sld C.1 C.2.1 hX hbl hbA hS (lw_ix 3 ex4 hi6 (by decide) hL) dL_law_1011 ?_
  have hw := h18 X Y (xs ((x4 + 1 : Int32)).toNatClampNeg) (xs ((x4 + 2 : Int32)).toNatClampNeg) (xs ((x4 + 3 : Int32)).toNatClampNeg) hR
  refine goLaw (wf := xw g) (runVg (w := xw g X) (As := [.int (xs ((x4 + 1 : Int32)).toNatClampNeg), .int (xs ((x4 + 2 : Int32)).toNatClampNeg), .int (xs ((x4 + 3 : Int32)).toNatClampNeg)]) (rest := []) C lkL_103 (c_X10_clearest l g C.2.2.2.2.2.2.2.2.2.2 (xs ((x4 + 1 : Int32)).toNatClampNeg) (xs ((x4 + 2 : Int32)).toNatClampNeg) (xs ((x4 + 3 : Int32)).toNatClampNeg) X _ hw) hP (SX hS hAd) rfl rfl ⟨Nat.le_of_ble_eq_true rfl, Nat.le_of_ble_eq_true rfl⟩ (xx_0 Nat.zero_lt_one) rfl rfl hl.1 rfl (Nat.le_of_ble_eq_true rfl) dL_law_1012 hcs) hAd hS hO hoA hPy (yx_apart C.2.2.2.2.2.2.2.2.2.2 Y) (fun r X1 hw H locs hP hS hO hPy => ?_)
  refine lv_aload_n C.1 C.2.1 dL_law_1015 rfl (lv_at hl 3 rfl) ?_
  refine lv_aload_n C.1 C.2.1 dL_law_1016 rfl (lv_at hl 1 rfl) ?_
  refine lv_iload C.1 C.2.1 dL_law_1017 (lv_at hl 0 rfl) ?_
  refine lv_iconst (v := 1) C.1 C.2.1 dL_law_1019 (by decide) ?_
  refine lv_iadd C.1 C.2.1 dL_law_1020 ?_
  refine va_sld C.1 C.2.1 hX hbl hbA hS (lw_ix 1 ex4 hi6 (by decide) hL) dL_law_1021 ?_
  refine lv_aload_n C.1 C.2.1 dL_law_1022 rfl (lv_at hl 1 rfl) ?_
  refine lv_iload C.1 C.2.1 dL_law_1023 (lv_at hl 0 rfl) ?_
  refine lv_iconst (v := 2) C.1 C.2.1 dL_law_1025 (by decide) ?_
  refine lv_iadd C.1 C.2.1 dL_law_1026 ?_
  refine va_sld C.1 C.2.1 hX hbl hbA hS (lw_ix 2 ex4 hi6 (by decide) hL) dL_law_1027 ?_
  refine lv_aload_n C.1 C.2.1 dL_law_1028 rfl (lv_at hl 1 rfl) ?_
  refine lv_iload C.1 C.2.1 dL_law_1029 (lv_at hl 0 rfl) ?_
  refine lv_iconst (v := 3) C.1 C.2.1 dL_law_1031 (by decide) ?_
  refine lv_iadd C.1 C.2.1 dL_law_1032 ?_
  refine va_sld C.1 C.2.1 hX hbl hbA hS (lw_ix 3 ex4 hi6 (by decide) hL) dL_law_1033 ?_
  refine goLaw (wf := yw g) (runVg (w := yw g Y) (As := [.int (xs ((x4 + 1 : Int32)).toNatClampNeg), .int (xs ((x4 + 2 : Int32)).toNatClampNeg), .int (xs ((x4 + 3 : Int32)).toNatClampNeg)]) (rest := [.int r]) C lkL_106 (c_X11_clearest l g C.2.2.2.2.2.2.2.2.2.2 (xs ((x4 + 1 : Int32)).toNatClampNeg) (xs ((x4 + 2 : Int32)).toNatClampNeg) (xs ((x4 + 3 : Int32)).toNatClampNeg) Y _ hw) hPy (SX hS hAd) rfl rfl ⟨Nat.le_of_ble_eq_true rfl, Nat.le_of_ble_eq_true rfl⟩ (xx_40 Nat.zero_lt_one) rfl rfl hl.1 rfl (Nat.le_of_ble_eq_true rfl) dL_law_1034 hcs) hAd hS hO hoA hP (xy_apart C.2.2.2.2.2.2.2.2.2.2 X1) (fun r1 Y1 hw H locs hPy hS hO hP => ?_)
  refine lv_icmp_eq (tgt := 1701) C.1 C.2.1 dL_law_1037 (by decide) (fun _ => ?_) (fun hn => absurd hw.1 hn)
  exact kk X1 Y1 _ _ _ hw.2 hP hPy hO hS hl
set_option maxRecDepth 100000 in
set_option maxHeartbeats 4000000 in
theorem lw_case_19 {p : Program} {l : Launch} {e : Env} {s : State} {m : MethodId} {below : List Frame} {meth : Method} {c : Code} {g : Geo} {b L o : Nat} {xs : Nat → Int32} (hL : L ≤ 3072) (C : CX g p s m #[Value.ref b] meth c cL_law 7 ret RL) (hX : va_X b L xs s s.heap) (hbl : b < s.heap.size) (hAd : ∀ i, i < NN → s.heap.size ≤ g.2.1 i) (hoA : ¬ AX g o) (Rel : Mem → Mem → Prop) (h19 : ∀ (X Y : Mem) (a1 a2 a3 : Int32), Rel X Y → p_X10_tune a1 a2 a3 X (fun r X1 => p_X11_tune a1 a2 a3 Y (fun r1 Y1 => r = r1 ∧ Rel X1 Y1))) (X Y : Mem) (hR : Rel X Y) {x4 : Int32} {i : Nat} (ex4 : x4 = nI i) (hi6 : i + 6 ≤ L) {cells slots : Nat} (hcs : cells + 0 ≤ room_1.cells ∧ slots + 0 ≤ room_1.slots) {H : Heap} {locs : List Loc} {ls : Array Slot} (hP : va_P g.1 clz (xw g X) H) (hPy : va_P g.1 clz (yw g Y) H) (hO : OUT g o H) (hS : va_S (fun q => s.heap.size ≤ q) s.heap H locs) (hl : lv_has ls 7 [(4, .int x4), (0, .ref b), (1, .ref (g.2.1 (0 + 0))), (2, .ref (g.2.1 (138 + 0))), (3, .ref o)]) (kk : ∀ (X1 Y1 : Mem) (H : Heap) (locs : List Loc) (ls : Array Slot), Rel X1 Y1 → va_P g.1 clz (xw g X1) H → va_P g.1 clz (yw g Y1) H → OUT g o H → va_S (fun q => s.heap.size ≤ q) s.heap H locs → lv_has ls 7 [(4, .int x4), (0, .ref b), (1, .ref (g.2.1 (0 + 0))), (2, .ref (g.2.1 (138 + 0))), (3, .ref o)] → W p l e room_1 s m #[Value.ref b] below meth c H locs cells slots (lw_Z below #[Value.ref b] s) (F0 m 1701 ls [])) : W p l e room_1 s m #[Value.ref b] below meth c H locs cells slots (lw_Z below #[Value.ref b] s) (F0 m 1042 ls []) := by
  have hbA : ¬ (fun q : Nat => s.heap.size ≤ q) b := Nat.not_le.mpr hbl
  refine lv_aload_n C.1 C.2.1 dL_law_1042 rfl (lv_at hl 2 rfl) ?_
  refine lv_aload_n C.1 C.2.1 dL_law_1043 rfl (lv_at hl 1 rfl) ?_
  refine lv_iload C.1 C.2.1 dL_law_1044 (lv_at hl 0 rfl) ?_
  refine lv_iconst (v := 1) C.1 C.2.1 dL_law_1046 (by decide) ?_
  refine lv_iadd C.1 C.2.1 dL_law_1047 ?_
  refine va_sld C.1 C.2.1 hX hbl hbA hS (lw_ix 1 ex4 hi6 (by decide) hL) dL_law_1048 ?_
  refine lv_aload_n C.1 C.2.1 dL_law_1049 rfl (lv_at hl 1 rfl) ?_
  refine lv_iload C.1 C.2.1 dL_law_1050 (lv_at hl 0 rfl) ?_
  refine lv_iconst (v := 2) C.1 C.2.1 dL_law_1052 (by decide) ?_
  refine lv_iadd C.1 C.2.1 dL_law_1053 ?_
  refine va_sld C.1 C.2.1 hX hbl hbA hS (lw_ix 2 ex4 hi6 (by decide) hL) dL_law_1054 ?_
  refine lv_aload_n C.1 C.2.1 dL_law_1055 rfl (lv_at hl 1 rfl) ?_
  refine lv_iload C.1 C.2.1 dL_law_1056 (lv_at hl 0 rfl) ?_
  refine lv_iconst (v := 3) C.1 C.2.1 dL_law_1058 (by decide) ?_
  refine lv_iadd C.1 C.2.1 dL_law_1059 ?_
  refine va_sld C.1 C.2.1 hX hbl hbA hS (lw_ix 3 ex4 hi6 (by decide) hL) dL_law_1060 ?_
  have hw := h19 X Y (xs ((x4 + 1 : Int32)).toNatClampNeg) (xs ((x4 + 2 : Int32)).toNatClampNeg) (xs ((x4 + 3 : Int32)).toNatClampNeg) hR
  refine goLaw (wf := xw g) (runVg (w := xw g X) (As := [.int (xs ((x4 + 1 : Int32)).toNatClampNeg), .int (xs ((x4 + 2 : Int32)).toNatClampNeg), .int (xs ((x4 + 3 : Int32)).toNatClampNeg)]) (rest := []) C lkL_107 (c_X10_tune l g C.2.2.2.2.2.2.2.2.2.2 (xs ((x4 + 1 : Int32)).toNatClampNeg) (xs ((x4 + 2 : Int32)).toNatClampNeg) (xs ((x4 + 3 : Int32)).toNatClampNeg) X _ hw) hP (SX hS hAd) rfl rfl ⟨Nat.le_of_ble_eq_true rfl, Nat.le_of_ble_eq_true rfl⟩ (xx_0 Nat.zero_lt_one) rfl rfl hl.1 rfl (Nat.le_of_ble_eq_true rfl) dL_law_1061 hcs) hAd hS hO hoA hPy (yx_apart C.2.2.2.2.2.2.2.2.2.2 Y) (fun r X1 hw H locs hP hS hO hPy => ?_)
  refine lv_aload_n C.1 C.2.1 dL_law_1064 rfl (lv_at hl 3 rfl) ?_
  refine lv_aload_n C.1 C.2.1 dL_law_1065 rfl (lv_at hl 1 rfl) ?_
  refine lv_iload C.1 C.2.1 dL_law_1066 (lv_at hl 0 rfl) ?_
  refine lv_iconst (v := 1) C.1 C.2.1 dL_law_1068 (by decide) ?_
  refine lv_iadd C.1 C.2.1 dL_law_1069 ?_
  refine va_sld C.1 C.2.1 hX hbl hbA hS (lw_ix 1 ex4 hi6 (by decide) hL) dL_law_1070 ?_
  refine lv_aload_n C.1 C.2.1 dL_law_1071 rfl (lv_at hl 1 rfl) ?_
  refine lv_iload C.1 C.2.1 dL_law_1072 (lv_at hl 0 rfl) ?_
  refine lv_iconst (v := 2) C.1 C.2.1 dL_law_1074 (by decide) ?_
  refine lv_iadd C.1 C.2.1 dL_law_1075 ?_
  refine va_sld C.1 C.2.1 hX hbl hbA hS (lw_ix 2 ex4 hi6 (by decide) hL) dL_law_1076 ?_
  refine lv_aload_n C.1 C.2.1 dL_law_1077 rfl (lv_at hl 1 rfl) ?_
  refine lv_iload C.1 C.2.1 dL_law_1078 (lv_at hl 0 rfl) ?_
  refine lv_iconst (v := 3) C.1 C.2.1 dL_law_1080 (by decide) ?_
  refine lv_iadd C.1 C.2.1 dL_law_1081 ?_
  refine va_sld C.1 C.2.1 hX hbl hbA hS (lw_ix 3 ex4 hi6 (by decide) hL) dL_law_1082 ?_
  refine goLaw (wf := yw g) (runVg (w := yw g Y) (As := [.int (xs ((x4 + 1 : Int32)).toNatClampNeg), .int (xs ((x4 + 2 : Int32)).toNatClampNeg), .int (xs ((x4 + 3 : Int32)).toNatClampNeg)]) (rest := [.int r]) C lkL_110 (c_X11_tune l g C.2.2.2.2.2.2.2.2.2.2 (xs ((x4 + 1 : Int32)).toNatClampNeg) (xs ((x4 + 2 : Int32)).toNatClampNeg) (xs ((x4 + 3 : Int32)).toNatClampNeg) Y _ hw) hPy (SX hS hAd) rfl rfl ⟨Nat.le_of_ble_eq_true rfl, Nat.le_of_ble_eq_true rfl⟩ (xx_40 Nat.zero_lt_one) rfl rfl hl.1 rfl (Nat.le_of_ble_eq_true rfl) dL_law_1083 hcs) hAd hS hO hoA hP (xy_apart C.2.2.2.2.2.2.2.2.2.2 X1) (fun r1 Y1 hw H locs hPy hS hO hP => ?_)
  refine lv_icmp_eq (tgt := 1701) C.1 C.2.1 dL_law_1086 (by decide) (fun _ => ?_) (fun hn => absurd hw.1 hn)
  exact kk X1 Y1 _ _ _ hw.2 hP hPy hO hS hl
set_option maxRecDepth 100000 in
set_option maxHeartbeats 4000000 in
theorem lw_case_20 {p : Program} {l : Launch} {e : Env} {s : State} {m : MethodId} {below : List Frame} {meth : Method} {c : Code} {g : Geo} {b L o : Nat} {xs : Nat → Int32} (hL : L ≤ 3072) (C : CX g p s m #[Value.ref b] meth c cL_law 7 ret RL) (hX : va_X b L xs s s.heap) (hbl : b < s.heap.size) (hAd : ∀ i, i < NN → s.heap.size ≤ g.2.1 i) (hoA : ¬ AX g o) (Rel : Mem → Mem → Prop) (h20 : ∀ (X Y : Mem) (a1 a2 : Int32), Rel X Y → p_X10_lock a1 a2 X (fun r X1 => p_X11_lock a1 a2 Y (fun r1 Y1 => r = r1 ∧ Rel X1 Y1))) (X Y : Mem) (hR : Rel X Y) {x4 : Int32} {i : Nat} (ex4 : x4 = nI i) (hi6 : i + 6 ≤ L) {cells slots : Nat} (hcs : cells + 0 ≤ room_1.cells ∧ slots + 0 ≤ room_1.slots) {H : Heap} {locs : List Loc} {ls : Array Slot} (hP : va_P g.1 clz (xw g X) H) (hPy : va_P g.1 clz (yw g Y) H) (hO : OUT g o H) (hS : va_S (fun q => s.heap.size ≤ q) s.heap H locs) (hl : lv_has ls 7 [(4, .int x4), (0, .ref b), (1, .ref (g.2.1 (0 + 0))), (2, .ref (g.2.1 (138 + 0))), (3, .ref o)]) (kk : ∀ (X1 Y1 : Mem) (H : Heap) (locs : List Loc) (ls : Array Slot), Rel X1 Y1 → va_P g.1 clz (xw g X1) H → va_P g.1 clz (yw g Y1) H → OUT g o H → va_S (fun q => s.heap.size ≤ q) s.heap H locs → lv_has ls 7 [(4, .int x4), (0, .ref b), (1, .ref (g.2.1 (0 + 0))), (2, .ref (g.2.1 (138 + 0))), (3, .ref o)] → W p l e room_1 s m #[Value.ref b] below meth c H locs cells slots (lw_Z below #[Value.ref b] s) (F0 m 1701 ls [])) : W p l e room_1 s m #[Value.ref b] below meth c H locs cells slots (lw_Z below #[Value.ref b] s) (F0 m 1091 ls []) := by
  have hbA : ¬ (fun q : Nat => s.heap.size ≤ q) b := Nat.not_le.mpr hbl
  refine lv_aload_n C.1 C.2.1 dL_law_1091 rfl (lv_at hl 2 rfl) ?_
  refine lv_aload_n C.1 C.2.1 dL_law_1092 rfl (lv_at hl 1 rfl) ?_
  refine lv_iload C.1 C.2.1 dL_law_1093 (lv_at hl 0 rfl) ?_
  refine lv_iconst (v := 1) C.1 C.2.1 dL_law_1095 (by decide) ?_
  refine lv_iadd C.1 C.2.1 dL_law_1096 ?_
  refine va_sld C.1 C.2.1 hX hbl hbA hS (lw_ix 1 ex4 hi6 (by decide) hL) dL_law_1097 ?_
  refine lv_aload_n C.1 C.2.1 dL_law_1098 rfl (lv_at hl 1 rfl) ?_
  refine lv_iload C.1 C.2.1 dL_law_1099 (lv_at hl 0 rfl) ?_
  refine lv_iconst (v := 2) C.1 C.2.1 dL_law_1101 (by decide) ?_
  refine lv_iadd C.1 C.2.1 dL_law_1102 ?_
  refine va_sld C.1 C.2.1 hX hbl hbA hS (lw_ix 2 ex4 hi6 (by decide) hL) dL_law_1103 ?_
  have hw := h20 X Y (xs ((x4 + 1 : Int32)).toNatClampNeg) (xs ((x4 + 2 : Int32)).toNatClampNeg) hR
  refine goLaw (wf := xw g) (runVg (w := xw g X) (As := [.int (xs ((x4 + 1 : Int32)).toNatClampNeg), .int (xs ((x4 + 2 : Int32)).toNatClampNeg)]) (rest := []) C lkL_111 (c_X10_lock l g C.2.2.2.2.2.2.2.2.2.2 (xs ((x4 + 1 : Int32)).toNatClampNeg) (xs ((x4 + 2 : Int32)).toNatClampNeg) X _ hw) hP (SX hS hAd) rfl rfl ⟨Nat.le_of_ble_eq_true rfl, Nat.le_of_ble_eq_true rfl⟩ (xx_0 Nat.zero_lt_one) rfl rfl hl.1 rfl (Nat.le_of_ble_eq_true rfl) dL_law_1104 hcs) hAd hS hO hoA hPy (yx_apart C.2.2.2.2.2.2.2.2.2.2 Y) (fun r X1 hw H locs hP hS hO hPy => ?_)
  refine lv_aload_n C.1 C.2.1 dL_law_1107 rfl (lv_at hl 3 rfl) ?_
  refine lv_aload_n C.1 C.2.1 dL_law_1108 rfl (lv_at hl 1 rfl) ?_
  refine lv_iload C.1 C.2.1 dL_law_1109 (lv_at hl 0 rfl) ?_
  refine lv_iconst (v := 1) C.1 C.2.1 dL_law_1111 (by decide) ?_
  refine lv_iadd C.1 C.2.1 dL_law_1112 ?_
  refine va_sld C.1 C.2.1 hX hbl hbA hS (lw_ix 1 ex4 hi6 (by decide) hL) dL_law_1113 ?_
  refine lv_aload_n C.1 C.2.1 dL_law_1114 rfl (lv_at hl 1 rfl) ?_
  refine lv_iload C.1 C.2.1 dL_law_1115 (lv_at hl 0 rfl) ?_
  refine lv_iconst (v := 2) C.1 C.2.1 dL_law_1117 (by decide) ?_
  refine lv_iadd C.1 C.2.1 dL_law_1118 ?_
  refine va_sld C.1 C.2.1 hX hbl hbA hS (lw_ix 2 ex4 hi6 (by decide) hL) dL_law_1119 ?_
  refine goLaw (wf := yw g) (runVg (w := yw g Y) (As := [.int (xs ((x4 + 1 : Int32)).toNatClampNeg), .int (xs ((x4 + 2 : Int32)).toNatClampNeg)]) (rest := [.int r]) C lkL_114 (c_X11_lock l g C.2.2.2.2.2.2.2.2.2.2 (xs ((x4 + 1 : Int32)).toNatClampNeg) (xs ((x4 + 2 : Int32)).toNatClampNeg) Y _ hw) hPy (SX hS hAd) rfl rfl ⟨Nat.le_of_ble_eq_true rfl, Nat.le_of_ble_eq_true rfl⟩ (xx_40 Nat.zero_lt_one) rfl rfl hl.1 rfl (Nat.le_of_ble_eq_true rfl) dL_law_1120 hcs) hAd hS hO hoA hP (xy_apart C.2.2.2.2.2.2.2.2.2.2 X1) (fun r1 Y1 hw H locs hPy hS hO hP => ?_)
  refine lv_icmp_eq (tgt := 1701) C.1 C.2.1 dL_law_1123 (by decide) (fun _ => ?_) (fun hn => absurd hw.1 hn)
  exact kk X1 Y1 _ _ _ hw.2 hP hPy hO hS hl
set_option maxRecDepth 100000 in
set_option maxHeartbeats 4000000 in
theorem lw_case_21 {p : Program} {l : Launch} {e : Env} {s : State} {m : MethodId} {below : List Frame} {meth : Method} {c : Code} {g : Geo} {b L o : Nat} {xs : Nat → Int32} (hL : L ≤ 3072) (C : CX g p s m #[Value.ref b] meth c cL_law 7 ret RL) (hX : va_X b L xs s s.heap) (hbl : b < s.heap.size) (hAd : ∀ i, i < NN → s.heap.size ≤ g.2.1 i) (hoA : ¬ AX g o) (Rel : Mem → Mem → Prop) (h21 : ∀ (X Y : Mem), Rel X Y → p_X10_drop  X (fun r X1 => p_X11_drop  Y (fun r1 Y1 => r = r1 ∧ Rel X1 Y1))) (X Y : Mem) (hR : Rel X Y) {x4 : Int32} {i : Nat} (ex4 : x4 = nI i) (hi6 : i + 6 ≤ L) {cells slots : Nat} (hcs : cells + 0 ≤ room_1.cells ∧ slots + 0 ≤ room_1.slots) {H : Heap} {locs : List Loc} {ls : Array Slot} (hP : va_P g.1 clz (xw g X) H) (hPy : va_P g.1 clz (yw g Y) H) (hO : OUT g o H) (hS : va_S (fun q => s.heap.size ≤ q) s.heap H locs) (hl : lv_has ls 7 [(4, .int x4), (0, .ref b), (1, .ref (g.2.1 (0 + 0))), (2, .ref (g.2.1 (138 + 0))), (3, .ref o)]) (kk : ∀ (X1 Y1 : Mem) (H : Heap) (locs : List Loc) (ls : Array Slot), Rel X1 Y1 → va_P g.1 clz (xw g X1) H → va_P g.1 clz (yw g Y1) H → OUT g o H → va_S (fun q => s.heap.size ≤ q) s.heap H locs → lv_has ls 7 [(4, .int x4), (0, .ref b), (1, .ref (g.2.1 (0 + 0))), (2, .ref (g.2.1 (138 + 0))), (3, .ref o)] → W p l e room_1 s m #[Value.ref b] below meth c H locs cells slots (lw_Z below #[Value.ref b] s) (F0 m 1701 ls [])) : W p l e room_1 s m #[Value.ref b] below meth c H locs cells slots (lw_Z below #[Value.ref b] s) (F0 m 1128 ls []) := by
  have hbA : ¬ (fun q : Nat => s.heap.size ≤ q) b := Nat.not_le.mpr hbl
  refine lv_aload_n C.1 C.2.1 dL_law_1128 rfl (lv_at hl 2 rfl) ?_
  have hw := h21 X Y  hR
  refine goLaw (wf := xw g) (runVg (w := xw g X) (As := []) (rest := []) C lkL_115 (c_X10_drop l g C.2.2.2.2.2.2.2.2.2.2  X _ hw) hP (SX hS hAd) rfl rfl ⟨Nat.le_of_ble_eq_true rfl, Nat.le_of_ble_eq_true rfl⟩ (xx_0 Nat.zero_lt_one) rfl rfl hl.1 rfl (Nat.le_of_ble_eq_true rfl) dL_law_1129 hcs) hAd hS hO hoA hPy (yx_apart C.2.2.2.2.2.2.2.2.2.2 Y) (fun r X1 hw H locs hP hS hO hPy => ?_)
  refine lv_aload_n C.1 C.2.1 dL_law_1132 rfl (lv_at hl 3 rfl) ?_
  refine goLaw (wf := yw g) (runVg (w := yw g Y) (As := []) (rest := [.int r]) C lkL_118 (c_X11_drop l g C.2.2.2.2.2.2.2.2.2.2  Y _ hw) hPy (SX hS hAd) rfl rfl ⟨Nat.le_of_ble_eq_true rfl, Nat.le_of_ble_eq_true rfl⟩ (xx_40 Nat.zero_lt_one) rfl rfl hl.1 rfl (Nat.le_of_ble_eq_true rfl) dL_law_1133 hcs) hAd hS hO hoA hP (xy_apart C.2.2.2.2.2.2.2.2.2.2 X1) (fun r1 Y1 hw H locs hPy hS hO hP => ?_)
  refine lv_icmp_eq (tgt := 1701) C.1 C.2.1 dL_law_1136 (by decide) (fun _ => ?_) (fun hn => absurd hw.1 hn)
  exact kk X1 Y1 _ _ _ hw.2 hP hPy hO hS hl
set_option maxRecDepth 100000 in
set_option maxHeartbeats 4000000 in
theorem lw_case_22 {p : Program} {l : Launch} {e : Env} {s : State} {m : MethodId} {below : List Frame} {meth : Method} {c : Code} {g : Geo} {b L o : Nat} {xs : Nat → Int32} (hL : L ≤ 3072) (C : CX g p s m #[Value.ref b] meth c cL_law 7 ret RL) (hX : va_X b L xs s s.heap) (hbl : b < s.heap.size) (hAd : ∀ i, i < NN → s.heap.size ≤ g.2.1 i) (hoA : ¬ AX g o) (Rel : Mem → Mem → Prop) (h22 : ∀ (X Y : Mem) (a1 : Int32), Rel X Y → p_X10_follow a1 X (fun r X1 => p_X11_follow a1 Y (fun r1 Y1 => r = r1 ∧ Rel X1 Y1))) (X Y : Mem) (hR : Rel X Y) {x4 : Int32} {i : Nat} (ex4 : x4 = nI i) (hi6 : i + 6 ≤ L) {cells slots : Nat} (hcs : cells + 0 ≤ room_1.cells ∧ slots + 0 ≤ room_1.slots) {H : Heap} {locs : List Loc} {ls : Array Slot} (hP : va_P g.1 clz (xw g X) H) (hPy : va_P g.1 clz (yw g Y) H) (hO : OUT g o H) (hS : va_S (fun q => s.heap.size ≤ q) s.heap H locs) (hl : lv_has ls 7 [(4, .int x4), (0, .ref b), (1, .ref (g.2.1 (0 + 0))), (2, .ref (g.2.1 (138 + 0))), (3, .ref o)]) (kk : ∀ (X1 Y1 : Mem) (H : Heap) (locs : List Loc) (ls : Array Slot), Rel X1 Y1 → va_P g.1 clz (xw g X1) H → va_P g.1 clz (yw g Y1) H → OUT g o H → va_S (fun q => s.heap.size ≤ q) s.heap H locs → lv_has ls 7 [(4, .int x4), (0, .ref b), (1, .ref (g.2.1 (0 + 0))), (2, .ref (g.2.1 (138 + 0))), (3, .ref o)] → W p l e room_1 s m #[Value.ref b] below meth c H locs cells slots (lw_Z below #[Value.ref b] s) (F0 m 1701 ls [])) : W p l e room_1 s m #[Value.ref b] below meth c H locs cells slots (lw_Z below #[Value.ref b] s) (F0 m 1141 ls []) := by
  have hbA : ¬ (fun q : Nat => s.heap.size ≤ q) b := Nat.not_le.mpr hbl
  refine lv_aload_n C.1 C.2.1 dL_law_1141 rfl (lv_at hl 2 rfl) ?_
  refine lv_aload_n C.1 C.2.1 dL_law_1142 rfl (lv_at hl 1 rfl) ?_
  refine lv_iload C.1 C.2.1 dL_law_1143 (lv_at hl 0 rfl) ?_
  refine lv_iconst (v := 1) C.1 C.2.1 dL_law_1145 (by decide) ?_
  refine lv_iadd C.1 C.2.1 dL_law_1146 ?_
  refine va_sld C.1 C.2.1 hX hbl hbA hS (lw_ix 1 ex4 hi6 (by decide) hL) dL_law_1147 ?_
  have hw := h22 X Y (xs ((x4 + 1 : Int32)).toNatClampNeg) hR
  refine goLaw (wf := xw g) (runVg (w := xw g X) (As := [.int (xs ((x4 + 1 : Int32)).toNatClampNeg)]) (rest := []) C lkL_119 (c_X10_follow l g C.2.2.2.2.2.2.2.2.2.2 (xs ((x4 + 1 : Int32)).toNatClampNeg) X _ hw) hP (SX hS hAd) rfl rfl ⟨Nat.le_of_ble_eq_true rfl, Nat.le_of_ble_eq_true rfl⟩ (xx_0 Nat.zero_lt_one) rfl rfl hl.1 rfl (Nat.le_of_ble_eq_true rfl) dL_law_1148 hcs) hAd hS hO hoA hPy (yx_apart C.2.2.2.2.2.2.2.2.2.2 Y) (fun r X1 hw H locs hP hS hO hPy => ?_)
  refine lv_aload_n C.1 C.2.1 dL_law_1151 rfl (lv_at hl 3 rfl) ?_
  refine lv_aload_n C.1 C.2.1 dL_law_1152 rfl (lv_at hl 1 rfl) ?_
  refine lv_iload C.1 C.2.1 dL_law_1153 (lv_at hl 0 rfl) ?_
  refine lv_iconst (v := 1) C.1 C.2.1 dL_law_1155 (by decide) ?_
  refine lv_iadd C.1 C.2.1 dL_law_1156 ?_
  refine va_sld C.1 C.2.1 hX hbl hbA hS (lw_ix 1 ex4 hi6 (by decide) hL) dL_law_1157 ?_
  refine goLaw (wf := yw g) (runVg (w := yw g Y) (As := [.int (xs ((x4 + 1 : Int32)).toNatClampNeg)]) (rest := [.int r]) C lkL_122 (c_X11_follow l g C.2.2.2.2.2.2.2.2.2.2 (xs ((x4 + 1 : Int32)).toNatClampNeg) Y _ hw) hPy (SX hS hAd) rfl rfl ⟨Nat.le_of_ble_eq_true rfl, Nat.le_of_ble_eq_true rfl⟩ (xx_40 Nat.zero_lt_one) rfl rfl hl.1 rfl (Nat.le_of_ble_eq_true rfl) dL_law_1158 hcs) hAd hS hO hoA hP (xy_apart C.2.2.2.2.2.2.2.2.2.2 X1) (fun r1 Y1 hw H locs hPy hS hO hP => ?_)
  refine lv_icmp_eq (tgt := 1701) C.1 C.2.1 dL_law_1161 (by decide) (fun _ => ?_) (fun hn => absurd hw.1 hn)
  exact kk X1 Y1 _ _ _ hw.2 hP hPy hO hS hl
set_option maxRecDepth 100000 in
set_option maxHeartbeats 4000000 in
theorem lw_case_23 {p : Program} {l : Launch} {e : Env} {s : State} {m : MethodId} {below : List Frame} {meth : Method} {c : Code} {g : Geo} {b L o : Nat} {xs : Nat → Int32} (hL : L ≤ 3072) (C : CX g p s m #[Value.ref b] meth c cL_law 7 ret RL) (hX : va_X b L xs s s.heap) (hbl : b < s.heap.size) (hAd : ∀ i, i < NN → s.heap.size ≤ g.2.1 i) (hoA : ¬ AX g o) (Rel : Mem → Mem → Prop) (h23 : ∀ (X Y : Mem) (a1 a2 : Int32), Rel X Y → p_X10_channel a1 a2 X (fun r X1 => p_X11_channel a1 a2 Y (fun r1 Y1 => r = r1 ∧ Rel X1 Y1))) (X Y : Mem) (hR : Rel X Y) {x4 : Int32} {i : Nat} (ex4 : x4 = nI i) (hi6 : i + 6 ≤ L) {cells slots : Nat} (hcs : cells + 0 ≤ room_1.cells ∧ slots + 0 ≤ room_1.slots) {H : Heap} {locs : List Loc} {ls : Array Slot} (hP : va_P g.1 clz (xw g X) H) (hPy : va_P g.1 clz (yw g Y) H) (hO : OUT g o H) (hS : va_S (fun q => s.heap.size ≤ q) s.heap H locs) (hl : lv_has ls 7 [(4, .int x4), (0, .ref b), (1, .ref (g.2.1 (0 + 0))), (2, .ref (g.2.1 (138 + 0))), (3, .ref o)]) (kk : ∀ (X1 Y1 : Mem) (H : Heap) (locs : List Loc) (ls : Array Slot), Rel X1 Y1 → va_P g.1 clz (xw g X1) H → va_P g.1 clz (yw g Y1) H → OUT g o H → va_S (fun q => s.heap.size ≤ q) s.heap H locs → lv_has ls 7 [(4, .int x4), (0, .ref b), (1, .ref (g.2.1 (0 + 0))), (2, .ref (g.2.1 (138 + 0))), (3, .ref o)] → W p l e room_1 s m #[Value.ref b] below meth c H locs cells slots (lw_Z below #[Value.ref b] s) (F0 m 1701 ls [])) : W p l e room_1 s m #[Value.ref b] below meth c H locs cells slots (lw_Z below #[Value.ref b] s) (F0 m 1166 ls []) := by
  have hbA : ¬ (fun q : Nat => s.heap.size ≤ q) b := Nat.not_le.mpr hbl
  refine lv_aload_n C.1 C.2.1 dL_law_1166 rfl (lv_at hl 2 rfl) ?_
  refine lv_aload_n C.1 C.2.1 dL_law_1167 rfl (lv_at hl 1 rfl) ?_
  refine lv_iload C.1 C.2.1 dL_law_1168 (lv_at hl 0 rfl) ?_
  refine lv_iconst (v := 1) C.1 C.2.1 dL_law_1170 (by decide) ?_
  refine lv_iadd C.1 C.2.1 dL_law_1171 ?_
  refine va_sld C.1 C.2.1 hX hbl hbA hS (lw_ix 1 ex4 hi6 (by decide) hL) dL_law_1172 ?_
  refine lv_aload_n C.1 C.2.1 dL_law_1173 rfl (lv_at hl 1 rfl) ?_
  refine lv_iload C.1 C.2.1 dL_law_1174 (lv_at hl 0 rfl) ?_
  refine lv_iconst (v := 2) C.1 C.2.1 dL_law_1176 (by decide) ?_
  refine lv_iadd C.1 C.2.1 dL_law_1177 ?_
  refine va_sld C.1 C.2.1 hX hbl hbA hS (lw_ix 2 ex4 hi6 (by decide) hL) dL_law_1178 ?_
  have hw := h23 X Y (xs ((x4 + 1 : Int32)).toNatClampNeg) (xs ((x4 + 2 : Int32)).toNatClampNeg) hR
  refine goLaw (wf := xw g) (runVg (w := xw g X) (As := [.int (xs ((x4 + 1 : Int32)).toNatClampNeg), .int (xs ((x4 + 2 : Int32)).toNatClampNeg)]) (rest := []) C lkL_123 (c_X10_channel l g C.2.2.2.2.2.2.2.2.2.2 (xs ((x4 + 1 : Int32)).toNatClampNeg) (xs ((x4 + 2 : Int32)).toNatClampNeg) X _ hw) hP (SX hS hAd) rfl rfl ⟨Nat.le_of_ble_eq_true rfl, Nat.le_of_ble_eq_true rfl⟩ (xx_0 Nat.zero_lt_one) rfl rfl hl.1 rfl (Nat.le_of_ble_eq_true rfl) dL_law_1179 hcs) hAd hS hO hoA hPy (yx_apart C.2.2.2.2.2.2.2.2.2.2 Y) (fun r X1 hw H locs hP hS hO hPy => ?_)
  refine lv_aload_n C.1 C.2.1 dL_law_1182 rfl (lv_at hl 3 rfl) ?_
  refine lv_aload_n C.1 C.2.1 dL_law_1183 rfl (lv_at hl 1 rfl) ?_
  refine lv_iload C.1 C.2.1 dL_law_1184 (lv_at hl 0 rfl) ?_
  refine lv_iconst (v := 1) C.1 C.2.1 dL_law_1186 (by decide) ?_
  refine lv_iadd C.1 C.2.1 dL_law_1187 ?_
  refine va_sld C.1 C.2.1 hX hbl hbA hS (lw_ix 1 ex4 hi6 (by decide) hL) dL_law_1188 ?_
  refine lv_aload_n C.1 C.2.1 dL_law_1189 rfl (lv_at hl 1 rfl) ?_
  refine lv_iload C.1 C.2.1 dL_law_1190 (lv_at hl 0 rfl) ?_
  refine lv_iconst (v := 2) C.1 C.2.1 dL_law_1192 (by decide) ?_
  refine lv_iadd C.1 C.2.1 dL_law_1193 ?_
  refine va_sld C.1 C.2.1 hX hbl hbA hS (lw_ix 2 ex4 hi6 (by decide) hL) dL_law_1194 ?_
  refine goLaw (wf := yw g) (runVg (w := yw g Y) (As := [.int (xs ((x4 + 1 : Int32)).toNatClampNeg), .int (xs ((x4 + 2 : Int32)).toNatClampNeg)]) (rest := [.int r]) C lkL_126 (c_X11_channel l g C.2.2.2.2.2.2.2.2.2.2 (xs ((x4 + 1 : Int32)).toNatClampNeg) (xs ((x4 + 2 : Int32)).toNatClampNeg) Y _ hw) hPy (SX hS hAd) rfl rfl ⟨Nat.le_of_ble_eq_true rfl, Nat.le_of_ble_eq_true rfl⟩ (xx_40 Nat.zero_lt_one) rfl rfl hl.1 rfl (Nat.le_of_ble_eq_true rfl) dL_law_1195 hcs) hAd hS hO hoA hP (xy_apart C.2.2.2.2.2.2.2.2.2.2 X1) (fun r1 Y1 hw H locs hPy hS hO hP => ?_)
  refine lv_icmp_eq (tgt := 1701) C.1 C.2.1 dL_law_1198 (by decide) (fun _ => ?_) (fun hn => absurd hw.1 hn)
  exact kk X1 Y1 _ _ _ hw.2 hP hPy hO hS hl
set_option maxRecDepth 100000 in
set_option maxHeartbeats 4000000 in
theorem lw_case_24 {p : Program} {l : Launch} {e : Env} {s : State} {m : MethodId} {below : List Frame} {meth : Method} {c : Code} {g : Geo} {b L o : Nat} {xs : Nat → Int32} (hL : L ≤ 3072) (C : CX g p s m #[Value.ref b] meth c cL_law 7 ret RL) (hX : va_X b L xs s s.heap) (hbl : b < s.heap.size) (hAd : ∀ i, i < NN → s.heap.size ≤ g.2.1 i) (hoA : ¬ AX g o) (Rel : Mem → Mem → Prop) (h24 : ∀ (X Y : Mem) (a1 a2 : Int32), Rel X Y → p_X10_logged a1 a2 X (fun r X1 => p_X11_logged a1 a2 Y (fun r1 Y1 => r = r1 ∧ Rel X1 Y1))) (X Y : Mem) (hR : Rel X Y) {x4 : Int32} {i : Nat} (ex4 : x4 = nI i) (hi6 : i + 6 ≤ L) {cells slots : Nat} (hcs : cells + 0 ≤ room_1.cells ∧ slots + 0 ≤ room_1.slots) {H : Heap} {locs : List Loc} {ls : Array Slot} (hP : va_P g.1 clz (xw g X) H) (hPy : va_P g.1 clz (yw g Y) H) (hO : OUT g o H) (hS : va_S (fun q => s.heap.size ≤ q) s.heap H locs) (hl : lv_has ls 7 [(4, .int x4), (0, .ref b), (1, .ref (g.2.1 (0 + 0))), (2, .ref (g.2.1 (138 + 0))), (3, .ref o)]) (kk : ∀ (X1 Y1 : Mem) (H : Heap) (locs : List Loc) (ls : Array Slot), Rel X1 Y1 → va_P g.1 clz (xw g X1) H → va_P g.1 clz (yw g Y1) H → OUT g o H → va_S (fun q => s.heap.size ≤ q) s.heap H locs → lv_has ls 7 [(4, .int x4), (0, .ref b), (1, .ref (g.2.1 (0 + 0))), (2, .ref (g.2.1 (138 + 0))), (3, .ref o)] → W p l e room_1 s m #[Value.ref b] below meth c H locs cells slots (lw_Z below #[Value.ref b] s) (F0 m 1701 ls [])) : W p l e room_1 s m #[Value.ref b] below meth c H locs cells slots (lw_Z below #[Value.ref b] s) (F0 m 1203 ls []) := by
  have hbA : ¬ (fun q : Nat => s.heap.size ≤ q) b := Nat.not_le.mpr hbl
  refine lv_aload_n C.1 C.2.1 dL_law_1203 rfl (lv_at hl 2 rfl) ?_
  refine lv_aload_n C.1 C.2.1 dL_law_1204 rfl (lv_at hl 1 rfl) ?_
  refine lv_iload C.1 C.2.1 dL_law_1205 (lv_at hl 0 rfl) ?_
  refine lv_iconst (v := 1) C.1 C.2.1 dL_law_1207 (by decide) ?_
  refine lv_iadd C.1 C.2.1 dL_law_1208 ?_
  refine va_sld C.1 C.2.1 hX hbl hbA hS (lw_ix 1 ex4 hi6 (by decide) hL) dL_law_1209 ?_
  refine lv_aload_n C.1 C.2.1 dL_law_1210 rfl (lv_at hl 1 rfl) ?_
  refine lv_iload C.1 C.2.1 dL_law_1211 (lv_at hl 0 rfl) ?_
  refine lv_iconst (v := 2) C.1 C.2.1 dL_law_1213 (by decide) ?_
  refine lv_iadd C.1 C.2.1 dL_law_1214 ?_
  refine va_sld C.1 C.2.1 hX hbl hbA hS (lw_ix 2 ex4 hi6 (by decide) hL) dL_law_1215 ?_
  have hw := h24 X Y (xs ((x4 + 1 : Int32)).toNatClampNeg) (xs ((x4 + 2 : Int32)).toNatClampNeg) hR
  refine goLaw (wf := xw g) (runVg (w := xw g X) (As := [.int (xs ((x4 + 1 : Int32)).toNatClampNeg), .int (xs ((x4 + 2 : Int32)).toNatClampNeg)]) (rest := []) C lkL_127 (c_X10_logged l g C.2.2.2.2.2.2.2.2.2.2 (xs ((x4 + 1 : Int32)).toNatClampNeg) (xs ((x4 + 2 : Int32)).toNatClampNeg) X _ hw) hP (SX hS hAd) rfl rfl ⟨Nat.le_of_ble_eq_true rfl, Nat.le_of_ble_eq_true rfl⟩ (xx_0 Nat.zero_lt_one) rfl rfl hl.1 rfl (Nat.le_of_ble_eq_true rfl) dL_law_1216 hcs) hAd hS hO hoA hPy (yx_apart C.2.2.2.2.2.2.2.2.2.2 Y) (fun r X1 hw H locs hP hS hO hPy => ?_)
  refine lv_aload_n C.1 C.2.1 dL_law_1219 rfl (lv_at hl 3 rfl) ?_
  refine lv_aload_n C.1 C.2.1 dL_law_1220 rfl (lv_at hl 1 rfl) ?_
  refine lv_iload C.1 C.2.1 dL_law_1221 (lv_at hl 0 rfl) ?_
  refine lv_iconst (v := 1) C.1 C.2.1 dL_law_1223 (by decide) ?_
  refine lv_iadd C.1 C.2.1 dL_law_1224 ?_
  refine va_sld C.1 C.2.1 hX hbl hbA hS (lw_ix 1 ex4 hi6 (by decide) hL) dL_law_1225 ?_
  refine lv_aload_n C.1 C.2.1 dL_law_1226 rfl (lv_at hl 1 rfl) ?_
  refine lv_iload C.1 C.2.1 dL_law_1227 (lv_at hl 0 rfl) ?_
  refine lv_iconst (v := 2) C.1 C.2.1 dL_law_1229 (by decide) ?_
  refine lv_iadd C.1 C.2.1 dL_law_1230 ?_
  refine va_sld C.1 C.2.1 hX hbl hbA hS (lw_ix 2 ex4 hi6 (by decide) hL) dL_law_1231 ?_
  refine goLaw (wf := yw g) (runVg (w := yw g Y) (As := [.int (xs ((x4 + 1 : Int32)).toNatClampNeg), .int (xs ((x4 + 2 : Int32)).toNatClampNeg)]) (rest := [.int r]) C lkL_130 (c_X11_logged l g C.2.2.2.2.2.2.2.2.2.2 (xs ((x4 + 1 : Int32)).toNatClampNeg) (xs ((x4 + 2 : Int32)).toNatClampNeg) Y _ hw) hPy (SX hS hAd) rfl rfl ⟨Nat.le_of_ble_eq_true rfl, Nat.le_of_ble_eq_true rfl⟩ (xx_40 Nat.zero_lt_one) rfl rfl hl.1 rfl (Nat.le_of_ble_eq_true rfl) dL_law_1232 hcs) hAd hS hO hoA hP (xy_apart C.2.2.2.2.2.2.2.2.2.2 X1) (fun r1 Y1 hw H locs hPy hS hO hP => ?_)
  refine lv_icmp_eq (tgt := 1701) C.1 C.2.1 dL_law_1235 (by decide) (fun _ => ?_) (fun hn => absurd hw.1 hn)
  exact kk X1 Y1 _ _ _ hw.2 hP hPy hO hS hl
set_option maxRecDepth 100000 in
set_option maxHeartbeats 4000000 in
theorem lw_case_25 {p : Program} {l : Launch} {e : Env} {s : State} {m : MethodId} {below : List Frame} {meth : Method} {c : Code} {g : Geo} {b L o : Nat} {xs : Nat → Int32} (hL : L ≤ 3072) (C : CX g p s m #[Value.ref b] meth c cL_law 7 ret RL) (hX : va_X b L xs s s.heap) (hbl : b < s.heap.size) (hAd : ∀ i, i < NN → s.heap.size ≤ g.2.1 i) (hoA : ¬ AX g o) (Rel : Mem → Mem → Prop) (h25 : ∀ (X Y : Mem) (a1 a2 a3 : Int32), Rel X Y → p_X10_frame a1 a2 a3 X (fun r X1 => p_X11_frame a1 a2 a3 Y (fun r1 Y1 => r = r1 ∧ Rel X1 Y1))) (X Y : Mem) (hR : Rel X Y) {x4 : Int32} {i : Nat} (ex4 : x4 = nI i) (hi6 : i + 6 ≤ L) {cells slots : Nat} (hcs : cells + 0 ≤ room_1.cells ∧ slots + 0 ≤ room_1.slots) {H : Heap} {locs : List Loc} {ls : Array Slot} (hP : va_P g.1 clz (xw g X) H) (hPy : va_P g.1 clz (yw g Y) H) (hO : OUT g o H) (hS : va_S (fun q => s.heap.size ≤ q) s.heap H locs) (hl : lv_has ls 7 [(4, .int x4), (0, .ref b), (1, .ref (g.2.1 (0 + 0))), (2, .ref (g.2.1 (138 + 0))), (3, .ref o)]) (kk : ∀ (X1 Y1 : Mem) (H : Heap) (locs : List Loc) (ls : Array Slot), Rel X1 Y1 → va_P g.1 clz (xw g X1) H → va_P g.1 clz (yw g Y1) H → OUT g o H → va_S (fun q => s.heap.size ≤ q) s.heap H locs → lv_has ls 7 [(4, .int x4), (0, .ref b), (1, .ref (g.2.1 (0 + 0))), (2, .ref (g.2.1 (138 + 0))), (3, .ref o)] → W p l e room_1 s m #[Value.ref b] below meth c H locs cells slots (lw_Z below #[Value.ref b] s) (F0 m 1701 ls [])) : W p l e room_1 s m #[Value.ref b] below meth c H locs cells slots (lw_Z below #[Value.ref b] s) (F0 m 1240 ls []) := by
  have hbA : ¬ (fun q : Nat => s.heap.size ≤ q) b := Nat.not_le.mpr hbl
  refine lv_aload_n C.1 C.2.1 dL_law_1240 rfl (lv_at hl 2 rfl) ?_
  refine lv_aload_n C.1 C.2.1 dL_law_1241 rfl (lv_at hl 1 rfl) ?_
  refine lv_iload C.1 C.2.1 dL_law_1242 (lv_at hl 0 rfl) ?_
  refine lv_iconst (v := 1) C.1 C.2.1 dL_law_1244 (by decide) ?_
  refine lv_iadd C.1 C.2.1 dL_law_1245 ?_
  refine va_sld C.1 C.2.1 hX hbl hbA hS (lw_ix 1 ex4 hi6 (by decide) hL) dL_law_1246 ?_
  refine lv_aload_n C.1 C.2.1 dL_law_1247 rfl (lv_at hl 1 rfl) ?_
  refine lv_iload C.1 C.2.1 dL_law_1248 (lv_at hl 0 rfl) ?_
  refine lv_iconst (v := 2) C.1 C.2.1 dL_law_1250 (by decide) ?_
  refine lv_iadd C.1 C.2.1 dL_law_1251 ?_
  refine va_sld C.1 C.2.1 hX hbl hbA hS (lw_ix 2 ex4 hi6 (by decide) hL) dL_law_1252 ?_
  refine lv_aload_n C.1 C.2.1 dL_law_1253 rfl (lv_at hl 1 rfl) ?_
  refine lv_iload C.1 C.2.1 dL_law_1254 (lv_at hl 0 rfl) ?_
  refine lv_iconst (v := 3) C.1 C.2.1 dL_law_1256 (by decide) ?_
  refine lv_iadd C.1 C.2.1 dL_law_1257 ?_
  refine va_sld C.1 C.2.1 hX hbl hbA hS (lw_ix 3 ex4 hi6 (by decide) hL) dL_law_1258 ?_
  have hw := h25 X Y (xs ((x4 + 1 : Int32)).toNatClampNeg) (xs ((x4 + 2 : Int32)).toNatClampNeg) (xs ((x4 + 3 : Int32)).toNatClampNeg) hR
  refine goLaw (wf := xw g) (runVg (w := xw g X) (As := [.int (xs ((x4 + 1 : Int32)).toNatClampNeg), .int (xs ((x4 + 2 : Int32)).toNatClampNeg), .int (xs ((x4 + 3 : Int32)).toNatClampNeg)]) (rest := []) C lkL_131 (c_X10_frame l g C.2.2.2.2.2.2.2.2.2.2 (xs ((x4 + 1 : Int32)).toNatClampNeg) (xs ((x4 + 2 : Int32)).toNatClampNeg) (xs ((x4 + 3 : Int32)).toNatClampNeg) X _ hw) hP (SX hS hAd) rfl rfl ⟨Nat.le_of_ble_eq_true rfl, Nat.le_of_ble_eq_true rfl⟩ (xx_0 Nat.zero_lt_one) rfl rfl hl.1 rfl (Nat.le_of_ble_eq_true rfl) dL_law_1259 hcs) hAd hS hO hoA hPy (yx_apart C.2.2.2.2.2.2.2.2.2.2 Y) (fun r X1 hw H locs hP hS hO hPy => ?_)
  refine lv_aload_n C.1 C.2.1 dL_law_1262 rfl (lv_at hl 3 rfl) ?_
  refine lv_aload_n C.1 C.2.1 dL_law_1263 rfl (lv_at hl 1 rfl) ?_
  refine lv_iload C.1 C.2.1 dL_law_1264 (lv_at hl 0 rfl) ?_
  refine lv_iconst (v := 1) C.1 C.2.1 dL_law_1266 (by decide) ?_
  refine lv_iadd C.1 C.2.1 dL_law_1267 ?_
  refine va_sld C.1 C.2.1 hX hbl hbA hS (lw_ix 1 ex4 hi6 (by decide) hL) dL_law_1268 ?_
  refine lv_aload_n C.1 C.2.1 dL_law_1269 rfl (lv_at hl 1 rfl) ?_
  refine lv_iload C.1 C.2.1 dL_law_1270 (lv_at hl 0 rfl) ?_
  refine lv_iconst (v := 2) C.1 C.2.1 dL_law_1272 (by decide) ?_
  refine lv_iadd C.1 C.2.1 dL_law_1273 ?_
  refine va_sld C.1 C.2.1 hX hbl hbA hS (lw_ix 2 ex4 hi6 (by decide) hL) dL_law_1274 ?_
  refine lv_aload_n C.1 C.2.1 dL_law_1275 rfl (lv_at hl 1 rfl) ?_
  refine lv_iload C.1 C.2.1 dL_law_1276 (lv_at hl 0 rfl) ?_
  refine lv_iconst (v := 3) C.1 C.2.1 dL_law_1278 (by decide) ?_
  refine lv_iadd C.1 C.2.1 dL_law_1279 ?_
  refine va_sld C.1 C.2.1 hX hbl hbA hS (lw_ix 3 ex4 hi6 (by decide) hL) dL_law_1280 ?_
  refine goLaw (wf := yw g) (runVg (w := yw g Y) (As := [.int (xs ((x4 + 1 : Int32)).toNatClampNeg), .int (xs ((x4 + 2 : Int32)).toNatClampNeg), .int (xs ((x4 + 3 : Int32)).toNatClampNeg)]) (rest := [.int r]) C lkL_134 (c_X11_frame l g C.2.2.2.2.2.2.2.2.2.2 (xs ((x4 + 1 : Int32)).toNatClampNeg) (xs ((x4 + 2 : Int32)).toNatClampNeg) (xs ((x4 + 3 : Int32)).toNatClampNeg) Y _ hw) hPy (SX hS hAd) rfl rfl ⟨Nat.le_of_ble_eq_true rfl, Nat.le_of_ble_eq_true rfl⟩ (xx_40 Nat.zero_lt_one) rfl rfl hl.1 rfl (Nat.le_of_ble_eq_true rfl) dL_law_1281 hcs) hAd hS hO hoA hP (xy_apart C.2.2.2.2.2.2.2.2.2.2 X1) (fun r1 Y1 hw H locs hPy hS hO hP => ?_)
  refine lv_icmp_eq (tgt := 1701) C.1 C.2.1 dL_law_1284 (by decide) (fun _ => ?_) (fun hn => absurd hw.1 hn)
  exact kk X1 Y1 _ _ _ hw.2 hP hPy hO hS hl
set_option maxRecDepth 100000 in
set_option maxHeartbeats 4000000 in
theorem lw_case_26 {p : Program} {l : Launch} {e : Env} {s : State} {m : MethodId} {below : List Frame} {meth : Method} {c : Code} {g : Geo} {b L o : Nat} {xs : Nat → Int32} (hL : L ≤ 3072) (C : CX g p s m #[Value.ref b] meth c cL_law 7 ret RL) (hX : va_X b L xs s s.heap) (hbl : b < s.heap.size) (hAd : ∀ i, i < NN → s.heap.size ≤ g.2.1 i) (hoA : ¬ AX g o) (Rel : Mem → Mem → Prop) (h26 : ∀ (X Y : Mem) (a1 : Int32), Rel X Y → p_X10_bad a1 X (fun r X1 => p_X11_bad a1 Y (fun r1 Y1 => r = r1 ∧ Rel X1 Y1))) (X Y : Mem) (hR : Rel X Y) {x4 : Int32} {i : Nat} (ex4 : x4 = nI i) (hi6 : i + 6 ≤ L) {cells slots : Nat} (hcs : cells + 0 ≤ room_1.cells ∧ slots + 0 ≤ room_1.slots) {H : Heap} {locs : List Loc} {ls : Array Slot} (hP : va_P g.1 clz (xw g X) H) (hPy : va_P g.1 clz (yw g Y) H) (hO : OUT g o H) (hS : va_S (fun q => s.heap.size ≤ q) s.heap H locs) (hl : lv_has ls 7 [(4, .int x4), (0, .ref b), (1, .ref (g.2.1 (0 + 0))), (2, .ref (g.2.1 (138 + 0))), (3, .ref o)]) (kk : ∀ (X1 Y1 : Mem) (H : Heap) (locs : List Loc) (ls : Array Slot), Rel X1 Y1 → va_P g.1 clz (xw g X1) H → va_P g.1 clz (yw g Y1) H → OUT g o H → va_S (fun q => s.heap.size ≤ q) s.heap H locs → lv_has ls 7 [(4, .int x4), (0, .ref b), (1, .ref (g.2.1 (0 + 0))), (2, .ref (g.2.1 (138 + 0))), (3, .ref o)] → W p l e room_1 s m #[Value.ref b] below meth c H locs cells slots (lw_Z below #[Value.ref b] s) (F0 m 1701 ls [])) : W p l e room_1 s m #[Value.ref b] below meth c H locs cells slots (lw_Z below #[Value.ref b] s) (F0 m 1289 ls []) := by
  have hbA : ¬ (fun q : Nat => s.heap.size ≤ q) b := Nat.not_le.mpr hbl
  refine lv_aload_n C.1 C.2.1 dL_law_1289 rfl (lv_at hl 2 rfl) ?_
  refine lv_aload_n C.1 C.2.1 dL_law_1290 rfl (lv_at hl 1 rfl) ?_
  refine lv_iload C.1 C.2.1 dL_law_1291 (lv_at hl 0 rfl) ?_
  refine lv_iconst (v := 1) C.1 C.2.1 dL_law_1293 (by decide) ?_
  refine lv_iadd C.1 C.2.1 dL_law_1294 ?_
  refine va_sld C.1 C.2.1 hX hbl hbA hS (lw_ix 1 ex4 hi6 (by decide) hL) dL_law_1295 ?_
  have hw := h26 X Y (xs ((x4 + 1 : Int32)).toNatClampNeg) hR
  refine goLaw (wf := xw g) (runVg (w := xw g X) (As := [.int (xs ((x4 + 1 : Int32)).toNatClampNeg)]) (rest := []) C lkL_135 (c_X10_bad l g C.2.2.2.2.2.2.2.2.2.2 (xs ((x4 + 1 : Int32)).toNatClampNeg) X _ hw) hP (SX hS hAd) rfl rfl ⟨Nat.le_of_ble_eq_true rfl, Nat.le_of_ble_eq_true rfl⟩ (xx_0 Nat.zero_lt_one) rfl rfl hl.1 rfl (Nat.le_of_ble_eq_true rfl) dL_law_1296 hcs) hAd hS hO hoA hPy (yx_apart C.2.2.2.2.2.2.2.2.2.2 Y) (fun r X1 hw H locs hP hS hO hPy => ?_)
  refine lv_aload_n C.1 C.2.1 dL_law_1299 rfl (lv_at hl 3 rfl) ?_
  refine lv_aload_n C.1 C.2.1 dL_law_1300 rfl (lv_at hl 1 rfl) ?_
  refine lv_iload C.1 C.2.1 dL_law_1301 (lv_at hl 0 rfl) ?_
  refine lv_iconst (v := 1) C.1 C.2.1 dL_law_1303 (by decide) ?_
  refine lv_iadd C.1 C.2.1 dL_law_1304 ?_
  refine va_sld C.1 C.2.1 hX hbl hbA hS (lw_ix 1 ex4 hi6 (by decide) hL) dL_law_1305 ?_
  refine goLaw (wf := yw g) (runVg (w := yw g Y) (As := [.int (xs ((x4 + 1 : Int32)).toNatClampNeg)]) (rest := [.int r]) C lkL_138 (c_X11_bad l g C.2.2.2.2.2.2.2.2.2.2 (xs ((x4 + 1 : Int32)).toNatClampNeg) Y _ hw) hPy (SX hS hAd) rfl rfl ⟨Nat.le_of_ble_eq_true rfl, Nat.le_of_ble_eq_true rfl⟩ (xx_40 Nat.zero_lt_one) rfl rfl hl.1 rfl (Nat.le_of_ble_eq_true rfl) dL_law_1306 hcs) hAd hS hO hoA hP (xy_apart C.2.2.2.2.2.2.2.2.2.2 X1) (fun r1 Y1 hw H locs hPy hS hO hP => ?_)
  refine lv_icmp_eq (tgt := 1701) C.1 C.2.1 dL_law_1309 (by decide) (fun _ => ?_) (fun hn => absurd hw.1 hn)
  exact kk X1 Y1 _ _ _ hw.2 hP hPy hO hS hl
set_option maxRecDepth 100000 in
set_option maxHeartbeats 4000000 in
theorem lw_case_27 {p : Program} {l : Launch} {e : Env} {s : State} {m : MethodId} {below : List Frame} {meth : Method} {c : Code} {g : Geo} {b L o : Nat} {xs : Nat → Int32} (hL : L ≤ 3072) (C : CX g p s m #[Value.ref b] meth c cL_law 7 ret RL) (hX : va_X b L xs s s.heap) (hbl : b < s.heap.size) (hAd : ∀ i, i < NN → s.heap.size ≤ g.2.1 i) (hoA : ¬ AX g o) (Rel : Mem → Mem → Prop) (h27 : ∀ (X Y : Mem) (a1 : Int32), Rel X Y → p_X10_errors a1 X (fun r X1 => p_X11_errors a1 Y (fun r1 Y1 => r = r1 ∧ Rel X1 Y1))) (X Y : Mem) (hR : Rel X Y) {x4 : Int32} {i : Nat} (ex4 : x4 = nI i) (hi6 : i + 6 ≤ L) {cells slots : Nat} (hcs : cells + 0 ≤ room_1.cells ∧ slots + 0 ≤ room_1.slots) {H : Heap} {locs : List Loc} {ls : Array Slot} (hP : va_P g.1 clz (xw g X) H) (hPy : va_P g.1 clz (yw g Y) H) (hO : OUT g o H) (hS : va_S (fun q => s.heap.size ≤ q) s.heap H locs) (hl : lv_has ls 7 [(4, .int x4), (0, .ref b), (1, .ref (g.2.1 (0 + 0))), (2, .ref (g.2.1 (138 + 0))), (3, .ref o)]) (kk : ∀ (X1 Y1 : Mem) (H : Heap) (locs : List Loc) (ls : Array Slot), Rel X1 Y1 → va_P g.1 clz (xw g X1) H → va_P g.1 clz (yw g Y1) H → OUT g o H → va_S (fun q => s.heap.size ≤ q) s.heap H locs → lv_has ls 7 [(4, .int x4), (0, .ref b), (1, .ref (g.2.1 (0 + 0))), (2, .ref (g.2.1 (138 + 0))), (3, .ref o)] → W p l e room_1 s m #[Value.ref b] below meth c H locs cells slots (lw_Z below #[Value.ref b] s) (F0 m 1701 ls [])) : W p l e room_1 s m #[Value.ref b] below meth c H locs cells slots (lw_Z below #[Value.ref b] s) (F0 m 1314 ls []) := by
  have hbA : ¬ (fun q : Nat => s.heap.size ≤ q) b := Nat.not_le.mpr hbl
  refine lv_aload_n C.1 C.2.1 dL_law_1314 rfl (lv_at hl 2 rfl) ?_
  refine lv_aload_n C.1 C.2.1 dL_law_1315 rfl (lv_at hl 1 rfl) ?_
  refine lv_iload C.1 C.2.1 dL_law_1316 (lv_at hl 0 rfl) ?_
  refine lv_iconst (v := 1) C.1 C.2.1 dL_law_1318 (by decide) ?_
  refine lv_iadd C.1 C.2.1 dL_law_1319 ?_
  refine va_sld C.1 C.2.1 hX hbl hbA hS (lw_ix 1 ex4 hi6 (by decide) hL) dL_law_1320 ?_
  have hw := h27 X Y (xs ((x4 + 1 : Int32)).toNatClampNeg) hR
  refine goLaw (wf := xw g) (runVg (w := xw g X) (As := [.int (xs ((x4 + 1 : Int32)).toNatClampNeg)]) (rest := []) C lkL_139 (c_X10_errors l g C.2.2.2.2.2.2.2.2.2.2 (xs ((x4 + 1 : Int32)).toNatClampNeg) X _ hw) hP (SX hS hAd) rfl rfl ⟨Nat.le_of_ble_eq_true rfl, Nat.le_of_ble_eq_true rfl⟩ (xx_0 Nat.zero_lt_one) rfl rfl hl.1 rfl (Nat.le_of_ble_eq_true rfl) dL_law_1321 hcs) hAd hS hO hoA hPy (yx_apart C.2.2.2.2.2.2.2.2.2.2 Y) (fun r X1 hw H locs hP hS hO hPy => ?_)
  refine lv_aload_n C.1 C.2.1 dL_law_1324 rfl (lv_at hl 3 rfl) ?_
  refine lv_aload_n C.1 C.2.1 dL_law_1325 rfl (lv_at hl 1 rfl) ?_
  refine lv_iload C.1 C.2.1 dL_law_1326 (lv_at hl 0 rfl) ?_
  refine lv_iconst (v := 1) C.1 C.2.1 dL_law_1328 (by decide) ?_
  refine lv_iadd C.1 C.2.1 dL_law_1329 ?_
  refine va_sld C.1 C.2.1 hX hbl hbA hS (lw_ix 1 ex4 hi6 (by decide) hL) dL_law_1330 ?_
  refine goLaw (wf := yw g) (runVg (w := yw g Y) (As := [.int (xs ((x4 + 1 : Int32)).toNatClampNeg)]) (rest := [.int r]) C lkL_142 (c_X11_errors l g C.2.2.2.2.2.2.2.2.2.2 (xs ((x4 + 1 : Int32)).toNatClampNeg) Y _ hw) hPy (SX hS hAd) rfl rfl ⟨Nat.le_of_ble_eq_true rfl, Nat.le_of_ble_eq_true rfl⟩ (xx_40 Nat.zero_lt_one) rfl rfl hl.1 rfl (Nat.le_of_ble_eq_true rfl) dL_law_1331 hcs) hAd hS hO hoA hP (xy_apart C.2.2.2.2.2.2.2.2.2.2 X1) (fun r1 Y1 hw H locs hPy hS hO hP => ?_)
  refine lv_icmp_eq (tgt := 1701) C.1 C.2.1 dL_law_1334 (by decide) (fun _ => ?_) (fun hn => absurd hw.1 hn)
  exact kk X1 Y1 _ _ _ hw.2 hP hPy hO hS hl
set_option maxRecDepth 100000 in
set_option maxHeartbeats 4000000 in
theorem lw_case_28 {p : Program} {l : Launch} {e : Env} {s : State} {m : MethodId} {below : List Frame} {meth : Method} {c : Code} {g : Geo} {b L o : Nat} {xs : Nat → Int32} (hL : L ≤ 3072) (C : CX g p s m #[Value.ref b] meth c cL_law 7 ret RL) (hX : va_X b L xs s s.heap) (hbl : b < s.heap.size) (hAd : ∀ i, i < NN → s.heap.size ≤ g.2.1 i) (hoA : ¬ AX g o) (Rel : Mem → Mem → Prop) (h28 : ∀ (X Y : Mem) (a1 a2 : Int32), Rel X Y → p_X10_latest a1 a2 X (fun r X1 => p_X11_latest a1 a2 Y (fun r1 Y1 => r = r1 ∧ Rel X1 Y1))) (X Y : Mem) (hR : Rel X Y) {x4 : Int32} {i : Nat} (ex4 : x4 = nI i) (hi6 : i + 6 ≤ L) {cells slots : Nat} (hcs : cells + 0 ≤ room_1.cells ∧ slots + 0 ≤ room_1.slots) {H : Heap} {locs : List Loc} {ls : Array Slot} (hP : va_P g.1 clz (xw g X) H) (hPy : va_P g.1 clz (yw g Y) H) (hO : OUT g o H) (hS : va_S (fun q => s.heap.size ≤ q) s.heap H locs) (hl : lv_has ls 7 [(4, .int x4), (0, .ref b), (1, .ref (g.2.1 (0 + 0))), (2, .ref (g.2.1 (138 + 0))), (3, .ref o)]) (kk : ∀ (X1 Y1 : Mem) (H : Heap) (locs : List Loc) (ls : Array Slot), Rel X1 Y1 → va_P g.1 clz (xw g X1) H → va_P g.1 clz (yw g Y1) H → OUT g o H → va_S (fun q => s.heap.size ≤ q) s.heap H locs → lv_has ls 7 [(4, .int x4), (0, .ref b), (1, .ref (g.2.1 (0 + 0))), (2, .ref (g.2.1 (138 + 0))), (3, .ref o)] → W p l e room_1 s m #[Value.ref b] below meth c H locs cells slots (lw_Z below #[Value.ref b] s) (F0 m 1701 ls [])) : W p l e room_1 s m #[Value.ref b] below meth c H locs cells slots (lw_Z below #[Value.ref b] s) (F0 m 1339 ls []) := by
  have hbA : ¬ (fun q : Nat => s.heap.size ≤ q) b := Nat.not_le.mpr hbl
  refine lv_aload_n C.1 C.2.1 dL_law_1339 rfl (lv_at hl 2 rfl) ?_
  refine lv_aload_n C.1 C.2.1 dL_law_1340 rfl (lv_at hl 1 rfl) ?_
  refine lv_iload C.1 C.2.1 dL_law_1341 (lv_at hl 0 rfl) ?_
  refine lv_iconst (v := 1) C.1 C.2.1 dL_law_1343 (by decide) ?_
  refine lv_iadd C.1 C.2.1 dL_law_1344 ?_
  refine va_sld C.1 C.2.1 hX hbl hbA hS (lw_ix 1 ex4 hi6 (by decide) hL) dL_law_1345 ?_
  refine lv_aload_n C.1 C.2.1 dL_law_1346 rfl (lv_at hl 1 rfl) ?_
  refine lv_iload C.1 C.2.1 dL_law_1347 (lv_at hl 0 rfl) ?_
  refine lv_iconst (v := 2) C.1 C.2.1 dL_law_1349 (by decide) ?_
  refine lv_iadd C.1 C.2.1 dL_law_1350 ?_
  refine va_sld C.1 C.2.1 hX hbl hbA hS (lw_ix 2 ex4 hi6 (by decide) hL) dL_law_1351 ?_
  have hw := h28 X Y (xs ((x4 + 1 : Int32)).toNatClampNeg) (xs ((x4 + 2 : Int32)).toNatClampNeg) hR
  refine goLaw (wf := xw g) (runVg (w := xw g X) (As := [.int (xs ((x4 + 1 : Int32)).toNatClampNeg), .int (xs ((x4 + 2 : Int32)).toNatClampNeg)]) (rest := []) C lkL_143 (c_X10_latest l g C.2.2.2.2.2.2.2.2.2.2 (xs ((x4 + 1 : Int32)).toNatClampNeg) (xs ((x4 + 2 : Int32)).toNatClampNeg) X _ hw) hP (SX hS hAd) rfl rfl ⟨Nat.le_of_ble_eq_true rfl, Nat.le_of_ble_eq_true rfl⟩ (xx_0 Nat.zero_lt_one) rfl rfl hl.1 rfl (Nat.le_of_ble_eq_true rfl) dL_law_1352 hcs) hAd hS hO hoA hPy (yx_apart C.2.2.2.2.2.2.2.2.2.2 Y) (fun r X1 hw H locs hP hS hO hPy => ?_)
  refine lv_aload_n C.1 C.2.1 dL_law_1355 rfl (lv_at hl 3 rfl) ?_
  refine lv_aload_n C.1 C.2.1 dL_law_1356 rfl (lv_at hl 1 rfl) ?_
  refine lv_iload C.1 C.2.1 dL_law_1357 (lv_at hl 0 rfl) ?_
  refine lv_iconst (v := 1) C.1 C.2.1 dL_law_1359 (by decide) ?_
  refine lv_iadd C.1 C.2.1 dL_law_1360 ?_
  refine va_sld C.1 C.2.1 hX hbl hbA hS (lw_ix 1 ex4 hi6 (by decide) hL) dL_law_1361 ?_
  refine lv_aload_n C.1 C.2.1 dL_law_1362 rfl (lv_at hl 1 rfl) ?_
  refine lv_iload C.1 C.2.1 dL_law_1363 (lv_at hl 0 rfl) ?_
  refine lv_iconst (v := 2) C.1 C.2.1 dL_law_1365 (by decide) ?_
  refine lv_iadd C.1 C.2.1 dL_law_1366 ?_
  refine va_sld C.1 C.2.1 hX hbl hbA hS (lw_ix 2 ex4 hi6 (by decide) hL) dL_law_1367 ?_
  refine goLaw (wf := yw g) (runVg (w := yw g Y) (As := [.int (xs ((x4 + 1 : Int32)).toNatClampNeg), .int (xs ((x4 + 2 : Int32)).toNatClampNeg)]) (rest := [.int r]) C lkL_146 (c_X11_latest l g C.2.2.2.2.2.2.2.2.2.2 (xs ((x4 + 1 : Int32)).toNatClampNeg) (xs ((x4 + 2 : Int32)).toNatClampNeg) Y _ hw) hPy (SX hS hAd) rfl rfl ⟨Nat.le_of_ble_eq_true rfl, Nat.le_of_ble_eq_true rfl⟩ (xx_40 Nat.zero_lt_one) rfl rfl hl.1 rfl (Nat.le_of_ble_eq_true rfl) dL_law_1368 hcs) hAd hS hO hoA hP (xy_apart C.2.2.2.2.2.2.2.2.2.2 X1) (fun r1 Y1 hw H locs hPy hS hO hP => ?_)
  refine lv_icmp_eq (tgt := 1701) C.1 C.2.1 dL_law_1371 (by decide) (fun _ => ?_) (fun hn => absurd hw.1 hn)
  exact kk X1 Y1 _ _ _ hw.2 hP hPy hO hS hl
set_option maxRecDepth 100000 in
set_option maxHeartbeats 4000000 in
theorem lw_case_29 {p : Program} {l : Launch} {e : Env} {s : State} {m : MethodId} {below : List Frame} {meth : Method} {c : Code} {g : Geo} {b L o : Nat} {xs : Nat → Int32} (hL : L ≤ 3072) (C : CX g p s m #[Value.ref b] meth c cL_law 7 ret RL) (hX : va_X b L xs s s.heap) (hbl : b < s.heap.size) (hAd : ∀ i, i < NN → s.heap.size ≤ g.2.1 i) (hoA : ¬ AX g o) (Rel : Mem → Mem → Prop) (h29 : ∀ (X Y : Mem) (a1 : Int32), Rel X Y → p_X10_off a1 X (fun r X1 => p_X11_off a1 Y (fun r1 Y1 => r = r1 ∧ Rel X1 Y1))) (X Y : Mem) (hR : Rel X Y) {x4 : Int32} {i : Nat} (ex4 : x4 = nI i) (hi6 : i + 6 ≤ L) {cells slots : Nat} (hcs : cells + 0 ≤ room_1.cells ∧ slots + 0 ≤ room_1.slots) {H : Heap} {locs : List Loc} {ls : Array Slot} (hP : va_P g.1 clz (xw g X) H) (hPy : va_P g.1 clz (yw g Y) H) (hO : OUT g o H) (hS : va_S (fun q => s.heap.size ≤ q) s.heap H locs) (hl : lv_has ls 7 [(4, .int x4), (0, .ref b), (1, .ref (g.2.1 (0 + 0))), (2, .ref (g.2.1 (138 + 0))), (3, .ref o)]) (kk : ∀ (X1 Y1 : Mem) (H : Heap) (locs : List Loc) (ls : Array Slot), Rel X1 Y1 → va_P g.1 clz (xw g X1) H → va_P g.1 clz (yw g Y1) H → OUT g o H → va_S (fun q => s.heap.size ≤ q) s.heap H locs → lv_has ls 7 [(4, .int x4), (0, .ref b), (1, .ref (g.2.1 (0 + 0))), (2, .ref (g.2.1 (138 + 0))), (3, .ref o)] → W p l e room_1 s m #[Value.ref b] below meth c H locs cells slots (lw_Z below #[Value.ref b] s) (F0 m 1701 ls [])) : W p l e room_1 s m #[Value.ref b] below meth c H locs cells slots (lw_Z below #[Value.ref b] s) (F0 m 1376 ls []) := by
  have hbA : ¬ (fun q : Nat => s.heap.size ≤ q) b := Nat.not_le.mpr hbl
  refine lv_aload_n C.1 C.2.1 dL_law_1376 rfl (lv_at hl 2 rfl) ?_
  refine lv_aload_n C.1 C.2.1 dL_law_1377 rfl (lv_at hl 1 rfl) ?_
  refine lv_iload C.1 C.2.1 dL_law_1378 (lv_at hl 0 rfl) ?_
  refine lv_iconst (v := 1) C.1 C.2.1 dL_law_1380 (by decide) ?_
  refine lv_iadd C.1 C.2.1 dL_law_1381 ?_
  refine va_sld C.1 C.2.1 hX hbl hbA hS (lw_ix 1 ex4 hi6 (by decide) hL) dL_law_1382 ?_
  have hw := h29 X Y (xs ((x4 + 1 : Int32)).toNatClampNeg) hR
  refine goLaw (wf := xw g) (runVg (w := xw g X) (As := [.int (xs ((x4 + 1 : Int32)).toNatClampNeg)]) (rest := []) C lkL_147 (c_X10_off l g C.2.2.2.2.2.2.2.2.2.2 (xs ((x4 + 1 : Int32)).toNatClampNeg) X _ hw) hP (SX hS hAd) rfl rfl ⟨Nat.le_of_ble_eq_true rfl, Nat.le_of_ble_eq_true rfl⟩ (xx_0 Nat.zero_lt_one) rfl rfl hl.1 rfl (Nat.le_of_ble_eq_true rfl) dL_law_1383 hcs) hAd hS hO hoA hPy (yx_apart C.2.2.2.2.2.2.2.2.2.2 Y) (fun r X1 hw H locs hP hS hO hPy => ?_)
  refine lv_aload_n C.1 C.2.1 dL_law_1386 rfl (lv_at hl 3 rfl) ?_
  refine lv_aload_n C.1 C.2.1 dL_law_1387 rfl (lv_at hl 1 rfl) ?_
  refine lv_iload C.1 C.2.1 dL_law_1388 (lv_at hl 0 rfl) ?_
  refine lv_iconst (v := 1) C.1 C.2.1 dL_law_1390 (by decide) ?_
  refine lv_iadd C.1 C.2.1 dL_law_1391 ?_
  refine va_sld C.1 C.2.1 hX hbl hbA hS (lw_ix 1 ex4 hi6 (by decide) hL) dL_law_1392 ?_
  refine goLaw (wf := yw g) (runVg (w := yw g Y) (As := [.int (xs ((x4 + 1 : Int32)).toNatClampNeg)]) (rest := [.int r]) C lkL_150 (c_X11_off l g C.2.2.2.2.2.2.2.2.2.2 (xs ((x4 + 1 : Int32)).toNatClampNeg) Y _ hw) hPy (SX hS hAd) rfl rfl ⟨Nat.le_of_ble_eq_true rfl, Nat.le_of_ble_eq_true rfl⟩ (xx_40 Nat.zero_lt_one) rfl rfl hl.1 rfl (Nat.le_of_ble_eq_true rfl) dL_law_1393 hcs) hAd hS hO hoA hP (xy_apart C.2.2.2.2.2.2.2.2.2.2 X1) (fun r1 Y1 hw H locs hPy hS hO hP => ?_)
  refine lv_icmp_eq (tgt := 1701) C.1 C.2.1 dL_law_1396 (by decide) (fun _ => ?_) (fun hn => absurd hw.1 hn)
  exact kk X1 Y1 _ _ _ hw.2 hP hPy hO hS hl
set_option maxRecDepth 100000 in
set_option maxHeartbeats 4000000 in
theorem lw_case_30 {p : Program} {l : Launch} {e : Env} {s : State} {m : MethodId} {below : List Frame} {meth : Method} {c : Code} {g : Geo} {b L o : Nat} {xs : Nat → Int32} (hL : L ≤ 3072) (C : CX g p s m #[Value.ref b] meth c cL_law 7 ret RL) (hX : va_X b L xs s s.heap) (hbl : b < s.heap.size) (hAd : ∀ i, i < NN → s.heap.size ≤ g.2.1 i) (hoA : ¬ AX g o) (Rel : Mem → Mem → Prop) (h30 : ∀ (X Y : Mem) (a1 a2 : Int32), Rel X Y → p_X10_range a1 a2 X (fun r X1 => p_X11_range a1 a2 Y (fun r1 Y1 => r = r1 ∧ Rel X1 Y1))) (X Y : Mem) (hR : Rel X Y) {x4 : Int32} {i : Nat} (ex4 : x4 = nI i) (hi6 : i + 6 ≤ L) {cells slots : Nat} (hcs : cells + 0 ≤ room_1.cells ∧ slots + 0 ≤ room_1.slots) {H : Heap} {locs : List Loc} {ls : Array Slot} (hP : va_P g.1 clz (xw g X) H) (hPy : va_P g.1 clz (yw g Y) H) (hO : OUT g o H) (hS : va_S (fun q => s.heap.size ≤ q) s.heap H locs) (hl : lv_has ls 7 [(4, .int x4), (0, .ref b), (1, .ref (g.2.1 (0 + 0))), (2, .ref (g.2.1 (138 + 0))), (3, .ref o)]) (kk : ∀ (X1 Y1 : Mem) (H : Heap) (locs : List Loc) (ls : Array Slot), Rel X1 Y1 → va_P g.1 clz (xw g X1) H → va_P g.1 clz (yw g Y1) H → OUT g o H → va_S (fun q => s.heap.size ≤ q) s.heap H locs → lv_has ls 7 [(4, .int x4), (0, .ref b), (1, .ref (g.2.1 (0 + 0))), (2, .ref (g.2.1 (138 + 0))), (3, .ref o)] → W p l e room_1 s m #[Value.ref b] below meth c H locs cells slots (lw_Z below #[Value.ref b] s) (F0 m 1701 ls [])) : W p l e room_1 s m #[Value.ref b] below meth c H locs cells slots (lw_Z below #[Value.ref b] s) (F0 m 1401 ls []) := by
  have hbA : ¬ (fun q : Nat => s.heap.size ≤ q) b := Nat.not_le.mpr hbl
  refine lv_aload_n C.1 C.2.1 dL_law_1401 rfl (lv_at hl 2 rfl) ?_
  refine lv_aload_n C.1 C.2.1 dL_law_1402 rfl (lv_at hl 1 rfl) ?_
  refine lv_iload C.1 C.2.1 dL_law_1403 (lv_at hl 0 rfl) ?_
  refine lv_iconst (v := 1) C.1 C.2.1 dL_law_1405 (by decide) ?_
  refine lv_iadd C.1 C.2.1 dL_law_1406 ?_
  refine va_sld C.1 C.2.1 hX hbl hbA hS (lw_ix 1 ex4 hi6 (by decide) hL) dL_law_1407 ?_
  refine lv_aload_n C.1 C.2.1 dL_law_1408 rfl (lv_at hl 1 rfl) ?_
  refine lv_iload C.1 C.2.1 dL_law_1409 (lv_at hl 0 rfl) ?_
  refine lv_iconst (v := 2) C.1 C.2.1 dL_law_1411 (by decide) ?_
  refine lv_iadd C.1 C.2.1 dL_law_1412 ?_
  refine va_sld C.1 C.2.1 hX hbl hbA hS (lw_ix 2 ex4 hi6 (by decide) hL) dL_law_1413 ?_
  have hw := h30 X Y (xs ((x4 + 1 : Int32)).toNatClampNeg) (xs ((x4 + 2 : Int32)).toNatClampNeg) hR
  refine goLaw (wf := xw g) (runVg (w := xw g X) (As := [.int (xs ((x4 + 1 : Int32)).toNatClampNeg), .int (xs ((x4 + 2 : Int32)).toNatClampNeg)]) (rest := []) C lkL_151 (c_X10_range l g C.2.2.2.2.2.2.2.2.2.2 (xs ((x4 + 1 : Int32)).toNatClampNeg) (xs ((x4 + 2 : Int32)).toNatClampNeg) X _ hw) hP (SX hS hAd) rfl rfl ⟨Nat.le_of_ble_eq_true rfl, Nat.le_of_ble_eq_true rfl⟩ (xx_0 Nat.zero_lt_one) rfl rfl hl.1 rfl (Nat.le_of_ble_eq_true rfl) dL_law_1414 hcs) hAd hS hO hoA hPy (yx_apart C.2.2.2.2.2.2.2.2.2.2 Y) (fun r X1 hw H locs hP hS hO hPy => ?_)
  refine lv_aload_n C.1 C.2.1 dL_law_1417 rfl (lv_at hl 3 rfl) ?_
  refine lv_aload_n C.1 C.2.1 dL_law_1418 rfl (lv_at hl 1 rfl) ?_
  refine lv_iload C.1 C.2.1 dL_law_1419 (lv_at hl 0 rfl) ?_
  refine lv_iconst (v := 1) C.1 C.2.1 dL_law_1421 (by decide) ?_
  refine lv_iadd C.1 C.2.1 dL_law_1422 ?_
  refine va_sld C.1 C.2.1 hX hbl hbA hS (lw_ix 1 ex4 hi6 (by decide) hL) dL_law_1423 ?_
  refine lv_aload_n C.1 C.2.1 dL_law_1424 rfl (lv_at hl 1 rfl) ?_
  refine lv_iload C.1 C.2.1 dL_law_1425 (lv_at hl 0 rfl) ?_
  refine lv_iconst (v := 2) C.1 C.2.1 dL_law_1427 (by decide) ?_
  refine lv_iadd C.1 C.2.1 dL_law_1428 ?_
  refine va_sld C.1 C.2.1 hX hbl hbA hS (lw_ix 2 ex4 hi6 (by decide) hL) dL_law_1429 ?_
  refine goLaw (wf := yw g) (runVg (w := yw g Y) (As := [.int (xs ((x4 + 1 : Int32)).toNatClampNeg), .int (xs ((x4 + 2 : Int32)).toNatClampNeg)]) (rest := [.int r]) C lkL_154 (c_X11_range l g C.2.2.2.2.2.2.2.2.2.2 (xs ((x4 + 1 : Int32)).toNatClampNeg) (xs ((x4 + 2 : Int32)).toNatClampNeg) Y _ hw) hPy (SX hS hAd) rfl rfl ⟨Nat.le_of_ble_eq_true rfl, Nat.le_of_ble_eq_true rfl⟩ (xx_40 Nat.zero_lt_one) rfl rfl hl.1 rfl (Nat.le_of_ble_eq_true rfl) dL_law_1430 hcs) hAd hS hO hoA hP (xy_apart C.2.2.2.2.2.2.2.2.2.2 X1) (fun r1 Y1 hw H locs hPy hS hO hP => ?_)
  refine lv_icmp_eq (tgt := 1701) C.1 C.2.1 dL_law_1433 (by decide) (fun _ => ?_) (fun hn => absurd hw.1 hn)
  exact kk X1 Y1 _ _ _ hw.2 hP hPy hO hS hl
set_option maxRecDepth 100000 in
set_option maxHeartbeats 4000000 in
theorem lw_case_31 {p : Program} {l : Launch} {e : Env} {s : State} {m : MethodId} {below : List Frame} {meth : Method} {c : Code} {g : Geo} {b L o : Nat} {xs : Nat → Int32} (hL : L ≤ 3072) (C : CX g p s m #[Value.ref b] meth c cL_law 7 ret RL) (hX : va_X b L xs s s.heap) (hbl : b < s.heap.size) (hAd : ∀ i, i < NN → s.heap.size ≤ g.2.1 i) (hoA : ¬ AX g o) (Rel : Mem → Mem → Prop) (h31 : ∀ (X Y : Mem) (a1 : Int32), Rel X Y → p_X10_measure a1 X (fun r X1 => p_X11_measure a1 Y (fun r1 Y1 => r = r1 ∧ Rel X1 Y1))) (X Y : Mem) (hR : Rel X Y) {x4 : Int32} {i : Nat} (ex4 : x4 = nI i) (hi6 : i + 6 ≤ L) {cells slots : Nat} (hcs : cells + 0 ≤ room_1.cells ∧ slots + 0 ≤ room_1.slots) {H : Heap} {locs : List Loc} {ls : Array Slot} (hP : va_P g.1 clz (xw g X) H) (hPy : va_P g.1 clz (yw g Y) H) (hO : OUT g o H) (hS : va_S (fun q => s.heap.size ≤ q) s.heap H locs) (hl : lv_has ls 7 [(4, .int x4), (0, .ref b), (1, .ref (g.2.1 (0 + 0))), (2, .ref (g.2.1 (138 + 0))), (3, .ref o)]) (kk : ∀ (X1 Y1 : Mem) (H : Heap) (locs : List Loc) (ls : Array Slot), Rel X1 Y1 → va_P g.1 clz (xw g X1) H → va_P g.1 clz (yw g Y1) H → OUT g o H → va_S (fun q => s.heap.size ≤ q) s.heap H locs → lv_has ls 7 [(4, .int x4), (0, .ref b), (1, .ref (g.2.1 (0 + 0))), (2, .ref (g.2.1 (138 + 0))), (3, .ref o)] → W p l e room_1 s m #[Value.ref b] below meth c H locs cells slots (lw_Z below #[Value.ref b] s) (F0 m 1701 ls [])) : W p l e room_1 s m #[Value.ref b] below meth c H locs cells slots (lw_Z below #[Value.ref b] s) (F0 m 1438 ls []) := by
  have hbA : ¬ (fun q : Nat => s.heap.size ≤ q) b := Nat.not_le.mpr hbl
  refine lv_aload_n C.1 C.2.1 dL_law_1438 rfl (lv_at hl 2 rfl) ?_
  refine lv_aload_n C.1 C.2.1 dL_law_1439 rfl (lv_at hl 1 rfl) ?_
  refine lv_iload C.1 C.2.1 dL_law_1440 (lv_at hl 0 rfl) ?_
  refine lv_iconst (v := 1) C.1 C.2.1 dL_law_1442 (by decide) ?_
  refine lv_iadd C.1 C.2.1 dL_law_1443 ?_
  refine va_sld C.1 C.2.1 hX hbl hbA hS (lw_ix 1 ex4 hi6 (by decide) hL) dL_law_1444 ?_
  have hw := h31 X Y (xs ((x4 + 1 : Int32)).toNatClampNeg) hR
  refine goLaw (wf := xw g) (runVg (w := xw g X) (As := [.int (xs ((x4 + 1 : Int32)).toNatClampNeg)]) (rest := []) C lkL_155 (c_X10_measure l g C.2.2.2.2.2.2.2.2.2.2 (xs ((x4 + 1 : Int32)).toNatClampNeg) X _ hw) hP (SX hS hAd) rfl rfl ⟨Nat.le_of_ble_eq_true rfl, Nat.le_of_ble_eq_true rfl⟩ (xx_0 Nat.zero_lt_one) rfl rfl hl.1 rfl (Nat.le_of_ble_eq_true rfl) dL_law_1445 hcs) hAd hS hO hoA hPy (yx_apart C.2.2.2.2.2.2.2.2.2.2 Y) (fun r X1 hw H locs hP hS hO hPy => ?_)
  refine lv_aload_n C.1 C.2.1 dL_law_1448 rfl (lv_at hl 3 rfl) ?_
  refine lv_aload_n C.1 C.2.1 dL_law_1449 rfl (lv_at hl 1 rfl) ?_
  refine lv_iload C.1 C.2.1 dL_law_1450 (lv_at hl 0 rfl) ?_
  refine lv_iconst (v := 1) C.1 C.2.1 dL_law_1452 (by decide) ?_
  refine lv_iadd C.1 C.2.1 dL_law_1453 ?_
  refine va_sld C.1 C.2.1 hX hbl hbA hS (lw_ix 1 ex4 hi6 (by decide) hL) dL_law_1454 ?_
  refine goLaw (wf := yw g) (runVg (w := yw g Y) (As := [.int (xs ((x4 + 1 : Int32)).toNatClampNeg)]) (rest := [.int r]) C lkL_158 (c_X11_measure l g C.2.2.2.2.2.2.2.2.2.2 (xs ((x4 + 1 : Int32)).toNatClampNeg) Y _ hw) hPy (SX hS hAd) rfl rfl ⟨Nat.le_of_ble_eq_true rfl, Nat.le_of_ble_eq_true rfl⟩ (xx_40 Nat.zero_lt_one) rfl rfl hl.1 rfl (Nat.le_of_ble_eq_true rfl) dL_law_1455 hcs) hAd hS hO hoA hP (xy_apart C.2.2.2.2.2.2.2.2.2.2 X1) (fun r1 Y1 hw H locs hPy hS hO hP => ?_)
  refine lv_icmp_eq (tgt := 1701) C.1 C.2.1 dL_law_1458 (by decide) (fun _ => ?_) (fun hn => absurd hw.1 hn)
  exact kk X1 Y1 _ _ _ hw.2 hP hPy hO hS hl
set_option maxRecDepth 100000 in
set_option maxHeartbeats 4000000 in
theorem lw_case_32 {p : Program} {l : Launch} {e : Env} {s : State} {m : MethodId} {below : List Frame} {meth : Method} {c : Code} {g : Geo} {b L o : Nat} {xs : Nat → Int32} (hL : L ≤ 3072) (C : CX g p s m #[Value.ref b] meth c cL_law 7 ret RL) (hX : va_X b L xs s s.heap) (hbl : b < s.heap.size) (hAd : ∀ i, i < NN → s.heap.size ≤ g.2.1 i) (hoA : ¬ AX g o) (Rel : Mem → Mem → Prop) (h32 : ∀ (X Y : Mem) (a1 : Int32), Rel X Y → p_X10_fix a1 X (fun r X1 => p_X11_fix a1 Y (fun r1 Y1 => r = r1 ∧ Rel X1 Y1))) (X Y : Mem) (hR : Rel X Y) {x4 : Int32} {i : Nat} (ex4 : x4 = nI i) (hi6 : i + 6 ≤ L) {cells slots : Nat} (hcs : cells + 0 ≤ room_1.cells ∧ slots + 0 ≤ room_1.slots) {H : Heap} {locs : List Loc} {ls : Array Slot} (hP : va_P g.1 clz (xw g X) H) (hPy : va_P g.1 clz (yw g Y) H) (hO : OUT g o H) (hS : va_S (fun q => s.heap.size ≤ q) s.heap H locs) (hl : lv_has ls 7 [(4, .int x4), (0, .ref b), (1, .ref (g.2.1 (0 + 0))), (2, .ref (g.2.1 (138 + 0))), (3, .ref o)]) (kk : ∀ (X1 Y1 : Mem) (H : Heap) (locs : List Loc) (ls : Array Slot), Rel X1 Y1 → va_P g.1 clz (xw g X1) H → va_P g.1 clz (yw g Y1) H → OUT g o H → va_S (fun q => s.heap.size ≤ q) s.heap H locs → lv_has ls 7 [(4, .int x4), (0, .ref b), (1, .ref (g.2.1 (0 + 0))), (2, .ref (g.2.1 (138 + 0))), (3, .ref o)] → W p l e room_1 s m #[Value.ref b] below meth c H locs cells slots (lw_Z below #[Value.ref b] s) (F0 m 1701 ls [])) : W p l e room_1 s m #[Value.ref b] below meth c H locs cells slots (lw_Z below #[Value.ref b] s) (F0 m 1463 ls []) := by
  have hbA : ¬ (fun q : Nat => s.heap.size ≤ q) b := Nat.not_le.mpr hbl
  refine lv_aload_n C.1 C.2.1 dL_law_1463 rfl (lv_at hl 2 rfl) ?_
  refine lv_aload_n C.1 C.2.1 dL_law_1464 rfl (lv_at hl 1 rfl) ?_
  refine lv_iload C.1 C.2.1 dL_law_1465 (lv_at hl 0 rfl) ?_
  refine lv_iconst (v := 1) C.1 C.2.1 dL_law_1467 (by decide) ?_
  refine lv_iadd C.1 C.2.1 dL_law_1468 ?_
  refine va_sld C.1 C.2.1 hX hbl hbA hS (lw_ix 1 ex4 hi6 (by decide) hL) dL_law_1469 ?_
  have hw := h32 X Y (xs ((x4 + 1 : Int32)).toNatClampNeg) hR
  refine goLaw (wf := xw g) (runVg (w := xw g X) (As := [.int (xs ((x4 + 1 : Int32)).toNatClampNeg)]) (rest := []) C lkL_159 (c_X10_fix l g C.2.2.2.2.2.2.2.2.2.2 (xs ((x4 + 1 : Int32)).toNatClampNeg) X _ hw) hP (SX hS hAd) rfl rfl ⟨Nat.le_of_ble_eq_true rfl, Nat.le_of_ble_eq_true rfl⟩ (xx_0 Nat.zero_lt_one) rfl rfl hl.1 rfl (Nat.le_of_ble_eq_true rfl) dL_law_1470 hcs) hAd hS hO hoA hPy (yx_apart C.2.2.2.2.2.2.2.2.2.2 Y) (fun r X1 hw H locs hP hS hO hPy => ?_)
  refine lv_aload_n C.1 C.2.1 dL_law_1473 rfl (lv_at hl 3 rfl) ?_
  refine lv_aload_n C.1 C.2.1 dL_law_1474 rfl (lv_at hl 1 rfl) ?_
  refine lv_iload C.1 C.2.1 dL_law_1475 (lv_at hl 0 rfl) ?_
  refine lv_iconst (v := 1) C.1 C.2.1 dL_law_1477 (by decide) ?_
  refine lv_iadd C.1 C.2.1 dL_law_1478 ?_
  refine va_sld C.1 C.2.1 hX hbl hbA hS (lw_ix 1 ex4 hi6 (by decide) hL) dL_law_1479 ?_
  refine goLaw (wf := yw g) (runVg (w := yw g Y) (As := [.int (xs ((x4 + 1 : Int32)).toNatClampNeg)]) (rest := [.int r]) C lkL_162 (c_X11_fix l g C.2.2.2.2.2.2.2.2.2.2 (xs ((x4 + 1 : Int32)).toNatClampNeg) Y _ hw) hPy (SX hS hAd) rfl rfl ⟨Nat.le_of_ble_eq_true rfl, Nat.le_of_ble_eq_true rfl⟩ (xx_40 Nat.zero_lt_one) rfl rfl hl.1 rfl (Nat.le_of_ble_eq_true rfl) dL_law_1480 hcs) hAd hS hO hoA hP (xy_apart C.2.2.2.2.2.2.2.2.2.2 X1) (fun r1 Y1 hw H locs hPy hS hO hP => ?_)
  refine lv_icmp_eq (tgt := 1701) C.1 C.2.1 dL_law_1483 (by decide) (fun _ => ?_) (fun hn => absurd hw.1 hn)
  exact kk X1 Y1 _ _ _ hw.2 hP hPy hO hS hl
set_option maxRecDepth 100000 in
set_option maxHeartbeats 4000000 in
theorem lw_case_33 {p : Program} {l : Launch} {e : Env} {s : State} {m : MethodId} {below : List Frame} {meth : Method} {c : Code} {g : Geo} {b L o : Nat} {xs : Nat → Int32} (hL : L ≤ 3072) (C : CX g p s m #[Value.ref b] meth c cL_law 7 ret RL) (hX : va_X b L xs s s.heap) (hbl : b < s.heap.size) (hAd : ∀ i, i < NN → s.heap.size ≤ g.2.1 i) (hoA : ¬ AX g o) (Rel : Mem → Mem → Prop) (h33 : ∀ (X Y : Mem) (a1 a2 : Int32), Rel X Y → p_X10_fixWithout a1 a2 X (fun r X1 => p_X11_fixWithout a1 a2 Y (fun r1 Y1 => r = r1 ∧ Rel X1 Y1))) (X Y : Mem) (hR : Rel X Y) {x4 : Int32} {i : Nat} (ex4 : x4 = nI i) (hi6 : i + 6 ≤ L) {cells slots : Nat} (hcs : cells + 0 ≤ room_1.cells ∧ slots + 0 ≤ room_1.slots) {H : Heap} {locs : List Loc} {ls : Array Slot} (hP : va_P g.1 clz (xw g X) H) (hPy : va_P g.1 clz (yw g Y) H) (hO : OUT g o H) (hS : va_S (fun q => s.heap.size ≤ q) s.heap H locs) (hl : lv_has ls 7 [(4, .int x4), (0, .ref b), (1, .ref (g.2.1 (0 + 0))), (2, .ref (g.2.1 (138 + 0))), (3, .ref o)]) (kk : ∀ (X1 Y1 : Mem) (H : Heap) (locs : List Loc) (ls : Array Slot), Rel X1 Y1 → va_P g.1 clz (xw g X1) H → va_P g.1 clz (yw g Y1) H → OUT g o H → va_S (fun q => s.heap.size ≤ q) s.heap H locs → lv_has ls 7 [(4, .int x4), (0, .ref b), (1, .ref (g.2.1 (0 + 0))), (2, .ref (g.2.1 (138 + 0))), (3, .ref o)] → W p l e room_1 s m #[Value.ref b] below meth c H locs cells slots (lw_Z below #[Value.ref b] s) (F0 m 1701 ls [])) : W p l e room_1 s m #[Value.ref b] below meth c H locs cells slots (lw_Z below #[Value.ref b] s) (F0 m 1488 ls []) := by
  have hbA : ¬ (fun q : Nat => s.heap.size ≤ q) b := Nat.not_le.mpr hbl
  refine lv_aload_n C.1 C.2.1 dL_law_1488 rfl (lv_at hl 2 rfl) ?_
  refine lv_aload_n C.1 C.2.1 dL_law_1489 rfl (lv_at hl 1 rfl) ?_
  refine lv_iload C.1 C.2.1 dL_law_1490 (lv_at hl 0 rfl) ?_
  refine lv_iconst (v := 1) C.1 C.2.1 dL_law_1492 (by decide) ?_
  refine lv_iadd C.1 C.2.1 dL_law_1493 ?_
  refine va_sld C.1 C.2.1 hX hbl hbA hS (lw_ix 1 ex4 hi6 (by decide) hL) dL_law_1494 ?_
  refine lv_aload_n C.1 C.2.1 dL_law_1495 rfl (lv_at hl 1 rfl) ?_
  refine lv_iload C.1 C.2.1 dL_law_1496 (lv_at hl 0 rfl) ?_
  refine lv_iconst (v := 2) C.1 C.2.1 dL_law_1498 (by decide) ?_
  refine lv_iadd C.1 C.2.1 dL_law_1499 ?_
  refine va_sld C.1 C.2.1 hX hbl hbA hS (lw_ix 2 ex4 hi6 (by decide) hL) dL_law_1500 ?_
  have hw := h33 X Y (xs ((x4 + 1 : Int32)).toNatClampNeg) (xs ((x4 + 2 : Int32)).toNatClampNeg) hR
  refine goLaw (wf := xw g) (runVg (w := xw g X) (As := [.int (xs ((x4 + 1 : Int32)).toNatClampNeg), .int (xs ((x4 + 2 : Int32)).toNatClampNeg)]) (rest := []) C lkL_163 (c_X10_fixWithout l g C.2.2.2.2.2.2.2.2.2.2 (xs ((x4 + 1 : Int32)).toNatClampNeg) (xs ((x4 + 2 : Int32)).toNatClampNeg) X _ hw) hP (SX hS hAd) rfl rfl ⟨Nat.le_of_ble_eq_true rfl, Nat.le_of_ble_eq_true rfl⟩ (xx_0 Nat.zero_lt_one) rfl rfl hl.1 rfl (Nat.le_of_ble_eq_true rfl) dL_law_1501 hcs) hAd hS hO hoA hPy (yx_apart C.2.2.2.2.2.2.2.2.2.2 Y) (fun r X1 hw H locs hP hS hO hPy => ?_)
  refine lv_aload_n C.1 C.2.1 dL_law_1504 rfl (lv_at hl 3 rfl) ?_
  refine lv_aload_n C.1 C.2.1 dL_law_1505 rfl (lv_at hl 1 rfl) ?_
  refine lv_iload C.1 C.2.1 dL_law_1506 (lv_at hl 0 rfl) ?_
  refine lv_iconst (v := 1) C.1 C.2.1 dL_law_1508 (by decide) ?_
  refine lv_iadd C.1 C.2.1 dL_law_1509 ?_
  refine va_sld C.1 C.2.1 hX hbl hbA hS (lw_ix 1 ex4 hi6 (by decide) hL) dL_law_1510 ?_
  refine lv_aload_n C.1 C.2.1 dL_law_1511 rfl (lv_at hl 1 rfl) ?_
  refine lv_iload C.1 C.2.1 dL_law_1512 (lv_at hl 0 rfl) ?_
  refine lv_iconst (v := 2) C.1 C.2.1 dL_law_1514 (by decide) ?_
  refine lv_iadd C.1 C.2.1 dL_law_1515 ?_
  refine va_sld C.1 C.2.1 hX hbl hbA hS (lw_ix 2 ex4 hi6 (by decide) hL) dL_law_1516 ?_
  refine goLaw (wf := yw g) (runVg (w := yw g Y) (As := [.int (xs ((x4 + 1 : Int32)).toNatClampNeg), .int (xs ((x4 + 2 : Int32)).toNatClampNeg)]) (rest := [.int r]) C lkL_166 (c_X11_fixWithout l g C.2.2.2.2.2.2.2.2.2.2 (xs ((x4 + 1 : Int32)).toNatClampNeg) (xs ((x4 + 2 : Int32)).toNatClampNeg) Y _ hw) hPy (SX hS hAd) rfl rfl ⟨Nat.le_of_ble_eq_true rfl, Nat.le_of_ble_eq_true rfl⟩ (xx_40 Nat.zero_lt_one) rfl rfl hl.1 rfl (Nat.le_of_ble_eq_true rfl) dL_law_1517 hcs) hAd hS hO hoA hP (xy_apart C.2.2.2.2.2.2.2.2.2.2 X1) (fun r1 Y1 hw H locs hPy hS hO hP => ?_)
  refine lv_icmp_eq (tgt := 1701) C.1 C.2.1 dL_law_1520 (by decide) (fun _ => ?_) (fun hn => absurd hw.1 hn)
  exact kk X1 Y1 _ _ _ hw.2 hP hPy hO hS hl
set_option maxRecDepth 100000 in
set_option maxHeartbeats 4000000 in
theorem lw_case_34 {p : Program} {l : Launch} {e : Env} {s : State} {m : MethodId} {below : List Frame} {meth : Method} {c : Code} {g : Geo} {b L o : Nat} {xs : Nat → Int32} (hL : L ≤ 3072) (C : CX g p s m #[Value.ref b] meth c cL_law 7 ret RL) (hX : va_X b L xs s s.heap) (hbl : b < s.heap.size) (hAd : ∀ i, i < NN → s.heap.size ≤ g.2.1 i) (hoA : ¬ AX g o) (Rel : Mem → Mem → Prop) (h34 : ∀ (X Y : Mem), Rel X Y → p_X10_suspect  X (fun r X1 => p_X11_suspect  Y (fun r1 Y1 => r = r1 ∧ Rel X1 Y1))) (X Y : Mem) (hR : Rel X Y) {x4 : Int32} {i : Nat} (ex4 : x4 = nI i) (hi6 : i + 6 ≤ L) {cells slots : Nat} (hcs : cells + 0 ≤ room_1.cells ∧ slots + 0 ≤ room_1.slots) {H : Heap} {locs : List Loc} {ls : Array Slot} (hP : va_P g.1 clz (xw g X) H) (hPy : va_P g.1 clz (yw g Y) H) (hO : OUT g o H) (hS : va_S (fun q => s.heap.size ≤ q) s.heap H locs) (hl : lv_has ls 7 [(4, .int x4), (0, .ref b), (1, .ref (g.2.1 (0 + 0))), (2, .ref (g.2.1 (138 + 0))), (3, .ref o)]) (kk : ∀ (X1 Y1 : Mem) (H : Heap) (locs : List Loc) (ls : Array Slot), Rel X1 Y1 → va_P g.1 clz (xw g X1) H → va_P g.1 clz (yw g Y1) H → OUT g o H → va_S (fun q => s.heap.size ≤ q) s.heap H locs → lv_has ls 7 [(4, .int x4), (0, .ref b), (1, .ref (g.2.1 (0 + 0))), (2, .ref (g.2.1 (138 + 0))), (3, .ref o)] → W p l e room_1 s m #[Value.ref b] below meth c H locs cells slots (lw_Z below #[Value.ref b] s) (F0 m 1701 ls [])) : W p l e room_1 s m #[Value.ref b] below meth c H locs cells slots (lw_Z below #[Value.ref b] s) (F0 m 1525 ls []) := by
  have hbA : ¬ (fun q : Nat => s.heap.size ≤ q) b := Nat.not_le.mpr hbl
  refine lv_aload_n C.1 C.2.1 dL_law_1525 rfl (lv_at hl 2 rfl) ?_
  have hw := h34 X Y  hR
  refine goLaw (wf := xw g) (runVg (w := xw g X) (As := []) (rest := []) C lkL_167 (c_X10_suspect l g C.2.2.2.2.2.2.2.2.2.2  X _ hw) hP (SX hS hAd) rfl rfl ⟨Nat.le_of_ble_eq_true rfl, Nat.le_of_ble_eq_true rfl⟩ (xx_0 Nat.zero_lt_one) rfl rfl hl.1 rfl (Nat.le_of_ble_eq_true rfl) dL_law_1526 hcs) hAd hS hO hoA hPy (yx_apart C.2.2.2.2.2.2.2.2.2.2 Y) (fun r X1 hw H locs hP hS hO hPy => ?_)
  refine lv_aload_n C.1 C.2.1 dL_law_1529 rfl (lv_at hl 3 rfl) ?_
  refine goLaw (wf := yw g) (runVg (w := yw g Y) (As := []) (rest := [.int r]) C lkL_170 (c_X11_suspect l g C.2.2.2.2.2.2.2.2.2.2  Y _ hw) hPy (SX hS hAd) rfl rfl ⟨Nat.le_of_ble_eq_true rfl, Nat.le_of_ble_eq_true rfl⟩ (xx_40 Nat.zero_lt_one) rfl rfl hl.1 rfl (Nat.le_of_ble_eq_true rfl) dL_law_1530 hcs) hAd hS hO hoA hP (xy_apart C.2.2.2.2.2.2.2.2.2.2 X1) (fun r1 Y1 hw H locs hPy hS hO hP => ?_)
  refine lv_icmp_eq (tgt := 1701) C.1 C.2.1 dL_law_1533 (by decide) (fun _ => ?_) (fun hn => absurd hw.1 hn)
  exact kk X1 Y1 _ _ _ hw.2 hP hPy hO hS hl
set_option maxRecDepth 100000 in
set_option maxHeartbeats 4000000 in
theorem lw_case_35 {p : Program} {l : Launch} {e : Env} {s : State} {m : MethodId} {below : List Frame} {meth : Method} {c : Code} {g : Geo} {b L o : Nat} {xs : Nat → Int32} (hL : L ≤ 3072) (C : CX g p s m #[Value.ref b] meth c cL_law 7 ret RL) (hX : va_X b L xs s s.heap) (hbl : b < s.heap.size) (hAd : ∀ i, i < NN → s.heap.size ≤ g.2.1 i) (hoA : ¬ AX g o) (Rel : Mem → Mem → Prop) (h35 : ∀ (X Y : Mem) (a1 : Int32), Rel X Y → p_X10_spread a1 X (fun r X1 => p_X11_spread a1 Y (fun r1 Y1 => r = r1 ∧ Rel X1 Y1))) (X Y : Mem) (hR : Rel X Y) {x4 : Int32} {i : Nat} (ex4 : x4 = nI i) (hi6 : i + 6 ≤ L) {cells slots : Nat} (hcs : cells + 0 ≤ room_1.cells ∧ slots + 0 ≤ room_1.slots) {H : Heap} {locs : List Loc} {ls : Array Slot} (hP : va_P g.1 clz (xw g X) H) (hPy : va_P g.1 clz (yw g Y) H) (hO : OUT g o H) (hS : va_S (fun q => s.heap.size ≤ q) s.heap H locs) (hl : lv_has ls 7 [(4, .int x4), (0, .ref b), (1, .ref (g.2.1 (0 + 0))), (2, .ref (g.2.1 (138 + 0))), (3, .ref o)]) (kk : ∀ (X1 Y1 : Mem) (H : Heap) (locs : List Loc) (ls : Array Slot), Rel X1 Y1 → va_P g.1 clz (xw g X1) H → va_P g.1 clz (yw g Y1) H → OUT g o H → va_S (fun q => s.heap.size ≤ q) s.heap H locs → lv_has ls 7 [(4, .int x4), (0, .ref b), (1, .ref (g.2.1 (0 + 0))), (2, .ref (g.2.1 (138 + 0))), (3, .ref o)] → W p l e room_1 s m #[Value.ref b] below meth c H locs cells slots (lw_Z below #[Value.ref b] s) (F0 m 1701 ls [])) : W p l e room_1 s m #[Value.ref b] below meth c H locs cells slots (lw_Z below #[Value.ref b] s) (F0 m 1538 ls []) := by
  have hbA : ¬ (fun q : Nat => s.heap.size ≤ q) b := Nat.not_le.mpr hbl
  refine lv_aload_n C.1 C.2.1 dL_law_1538 rfl (lv_at hl 2 rfl) ?_
  refine lv_aload_n C.1 C.2.1 dL_law_1539 rfl (lv_at hl 1 rfl) ?_
  refine lv_iload C.1 C.2.1 dL_law_1540 (lv_at hl 0 rfl) ?_
  refine lv_iconst (v := 1) C.1 C.2.1 dL_law_1542 (by decide) ?_
  refine lv_iadd C.1 C.2.1 dL_law_1543 ?_
  refine va_sld C.1 C.2.1 hX hbl hbA hS (lw_ix 1 ex4 hi6 (by decide) hL) dL_law_1544 ?_
  have hw := h35 X Y (xs ((x4 + 1 : Int32)).toNatClampNeg) hR
  refine goLaw (wf := xw g) (runVg (w := xw g X) (As := [.int (xs ((x4 + 1 : Int32)).toNatClampNeg)]) (rest := []) C lkL_171 (c_X10_spread l g C.2.2.2.2.2.2.2.2.2.2 (xs ((x4 + 1 : Int32)).toNatClampNeg) X _ hw) hP (SX hS hAd) rfl rfl ⟨Nat.le_of_ble_eq_true rfl, Nat.le_of_ble_eq_true rfl⟩ (xx_0 Nat.zero_lt_one) rfl rfl hl.1 rfl (Nat.le_of_ble_eq_true rfl) dL_law_1545 hcs) hAd hS hO hoA hPy (yx_apart C.2.2.2.2.2.2.2.2.2.2 Y) (fun r X1 hw H locs hP hS hO hPy => ?_)
  refine lv_aload_n C.1 C.2.1 dL_law_1548 rfl (lv_at hl 3 rfl) ?_
  refine lv_aload_n C.1 C.2.1 dL_law_1549 rfl (lv_at hl 1 rfl) ?_
  refine lv_iload C.1 C.2.1 dL_law_1550 (lv_at hl 0 rfl) ?_
  refine lv_iconst (v := 1) C.1 C.2.1 dL_law_1552 (by decide) ?_
  refine lv_iadd C.1 C.2.1 dL_law_1553 ?_
  refine va_sld C.1 C.2.1 hX hbl hbA hS (lw_ix 1 ex4 hi6 (by decide) hL) dL_law_1554 ?_
  refine goLaw (wf := yw g) (runVg (w := yw g Y) (As := [.int (xs ((x4 + 1 : Int32)).toNatClampNeg)]) (rest := [.int r]) C lkL_174 (c_X11_spread l g C.2.2.2.2.2.2.2.2.2.2 (xs ((x4 + 1 : Int32)).toNatClampNeg) Y _ hw) hPy (SX hS hAd) rfl rfl ⟨Nat.le_of_ble_eq_true rfl, Nat.le_of_ble_eq_true rfl⟩ (xx_40 Nat.zero_lt_one) rfl rfl hl.1 rfl (Nat.le_of_ble_eq_true rfl) dL_law_1555 hcs) hAd hS hO hoA hP (xy_apart C.2.2.2.2.2.2.2.2.2.2 X1) (fun r1 Y1 hw H locs hPy hS hO hP => ?_)
  refine lv_icmp_eq (tgt := 1701) C.1 C.2.1 dL_law_1558 (by decide) (fun _ => ?_) (fun hn => absurd hw.1 hn)
  exact kk X1 Y1 _ _ _ hw.2 hP hPy hO hS hl
set_option maxRecDepth 100000 in
set_option maxHeartbeats 4000000 in
theorem lw_case_36 {p : Program} {l : Launch} {e : Env} {s : State} {m : MethodId} {below : List Frame} {meth : Method} {c : Code} {g : Geo} {b L o : Nat} {xs : Nat → Int32} (hL : L ≤ 3072) (C : CX g p s m #[Value.ref b] meth c cL_law 7 ret RL) (hX : va_X b L xs s s.heap) (hbl : b < s.heap.size) (hAd : ∀ i, i < NN → s.heap.size ≤ g.2.1 i) (hoA : ¬ AX g o) (Rel : Mem → Mem → Prop) (h36 : ∀ (X Y : Mem) (a1 a2 : Int32), Rel X Y → p_X10_distance a1 a2 X (fun r X1 => p_X11_distance a1 a2 Y (fun r1 Y1 => r = r1 ∧ Rel X1 Y1))) (X Y : Mem) (hR : Rel X Y) {x4 : Int32} {i : Nat} (ex4 : x4 = nI i) (hi6 : i + 6 ≤ L) {cells slots : Nat} (hcs : cells + 0 ≤ room_1.cells ∧ slots + 0 ≤ room_1.slots) {H : Heap} {locs : List Loc} {ls : Array Slot} (hP : va_P g.1 clz (xw g X) H) (hPy : va_P g.1 clz (yw g Y) H) (hO : OUT g o H) (hS : va_S (fun q => s.heap.size ≤ q) s.heap H locs) (hl : lv_has ls 7 [(4, .int x4), (0, .ref b), (1, .ref (g.2.1 (0 + 0))), (2, .ref (g.2.1 (138 + 0))), (3, .ref o)]) (kk : ∀ (X1 Y1 : Mem) (H : Heap) (locs : List Loc) (ls : Array Slot), Rel X1 Y1 → va_P g.1 clz (xw g X1) H → va_P g.1 clz (yw g Y1) H → OUT g o H → va_S (fun q => s.heap.size ≤ q) s.heap H locs → lv_has ls 7 [(4, .int x4), (0, .ref b), (1, .ref (g.2.1 (0 + 0))), (2, .ref (g.2.1 (138 + 0))), (3, .ref o)] → W p l e room_1 s m #[Value.ref b] below meth c H locs cells slots (lw_Z below #[Value.ref b] s) (F0 m 1701 ls [])) : W p l e room_1 s m #[Value.ref b] below meth c H locs cells slots (lw_Z below #[Value.ref b] s) (F0 m 1563 ls []) := by
  have hbA : ¬ (fun q : Nat => s.heap.size ≤ q) b := Nat.not_le.mpr hbl
  refine lv_aload_n C.1 C.2.1 dL_law_1563 rfl (lv_at hl 2 rfl) ?_
  refine lv_aload_n C.1 C.2.1 dL_law_1564 rfl (lv_at hl 1 rfl) ?_
  refine lv_iload C.1 C.2.1 dL_law_1565 (lv_at hl 0 rfl) ?_
  refine lv_iconst (v := 1) C.1 C.2.1 dL_law_1567 (by decide) ?_
  refine lv_iadd C.1 C.2.1 dL_law_1568 ?_
  refine va_sld C.1 C.2.1 hX hbl hbA hS (lw_ix 1 ex4 hi6 (by decide) hL) dL_law_1569 ?_
  refine lv_aload_n C.1 C.2.1 dL_law_1570 rfl (lv_at hl 1 rfl) ?_
  refine lv_iload C.1 C.2.1 dL_law_1571 (lv_at hl 0 rfl) ?_
  refine lv_iconst (v := 2) C.1 C.2.1 dL_law_1573 (by decide) ?_
  refine lv_iadd C.1 C.2.1 dL_law_1574 ?_
  refine va_sld C.1 C.2.1 hX hbl hbA hS (lw_ix 2 ex4 hi6 (by decide) hL) dL_law_1575 ?_
  have hw := h36 X Y (xs ((x4 + 1 : Int32)).toNatClampNeg) (xs ((x4 + 2 : Int32)).toNatClampNeg) hR
  refine goLaw (wf := xw g) (runVg (w := xw g X) (As := [.int (xs ((x4 + 1 : Int32)).toNatClampNeg), .int (xs ((x4 + 2 : Int32)).toNatClampNeg)]) (rest := []) C lkL_175 (c_X10_distance l g C.2.2.2.2.2.2.2.2.2.2 (xs ((x4 + 1 : Int32)).toNatClampNeg) (xs ((x4 + 2 : Int32)).toNatClampNeg) X _ hw) hP (SX hS hAd) rfl rfl ⟨Nat.le_of_ble_eq_true rfl, Nat.le_of_ble_eq_true rfl⟩ (xx_0 Nat.zero_lt_one) rfl rfl hl.1 rfl (Nat.le_of_ble_eq_true rfl) dL_law_1576 hcs) hAd hS hO hoA hPy (yx_apart C.2.2.2.2.2.2.2.2.2.2 Y) (fun r X1 hw H locs hP hS hO hPy => ?_)
  refine lv_aload_n C.1 C.2.1 dL_law_1579 rfl (lv_at hl 3 rfl) ?_
  refine lv_aload_n C.1 C.2.1 dL_law_1580 rfl (lv_at hl 1 rfl) ?_
  refine lv_iload C.1 C.2.1 dL_law_1581 (lv_at hl 0 rfl) ?_
  refine lv_iconst (v := 1) C.1 C.2.1 dL_law_1583 (by decide) ?_
  refine lv_iadd C.1 C.2.1 dL_law_1584 ?_
  refine va_sld C.1 C.2.1 hX hbl hbA hS (lw_ix 1 ex4 hi6 (by decide) hL) dL_law_1585 ?_
  refine lv_aload_n C.1 C.2.1 dL_law_1586 rfl (lv_at hl 1 rfl) ?_
  refine lv_iload C.1 C.2.1 dL_law_1587 (lv_at hl 0 rfl) ?_
  refine lv_iconst (v := 2) C.1 C.2.1 dL_law_1589 (by decide) ?_
  refine lv_iadd C.1 C.2.1 dL_law_1590 ?_
  refine va_sld C.1 C.2.1 hX hbl hbA hS (lw_ix 2 ex4 hi6 (by decide) hL) dL_law_1591 ?_
  refine goLaw (wf := yw g) (runVg (w := yw g Y) (As := [.int (xs ((x4 + 1 : Int32)).toNatClampNeg), .int (xs ((x4 + 2 : Int32)).toNatClampNeg)]) (rest := [.int r]) C lkL_178 (c_X11_distance l g C.2.2.2.2.2.2.2.2.2.2 (xs ((x4 + 1 : Int32)).toNatClampNeg) (xs ((x4 + 2 : Int32)).toNatClampNeg) Y _ hw) hPy (SX hS hAd) rfl rfl ⟨Nat.le_of_ble_eq_true rfl, Nat.le_of_ble_eq_true rfl⟩ (xx_40 Nat.zero_lt_one) rfl rfl hl.1 rfl (Nat.le_of_ble_eq_true rfl) dL_law_1592 hcs) hAd hS hO hoA hP (xy_apart C.2.2.2.2.2.2.2.2.2.2 X1) (fun r1 Y1 hw H locs hPy hS hO hP => ?_)
  refine lv_icmp_eq (tgt := 1701) C.1 C.2.1 dL_law_1595 (by decide) (fun _ => ?_) (fun hn => absurd hw.1 hn)
  exact kk X1 Y1 _ _ _ hw.2 hP hPy hO hS hl
set_option maxRecDepth 100000 in
set_option maxHeartbeats 4000000 in
theorem lw_case_37 {p : Program} {l : Launch} {e : Env} {s : State} {m : MethodId} {below : List Frame} {meth : Method} {c : Code} {g : Geo} {b L o : Nat} {xs : Nat → Int32} (hL : L ≤ 3072) (C : CX g p s m #[Value.ref b] meth c cL_law 7 ret RL) (hX : va_X b L xs s s.heap) (hbl : b < s.heap.size) (hAd : ∀ i, i < NN → s.heap.size ≤ g.2.1 i) (hoA : ¬ AX g o) (Rel : Mem → Mem → Prop) (h37 : ∀ (X Y : Mem) (a1 a2 : Int32), Rel X Y → p_X10_tried a1 a2 X (fun r X1 => p_X11_tried a1 a2 Y (fun r1 Y1 => r = r1 ∧ Rel X1 Y1))) (X Y : Mem) (hR : Rel X Y) {x4 : Int32} {i : Nat} (ex4 : x4 = nI i) (hi6 : i + 6 ≤ L) {cells slots : Nat} (hcs : cells + 0 ≤ room_1.cells ∧ slots + 0 ≤ room_1.slots) {H : Heap} {locs : List Loc} {ls : Array Slot} (hP : va_P g.1 clz (xw g X) H) (hPy : va_P g.1 clz (yw g Y) H) (hO : OUT g o H) (hS : va_S (fun q => s.heap.size ≤ q) s.heap H locs) (hl : lv_has ls 7 [(4, .int x4), (0, .ref b), (1, .ref (g.2.1 (0 + 0))), (2, .ref (g.2.1 (138 + 0))), (3, .ref o)]) (kk : ∀ (X1 Y1 : Mem) (H : Heap) (locs : List Loc) (ls : Array Slot), Rel X1 Y1 → va_P g.1 clz (xw g X1) H → va_P g.1 clz (yw g Y1) H → OUT g o H → va_S (fun q => s.heap.size ≤ q) s.heap H locs → lv_has ls 7 [(4, .int x4), (0, .ref b), (1, .ref (g.2.1 (0 + 0))), (2, .ref (g.2.1 (138 + 0))), (3, .ref o)] → W p l e room_1 s m #[Value.ref b] below meth c H locs cells slots (lw_Z below #[Value.ref b] s) (F0 m 1701 ls [])) : W p l e room_1 s m #[Value.ref b] below meth c H locs cells slots (lw_Z below #[Value.ref b] s) (F0 m 1600 ls []) := by
  have hbA : ¬ (fun q : Nat => s.heap.size ≤ q) b := Nat.not_le.mpr hbl
  refine lv_aload_n C.1 C.2.1 dL_law_1600 rfl (lv_at hl 2 rfl) ?_
  refine lv_aload_n C.1 C.2.1 dL_law_1601 rfl (lv_at hl 1 rfl) ?_
  refine lv_iload C.1 C.2.1 dL_law_1602 (lv_at hl 0 rfl) ?_
  refine lv_iconst (v := 1) C.1 C.2.1 dL_law_1604 (by decide) ?_
  refine lv_iadd C.1 C.2.1 dL_law_1605 ?_
  refine va_sld C.1 C.2.1 hX hbl hbA hS (lw_ix 1 ex4 hi6 (by decide) hL) dL_law_1606 ?_
  refine lv_aload_n C.1 C.2.1 dL_law_1607 rfl (lv_at hl 1 rfl) ?_
  refine lv_iload C.1 C.2.1 dL_law_1608 (lv_at hl 0 rfl) ?_
  refine lv_iconst (v := 2) C.1 C.2.1 dL_law_1610 (by decide) ?_
  refine lv_iadd C.1 C.2.1 dL_law_1611 ?_
  refine va_sld C.1 C.2.1 hX hbl hbA hS (lw_ix 2 ex4 hi6 (by decide) hL) dL_law_1612 ?_
  have hw := h37 X Y (xs ((x4 + 1 : Int32)).toNatClampNeg) (xs ((x4 + 2 : Int32)).toNatClampNeg) hR
  refine goLaw (wf := xw g) (runVg (w := xw g X) (As := [.int (xs ((x4 + 1 : Int32)).toNatClampNeg), .int (xs ((x4 + 2 : Int32)).toNatClampNeg)]) (rest := []) C lkL_179 (c_X10_tried l g C.2.2.2.2.2.2.2.2.2.2 (xs ((x4 + 1 : Int32)).toNatClampNeg) (xs ((x4 + 2 : Int32)).toNatClampNeg) X _ hw) hP (SX hS hAd) rfl rfl ⟨Nat.le_of_ble_eq_true rfl, Nat.le_of_ble_eq_true rfl⟩ (xx_0 Nat.zero_lt_one) rfl rfl hl.1 rfl (Nat.le_of_ble_eq_true rfl) dL_law_1613 hcs) hAd hS hO hoA hPy (yx_apart C.2.2.2.2.2.2.2.2.2.2 Y) (fun r X1 hw H locs hP hS hO hPy => ?_)
  refine lv_aload_n C.1 C.2.1 dL_law_1616 rfl (lv_at hl 3 rfl) ?_
  refine lv_aload_n C.1 C.2.1 dL_law_1617 rfl (lv_at hl 1 rfl) ?_
  refine lv_iload C.1 C.2.1 dL_law_1618 (lv_at hl 0 rfl) ?_
  refine lv_iconst (v := 1) C.1 C.2.1 dL_law_1620 (by decide) ?_
  refine lv_iadd C.1 C.2.1 dL_law_1621 ?_
  refine va_sld C.1 C.2.1 hX hbl hbA hS (lw_ix 1 ex4 hi6 (by decide) hL) dL_law_1622 ?_
  refine lv_aload_n C.1 C.2.1 dL_law_1623 rfl (lv_at hl 1 rfl) ?_
  refine lv_iload C.1 C.2.1 dL_law_1624 (lv_at hl 0 rfl) ?_
  refine lv_iconst (v := 2) C.1 C.2.1 dL_law_1626 (by decide) ?_
  refine lv_iadd C.1 C.2.1 dL_law_1627 ?_
  refine va_sld C.1 C.2.1 hX hbl hbA hS (lw_ix 2 ex4 hi6 (by decide) hL) dL_law_1628 ?_
  refine goLaw (wf := yw g) (runVg (w := yw g Y) (As := [.int (xs ((x4 + 1 : Int32)).toNatClampNeg), .int (xs ((x4 + 2 : Int32)).toNatClampNeg)]) (rest := [.int r]) C lkL_182 (c_X11_tried l g C.2.2.2.2.2.2.2.2.2.2 (xs ((x4 + 1 : Int32)).toNatClampNeg) (xs ((x4 + 2 : Int32)).toNatClampNeg) Y _ hw) hPy (SX hS hAd) rfl rfl ⟨Nat.le_of_ble_eq_true rfl, Nat.le_of_ble_eq_true rfl⟩ (xx_40 Nat.zero_lt_one) rfl rfl hl.1 rfl (Nat.le_of_ble_eq_true rfl) dL_law_1629 hcs) hAd hS hO hoA hP (xy_apart C.2.2.2.2.2.2.2.2.2.2 X1) (fun r1 Y1 hw H locs hPy hS hO hP => ?_)
  refine lv_icmp_eq (tgt := 1701) C.1 C.2.1 dL_law_1632 (by decide) (fun _ => ?_) (fun hn => absurd hw.1 hn)
  exact kk X1 Y1 _ _ _ hw.2 hP hPy hO hS hl
set_option maxRecDepth 100000 in
set_option maxHeartbeats 4000000 in
theorem lw_case_38 {p : Program} {l : Launch} {e : Env} {s : State} {m : MethodId} {below : List Frame} {meth : Method} {c : Code} {g : Geo} {b L o : Nat} {xs : Nat → Int32} (hL : L ≤ 3072) (C : CX g p s m #[Value.ref b] meth c cL_law 7 ret RL) (hX : va_X b L xs s s.heap) (hbl : b < s.heap.size) (hAd : ∀ i, i < NN → s.heap.size ≤ g.2.1 i) (hoA : ¬ AX g o) (Rel : Mem → Mem → Prop) (h38 : ∀ (X Y : Mem), Rel X Y → p_X10_undo  X (fun r X1 => p_X11_undo  Y (fun r1 Y1 => r = r1 ∧ Rel X1 Y1))) (X Y : Mem) (hR : Rel X Y) {x4 : Int32} {i : Nat} (ex4 : x4 = nI i) (hi6 : i + 6 ≤ L) {cells slots : Nat} (hcs : cells + 0 ≤ room_1.cells ∧ slots + 0 ≤ room_1.slots) {H : Heap} {locs : List Loc} {ls : Array Slot} (hP : va_P g.1 clz (xw g X) H) (hPy : va_P g.1 clz (yw g Y) H) (hO : OUT g o H) (hS : va_S (fun q => s.heap.size ≤ q) s.heap H locs) (hl : lv_has ls 7 [(4, .int x4), (0, .ref b), (1, .ref (g.2.1 (0 + 0))), (2, .ref (g.2.1 (138 + 0))), (3, .ref o)]) (kk : ∀ (X1 Y1 : Mem) (H : Heap) (locs : List Loc) (ls : Array Slot), Rel X1 Y1 → va_P g.1 clz (xw g X1) H → va_P g.1 clz (yw g Y1) H → OUT g o H → va_S (fun q => s.heap.size ≤ q) s.heap H locs → lv_has ls 7 [(4, .int x4), (0, .ref b), (1, .ref (g.2.1 (0 + 0))), (2, .ref (g.2.1 (138 + 0))), (3, .ref o)] → W p l e room_1 s m #[Value.ref b] below meth c H locs cells slots (lw_Z below #[Value.ref b] s) (F0 m 1701 ls [])) : W p l e room_1 s m #[Value.ref b] below meth c H locs cells slots (lw_Z below #[Value.ref b] s) (F0 m 1637 ls []) := by
  have hbA : ¬ (fun q : Nat => s.heap.size ≤ q) b := Nat.not_le.mpr hbl
  refine lv_aload_n C.1 C.2.1 dL_law_1637 rfl (lv_at hl 2 rfl) ?_
  have hw := h38 X Y  hR
  refine goLaw (wf := xw g) (runVg (w := xw g X) (As := []) (rest := []) C lkL_183 (c_X10_undo l g C.2.2.2.2.2.2.2.2.2.2  X _ hw) hP (SX hS hAd) rfl rfl ⟨Nat.le_of_ble_eq_true rfl, Nat.le_of_ble_eq_true rfl⟩ (xx_0 Nat.zero_lt_one) rfl rfl hl.1 rfl (Nat.le_of_ble_eq_true rfl) dL_law_1638 hcs) hAd hS hO hoA hPy (yx_apart C.2.2.2.2.2.2.2.2.2.2 Y) (fun r X1 hw H locs hP hS hO hPy => ?_)
  refine lv_aload_n C.1 C.2.1 dL_law_1641 rfl (lv_at hl 3 rfl) ?_
  refine goLaw (wf := yw g) (runVg (w := yw g Y) (As := []) (rest := [.int r]) C lkL_186 (c_X11_undo l g C.2.2.2.2.2.2.2.2.2.2  Y _ hw) hPy (SX hS hAd) rfl rfl ⟨Nat.le_of_ble_eq_true rfl, Nat.le_of_ble_eq_true rfl⟩ (xx_40 Nat.zero_lt_one) rfl rfl hl.1 rfl (Nat.le_of_ble_eq_true rfl) dL_law_1642 hcs) hAd hS hO hoA hP (xy_apart C.2.2.2.2.2.2.2.2.2.2 X1) (fun r1 Y1 hw H locs hPy hS hO hP => ?_)
  refine lv_icmp_eq (tgt := 1701) C.1 C.2.1 dL_law_1645 (by decide) (fun _ => ?_) (fun hn => absurd hw.1 hn)
  exact kk X1 Y1 _ _ _ hw.2 hP hPy hO hS hl
set_option maxRecDepth 100000 in
set_option maxHeartbeats 4000000 in
theorem lw_case_39 {p : Program} {l : Launch} {e : Env} {s : State} {m : MethodId} {below : List Frame} {meth : Method} {c : Code} {g : Geo} {b L o : Nat} {xs : Nat → Int32} (hL : L ≤ 3072) (C : CX g p s m #[Value.ref b] meth c cL_law 7 ret RL) (hX : va_X b L xs s s.heap) (hbl : b < s.heap.size) (hAd : ∀ i, i < NN → s.heap.size ≤ g.2.1 i) (hoA : ¬ AX g o) (Rel : Mem → Mem → Prop) (h39 : ∀ (X Y : Mem), Rel X Y → p_X10_keep  X (fun r X1 => p_X11_keep  Y (fun r1 Y1 => r = r1 ∧ Rel X1 Y1))) (X Y : Mem) (hR : Rel X Y) {x4 : Int32} {i : Nat} (ex4 : x4 = nI i) (hi6 : i + 6 ≤ L) {cells slots : Nat} (hcs : cells + 0 ≤ room_1.cells ∧ slots + 0 ≤ room_1.slots) {H : Heap} {locs : List Loc} {ls : Array Slot} (hP : va_P g.1 clz (xw g X) H) (hPy : va_P g.1 clz (yw g Y) H) (hO : OUT g o H) (hS : va_S (fun q => s.heap.size ≤ q) s.heap H locs) (hl : lv_has ls 7 [(4, .int x4), (0, .ref b), (1, .ref (g.2.1 (0 + 0))), (2, .ref (g.2.1 (138 + 0))), (3, .ref o)]) (kk : ∀ (X1 Y1 : Mem) (H : Heap) (locs : List Loc) (ls : Array Slot), Rel X1 Y1 → va_P g.1 clz (xw g X1) H → va_P g.1 clz (yw g Y1) H → OUT g o H → va_S (fun q => s.heap.size ≤ q) s.heap H locs → lv_has ls 7 [(4, .int x4), (0, .ref b), (1, .ref (g.2.1 (0 + 0))), (2, .ref (g.2.1 (138 + 0))), (3, .ref o)] → W p l e room_1 s m #[Value.ref b] below meth c H locs cells slots (lw_Z below #[Value.ref b] s) (F0 m 1701 ls [])) : W p l e room_1 s m #[Value.ref b] below meth c H locs cells slots (lw_Z below #[Value.ref b] s) (F0 m 1650 ls []) := by
  have hbA : ¬ (fun q : Nat => s.heap.size ≤ q) b := Nat.not_le.mpr hbl
  refine lv_aload_n C.1 C.2.1 dL_law_1650 rfl (lv_at hl 2 rfl) ?_
  have hw := h39 X Y  hR
  refine goLaw (wf := xw g) (runVg (w := xw g X) (As := []) (rest := []) C lkL_187 (c_X10_keep l g C.2.2.2.2.2.2.2.2.2.2  X _ hw) hP (SX hS hAd) rfl rfl ⟨Nat.le_of_ble_eq_true rfl, Nat.le_of_ble_eq_true rfl⟩ (xx_0 Nat.zero_lt_one) rfl rfl hl.1 rfl (Nat.le_of_ble_eq_true rfl) dL_law_1651 hcs) hAd hS hO hoA hPy (yx_apart C.2.2.2.2.2.2.2.2.2.2 Y) (fun r X1 hw H locs hP hS hO hPy => ?_)
  refine lv_aload_n C.1 C.2.1 dL_law_1654 rfl (lv_at hl 3 rfl) ?_
  refine goLaw (wf := yw g) (runVg (w := yw g Y) (As := []) (rest := [.int r]) C lkL_190 (c_X11_keep l g C.2.2.2.2.2.2.2.2.2.2  Y _ hw) hPy (SX hS hAd) rfl rfl ⟨Nat.le_of_ble_eq_true rfl, Nat.le_of_ble_eq_true rfl⟩ (xx_40 Nat.zero_lt_one) rfl rfl hl.1 rfl (Nat.le_of_ble_eq_true rfl) dL_law_1655 hcs) hAd hS hO hoA hP (xy_apart C.2.2.2.2.2.2.2.2.2.2 X1) (fun r1 Y1 hw H locs hPy hS hO hP => ?_)
  refine lv_icmp_eq (tgt := 1701) C.1 C.2.1 dL_law_1658 (by decide) (fun _ => ?_) (fun hn => absurd hw.1 hn)
  exact kk X1 Y1 _ _ _ hw.2 hP hPy hO hS hl
set_option maxRecDepth 100000 in
set_option maxHeartbeats 4000000 in
theorem lw_case_40 {p : Program} {l : Launch} {e : Env} {s : State} {m : MethodId} {below : List Frame} {meth : Method} {c : Code} {g : Geo} {b L o : Nat} {xs : Nat → Int32} (hL : L ≤ 3072) (C : CX g p s m #[Value.ref b] meth c cL_law 7 ret RL) (hX : va_X b L xs s s.heap) (hbl : b < s.heap.size) (hAd : ∀ i, i < NN → s.heap.size ≤ g.2.1 i) (hoA : ¬ AX g o) (Rel : Mem → Mem → Prop) (h40 : ∀ (X Y : Mem), Rel X Y → p_X10_back  X (fun r X1 => p_X11_back  Y (fun r1 Y1 => r = r1 ∧ Rel X1 Y1))) (X Y : Mem) (hR : Rel X Y) {x4 : Int32} {i : Nat} (ex4 : x4 = nI i) (hi6 : i + 6 ≤ L) {cells slots : Nat} (hcs : cells + 0 ≤ room_1.cells ∧ slots + 0 ≤ room_1.slots) {H : Heap} {locs : List Loc} {ls : Array Slot} (hP : va_P g.1 clz (xw g X) H) (hPy : va_P g.1 clz (yw g Y) H) (hO : OUT g o H) (hS : va_S (fun q => s.heap.size ≤ q) s.heap H locs) (hl : lv_has ls 7 [(4, .int x4), (0, .ref b), (1, .ref (g.2.1 (0 + 0))), (2, .ref (g.2.1 (138 + 0))), (3, .ref o)]) (kk : ∀ (X1 Y1 : Mem) (H : Heap) (locs : List Loc) (ls : Array Slot), Rel X1 Y1 → va_P g.1 clz (xw g X1) H → va_P g.1 clz (yw g Y1) H → OUT g o H → va_S (fun q => s.heap.size ≤ q) s.heap H locs → lv_has ls 7 [(4, .int x4), (0, .ref b), (1, .ref (g.2.1 (0 + 0))), (2, .ref (g.2.1 (138 + 0))), (3, .ref o)] → W p l e room_1 s m #[Value.ref b] below meth c H locs cells slots (lw_Z below #[Value.ref b] s) (F0 m 1701 ls [])) : W p l e room_1 s m #[Value.ref b] below meth c H locs cells slots (lw_Z below #[Value.ref b] s) (F0 m 1663 ls []) := by
  have hbA : ¬ (fun q : Nat => s.heap.size ≤ q) b := Nat.not_le.mpr hbl
  refine lv_aload_n C.1 C.2.1 dL_law_1663 rfl (lv_at hl 2 rfl) ?_
  have hw := h40 X Y  hR
  refine goLaw (wf := xw g) (runVg (w := xw g X) (As := []) (rest := []) C lkL_191 (c_X10_back l g C.2.2.2.2.2.2.2.2.2.2  X _ hw) hP (SX hS hAd) rfl rfl ⟨Nat.le_of_ble_eq_true rfl, Nat.le_of_ble_eq_true rfl⟩ (xx_0 Nat.zero_lt_one) rfl rfl hl.1 rfl (Nat.le_of_ble_eq_true rfl) dL_law_1664 hcs) hAd hS hO hoA hPy (yx_apart C.2.2.2.2.2.2.2.2.2.2 Y) (fun r X1 hw H locs hP hS hO hPy => ?_)
  refine lv_aload_n C.1 C.2.1 dL_law_1667 rfl (lv_at hl 3 rfl) ?_
  refine goLaw (wf := yw g) (runVg (w := yw g Y) (As := []) (rest := [.int r]) C lkL_194 (c_X11_back l g C.2.2.2.2.2.2.2.2.2.2  Y _ hw) hPy (SX hS hAd) rfl rfl ⟨Nat.le_of_ble_eq_true rfl, Nat.le_of_ble_eq_true rfl⟩ (xx_40 Nat.zero_lt_one) rfl rfl hl.1 rfl (Nat.le_of_ble_eq_true rfl) dL_law_1668 hcs) hAd hS hO hoA hP (xy_apart C.2.2.2.2.2.2.2.2.2.2 X1) (fun r1 Y1 hw H locs hPy hS hO hP => ?_)
  refine lv_icmp_eq (tgt := 1701) C.1 C.2.1 dL_law_1671 (by decide) (fun _ => ?_) (fun hn => absurd hw.1 hn)
  exact kk X1 Y1 _ _ _ hw.2 hP hPy hO hS hl
set_option maxRecDepth 100000 in
set_option maxHeartbeats 4000000 in
theorem lw_case_41 {p : Program} {l : Launch} {e : Env} {s : State} {m : MethodId} {below : List Frame} {meth : Method} {c : Code} {g : Geo} {b L o : Nat} {xs : Nat → Int32} (hL : L ≤ 3072) (C : CX g p s m #[Value.ref b] meth c cL_law 7 ret RL) (hX : va_X b L xs s s.heap) (hbl : b < s.heap.size) (hAd : ∀ i, i < NN → s.heap.size ≤ g.2.1 i) (hoA : ¬ AX g o) (Rel : Mem → Mem → Prop) (h41 : ∀ (X Y : Mem) (a1 : Int32), Rel X Y → p_X10_count a1 X (fun r X1 => p_X11_count a1 Y (fun r1 Y1 => r = r1 ∧ Rel X1 Y1))) (X Y : Mem) (hR : Rel X Y) {x4 : Int32} {i : Nat} (ex4 : x4 = nI i) (hi6 : i + 6 ≤ L) {cells slots : Nat} (hcs : cells + 0 ≤ room_1.cells ∧ slots + 0 ≤ room_1.slots) {H : Heap} {locs : List Loc} {ls : Array Slot} (hP : va_P g.1 clz (xw g X) H) (hPy : va_P g.1 clz (yw g Y) H) (hO : OUT g o H) (hS : va_S (fun q => s.heap.size ≤ q) s.heap H locs) (hl : lv_has ls 7 [(4, .int x4), (0, .ref b), (1, .ref (g.2.1 (0 + 0))), (2, .ref (g.2.1 (138 + 0))), (3, .ref o)]) (kk : ∀ (X1 Y1 : Mem) (H : Heap) (locs : List Loc) (ls : Array Slot), Rel X1 Y1 → va_P g.1 clz (xw g X1) H → va_P g.1 clz (yw g Y1) H → OUT g o H → va_S (fun q => s.heap.size ≤ q) s.heap H locs → lv_has ls 7 [(4, .int x4), (0, .ref b), (1, .ref (g.2.1 (0 + 0))), (2, .ref (g.2.1 (138 + 0))), (3, .ref o)] → W p l e room_1 s m #[Value.ref b] below meth c H locs cells slots (lw_Z below #[Value.ref b] s) (F0 m 1701 ls [])) : W p l e room_1 s m #[Value.ref b] below meth c H locs cells slots (lw_Z below #[Value.ref b] s) (F0 m 1676 ls []) := by
  have hbA : ¬ (fun q : Nat => s.heap.size ≤ q) b := Nat.not_le.mpr hbl
  refine lv_aload_n C.1 C.2.1 dL_law_1676 rfl (lv_at hl 2 rfl) ?_
  refine lv_aload_n C.1 C.2.1 dL_law_1677 rfl (lv_at hl 1 rfl) ?_
  refine lv_iload C.1 C.2.1 dL_law_1678 (lv_at hl 0 rfl) ?_
  refine lv_iconst (v := 1) C.1 C.2.1 dL_law_1680 (by decide) ?_
  refine lv_iadd C.1 C.2.1 dL_law_1681 ?_
  refine va_sld C.1 C.2.1 hX hbl hbA hS (lw_ix 1 ex4 hi6 (by decide) hL) dL_law_1682 ?_
  have hw := h41 X Y (xs ((x4 + 1 : Int32)).toNatClampNeg) hR
  refine goLaw (wf := xw g) (runVg (w := xw g X) (As := [.int (xs ((x4 + 1 : Int32)).toNatClampNeg)]) (rest := []) C lkL_195 (c_X10_count l g C.2.2.2.2.2.2.2.2.2.2 (xs ((x4 + 1 : Int32)).toNatClampNeg) X _ hw) hP (SX hS hAd) rfl rfl ⟨Nat.le_of_ble_eq_true rfl, Nat.le_of_ble_eq_true rfl⟩ (xx_0 Nat.zero_lt_one) rfl rfl hl.1 rfl (Nat.le_of_ble_eq_true rfl) dL_law_1683 hcs) hAd hS hO hoA hPy (yx_apart C.2.2.2.2.2.2.2.2.2.2 Y) (fun r X1 hw H locs hP hS hO hPy => ?_)
  refine lv_aload_n C.1 C.2.1 dL_law_1686 rfl (lv_at hl 3 rfl) ?_
  refine lv_aload_n C.1 C.2.1 dL_law_1687 rfl (lv_at hl 1 rfl) ?_
  refine lv_iload C.1 C.2.1 dL_law_1688 (lv_at hl 0 rfl) ?_
  refine lv_iconst (v := 1) C.1 C.2.1 dL_law_1690 (by decide) ?_
  refine lv_iadd C.1 C.2.1 dL_law_1691 ?_
  refine va_sld C.1 C.2.1 hX hbl hbA hS (lw_ix 1 ex4 hi6 (by decide) hL) dL_law_1692 ?_
  refine goLaw (wf := yw g) (runVg (w := yw g Y) (As := [.int (xs ((x4 + 1 : Int32)).toNatClampNeg)]) (rest := [.int r]) C lkL_198 (c_X11_count l g C.2.2.2.2.2.2.2.2.2.2 (xs ((x4 + 1 : Int32)).toNatClampNeg) Y _ hw) hPy (SX hS hAd) rfl rfl ⟨Nat.le_of_ble_eq_true rfl, Nat.le_of_ble_eq_true rfl⟩ (xx_40 Nat.zero_lt_one) rfl rfl hl.1 rfl (Nat.le_of_ble_eq_true rfl) dL_law_1693 hcs) hAd hS hO hoA hP (xy_apart C.2.2.2.2.2.2.2.2.2.2 X1) (fun r1 Y1 hw H locs hPy hS hO hP => ?_)
  refine lv_icmp_eq (tgt := 1701) C.1 C.2.1 dL_law_1696 (by decide) (fun _ => ?_) (fun hn => absurd hw.1 hn)
  exact kk X1 Y1 _ _ _ hw.2 hP hPy hO hS hl
set_option maxRecDepth 100000 in
set_option maxHeartbeats 8000000 in
/-- the law's loop, out of what each pair of calls keeps (open in h0 .. h41) -/
theorem lw_loop_open {p : Program} {l : Launch} {e : Env} {s : State} {m : MethodId} {below : List Frame} {meth : Method} {c : Code} {g : Geo} {b L o : Nat} {xs : Nat → Int32} (hL : L ≤ 3072) (C : CX g p s m #[Value.ref b] meth c cL_law 7 ret RL) (hX : va_X b L xs s s.heap) (hbl : b < s.heap.size) (hAd : ∀ i, i < NN → s.heap.size ≤ g.2.1 i) (hoA : ¬ AX g o) (Rel : Mem → Mem → Prop) (hlocks : meth.locks = false)
    (h0 : ∀ (X Y : Mem) (a1 a2 a3 a4 a5 : Int32), Rel X Y → p_X10_feed a1 a2 a3 a4 a5 X (fun r X1 => p_X11_feed a1 a2 a3 a4 a5 Y (fun r1 Y1 => r = r1 ∧ Rel X1 Y1)))
    (h1 : ∀ (X Y : Mem) (a1 : Int32), Rel X Y → p_X10_text a1 X (fun r X1 => p_X11_text a1 Y (fun r1 Y1 => r = r1 ∧ Rel X1 Y1)))
    (h2 : ∀ (X Y : Mem) (a1 : Int32), Rel X Y → p_X10_fault a1 X (fun r X1 => p_X11_fault a1 Y (fun r1 Y1 => r = r1 ∧ Rel X1 Y1)))
    (h3 : ∀ (X Y : Mem) (a1 : Int32), Rel X Y → p_X10_named a1 X (fun r X1 => p_X11_named a1 Y (fun r1 Y1 => r = r1 ∧ Rel X1 Y1)))
    (h5 : ∀ (X Y : Mem) (a1 a2 : Int32), Rel X Y → p_X10_chip a1 a2 X (fun r X1 => p_X11_chip a1 a2 Y (fun r1 Y1 => r = r1 ∧ Rel X1 Y1)))
    (h6 : ∀ (X Y : Mem) (a1 : Int32), Rel X Y → p_X10_period a1 X (fun r X1 => p_X11_period a1 Y (fun r1 Y1 => r = r1 ∧ Rel X1 Y1)))
    (h7 : ∀ (X Y : Mem) (a1 a2 a3 : Int32), Rel X Y → p_X10_cross a1 a2 a3 X (fun r X1 => p_X11_cross a1 a2 a3 Y (fun r1 Y1 => r = r1 ∧ Rel X1 Y1)))
    (h8 : ∀ (X Y : Mem) (a1 a2 : Int32), Rel X Y → p_X10_worst a1 a2 X (fun r X1 => p_X11_worst a1 a2 Y (fun r1 Y1 => r = r1 ∧ Rel X1 Y1)))
    (h9 : ∀ (X Y : Mem), Rel X Y → p_X10_quiet  X (fun r X1 => p_X11_quiet  Y (fun r1 Y1 => r = r1 ∧ Rel X1 Y1)))
    (h10 : ∀ (X Y : Mem) (a1 a2 : Int32), Rel X Y → p_X10_sample a1 a2 X (fun r X1 => p_X11_sample a1 a2 Y (fun r1 Y1 => r = r1 ∧ Rel X1 Y1)))
    (h11 : ∀ (X Y : Mem) (a1 a2 : Int32), Rel X Y → p_X10_bit a1 a2 X (fun r X1 => p_X11_bit a1 a2 Y (fun r1 Y1 => r = r1 ∧ Rel X1 Y1)))
    (h12 : ∀ (X Y : Mem) (a1 a2 a3 a4 a5 : Int32), Rel X Y → p_X10_sum a1 a2 a3 a4 a5 X (fun r X1 => p_X11_sum a1 a2 a3 a4 a5 Y (fun r1 Y1 => r = r1 ∧ Rel X1 Y1)))
    (h13 : ∀ (X Y : Mem) (a1 a2 a3 a4 : Int32), Rel X Y → p_X10_hunt a1 a2 a3 a4 X (fun r X1 => p_X11_hunt a1 a2 a3 a4 Y (fun r1 Y1 => r = r1 ∧ Rel X1 Y1)))
    (h14 : ∀ (X Y : Mem) (a1 a2 : Int32), Rel X Y → p_X10_listen a1 a2 X (fun r X1 => p_X11_listen a1 a2 Y (fun r1 Y1 => r = r1 ∧ Rel X1 Y1)))
    (h15 : ∀ (X Y : Mem) (a1 a2 a3 : Int32), Rel X Y → p_X10_clear a1 a2 a3 X (fun r X1 => p_X11_clear a1 a2 a3 Y (fun r1 Y1 => r = r1 ∧ Rel X1 Y1)))
    (h16 : ∀ (X Y : Mem) (a1 a2 : Int32), Rel X Y → p_X10_limit a1 a2 X (fun r X1 => p_X11_limit a1 a2 Y (fun r1 Y1 => r = r1 ∧ Rel X1 Y1)))
    (h17 : ∀ (X Y : Mem) (a1 a2 a3 a4 : Int32), Rel X Y → p_X10_chance a1 a2 a3 a4 X (fun r X1 => p_X11_chance a1 a2 a3 a4 Y (fun r1 Y1 => r = r1 ∧ Rel X1 Y1)))
    (h18 : ∀ (X Y : Mem) (a1 a2 a3 : Int32), Rel X Y → p_X10_clearest a1 a2 a3 X (fun r X1 => p_X11_clearest a1 a2 a3 Y (fun r1 Y1 => r = r1 ∧ Rel X1 Y1)))
    (h19 : ∀ (X Y : Mem) (a1 a2 a3 : Int32), Rel X Y → p_X10_tune a1 a2 a3 X (fun r X1 => p_X11_tune a1 a2 a3 Y (fun r1 Y1 => r = r1 ∧ Rel X1 Y1)))
    (h20 : ∀ (X Y : Mem) (a1 a2 : Int32), Rel X Y → p_X10_lock a1 a2 X (fun r X1 => p_X11_lock a1 a2 Y (fun r1 Y1 => r = r1 ∧ Rel X1 Y1)))
    (h21 : ∀ (X Y : Mem), Rel X Y → p_X10_drop  X (fun r X1 => p_X11_drop  Y (fun r1 Y1 => r = r1 ∧ Rel X1 Y1)))
    (h22 : ∀ (X Y : Mem) (a1 : Int32), Rel X Y → p_X10_follow a1 X (fun r X1 => p_X11_follow a1 Y (fun r1 Y1 => r = r1 ∧ Rel X1 Y1)))
    (h23 : ∀ (X Y : Mem) (a1 a2 : Int32), Rel X Y → p_X10_channel a1 a2 X (fun r X1 => p_X11_channel a1 a2 Y (fun r1 Y1 => r = r1 ∧ Rel X1 Y1)))
    (h24 : ∀ (X Y : Mem) (a1 a2 : Int32), Rel X Y → p_X10_logged a1 a2 X (fun r X1 => p_X11_logged a1 a2 Y (fun r1 Y1 => r = r1 ∧ Rel X1 Y1)))
    (h25 : ∀ (X Y : Mem) (a1 a2 a3 : Int32), Rel X Y → p_X10_frame a1 a2 a3 X (fun r X1 => p_X11_frame a1 a2 a3 Y (fun r1 Y1 => r = r1 ∧ Rel X1 Y1)))
    (h26 : ∀ (X Y : Mem) (a1 : Int32), Rel X Y → p_X10_bad a1 X (fun r X1 => p_X11_bad a1 Y (fun r1 Y1 => r = r1 ∧ Rel X1 Y1)))
    (h27 : ∀ (X Y : Mem) (a1 : Int32), Rel X Y → p_X10_errors a1 X (fun r X1 => p_X11_errors a1 Y (fun r1 Y1 => r = r1 ∧ Rel X1 Y1)))
    (h28 : ∀ (X Y : Mem) (a1 a2 : Int32), Rel X Y → p_X10_latest a1 a2 X (fun r X1 => p_X11_latest a1 a2 Y (fun r1 Y1 => r = r1 ∧ Rel X1 Y1)))
    (h29 : ∀ (X Y : Mem) (a1 : Int32), Rel X Y → p_X10_off a1 X (fun r X1 => p_X11_off a1 Y (fun r1 Y1 => r = r1 ∧ Rel X1 Y1)))
    (h30 : ∀ (X Y : Mem) (a1 a2 : Int32), Rel X Y → p_X10_range a1 a2 X (fun r X1 => p_X11_range a1 a2 Y (fun r1 Y1 => r = r1 ∧ Rel X1 Y1)))
    (h31 : ∀ (X Y : Mem) (a1 : Int32), Rel X Y → p_X10_measure a1 X (fun r X1 => p_X11_measure a1 Y (fun r1 Y1 => r = r1 ∧ Rel X1 Y1)))
    (h32 : ∀ (X Y : Mem) (a1 : Int32), Rel X Y → p_X10_fix a1 X (fun r X1 => p_X11_fix a1 Y (fun r1 Y1 => r = r1 ∧ Rel X1 Y1)))
    (h33 : ∀ (X Y : Mem) (a1 a2 : Int32), Rel X Y → p_X10_fixWithout a1 a2 X (fun r X1 => p_X11_fixWithout a1 a2 Y (fun r1 Y1 => r = r1 ∧ Rel X1 Y1)))
    (h34 : ∀ (X Y : Mem), Rel X Y → p_X10_suspect  X (fun r X1 => p_X11_suspect  Y (fun r1 Y1 => r = r1 ∧ Rel X1 Y1)))
    (h35 : ∀ (X Y : Mem) (a1 : Int32), Rel X Y → p_X10_spread a1 X (fun r X1 => p_X11_spread a1 Y (fun r1 Y1 => r = r1 ∧ Rel X1 Y1)))
    (h36 : ∀ (X Y : Mem) (a1 a2 : Int32), Rel X Y → p_X10_distance a1 a2 X (fun r X1 => p_X11_distance a1 a2 Y (fun r1 Y1 => r = r1 ∧ Rel X1 Y1)))
    (h37 : ∀ (X Y : Mem) (a1 a2 : Int32), Rel X Y → p_X10_tried a1 a2 X (fun r X1 => p_X11_tried a1 a2 Y (fun r1 Y1 => r = r1 ∧ Rel X1 Y1)))
    (h38 : ∀ (X Y : Mem), Rel X Y → p_X10_undo  X (fun r X1 => p_X11_undo  Y (fun r1 Y1 => r = r1 ∧ Rel X1 Y1)))
    (h39 : ∀ (X Y : Mem), Rel X Y → p_X10_keep  X (fun r X1 => p_X11_keep  Y (fun r1 Y1 => r = r1 ∧ Rel X1 Y1)))
    (h40 : ∀ (X Y : Mem), Rel X Y → p_X10_back  X (fun r X1 => p_X11_back  Y (fun r1 Y1 => r = r1 ∧ Rel X1 Y1)))
    (h41 : ∀ (X Y : Mem) (a1 : Int32), Rel X Y → p_X10_count a1 X (fun r X1 => p_X11_count a1 Y (fun r1 Y1 => r = r1 ∧ Rel X1 Y1)))
    (h4 : ∀ (X Y : Mem) (hR : Rel X Y) {x4 : Int32} {i : Nat} (ex4 : x4 = nI i) (hi6 : i + 6 ≤ L) {cells slots : Nat} (hcs : cells + 1 ≤ room_1.cells ∧ slots + 20 ≤ room_1.slots) {H : Heap} {locs : List Loc} {ls : Array Slot} (hP : va_P g.1 clz (xw g X) H) (hPy : va_P g.1 clz (yw g Y) H) (hO : OUT g o H) (hS : va_S (fun q => s.heap.size ≤ q) s.heap H locs) (hl : lv_has ls 7 [(4, .int x4), (0, .ref b), (1, .ref (g.2.1 (0 + 0))), (2, .ref (g.2.1 (138 + 0))), (3, .ref o)]) (kk : ∀ (X1 Y1 : Mem) (H : Heap) (locs : List Loc) (ls : Array Slot) (cells1 slots1 : Nat), Rel X1 Y1 → cells1 ≤ cells + 1 → slots1 ≤ slots + 20 → va_P g.1 clz (xw g X1) H → va_P g.1 clz (yw g Y1) H → OUT g o H → va_S (fun q => s.heap.size ≤ q) s.heap H locs → lv_has ls 7 [(4, .int x4), (0, .ref b), (1, .ref (g.2.1 (0 + 0))), (2, .ref (g.2.1 (138 + 0))), (3, .ref o)] → W p l e room_1 s m #[Value.ref b] below meth c H locs cells1 slots1 (lw_Z below #[Value.ref b] s) (F0 m 1701 ls [])), W p l e room_1 s m #[Value.ref b] below meth c H locs cells slots (lw_Z below #[Value.ref b] s) (F0 m 372 ls [])) : ∀ (n i : Nat) (x4 : Int32) (X Y : Mem) (H : Heap) (locs : List Loc) (cells slots : Nat) (ls : Array Slot), i ≤ L → L + 6 ≤ i + 6 * n → x4 = nI i → Rel X Y → cells + n ≤ 601024 → slots + 20 * n ≤ 7293034 → va_P g.1 clz (xw g X) H → va_P g.1 clz (yw g Y) H → OUT g o H → va_S (fun q => s.heap.size ≤ q) s.heap H locs → lv_has ls 7 [(4, .int x4), (0, .ref b), (1, .ref (g.2.1 (0 + 0))), (2, .ref (g.2.1 (138 + 0))), (3, .ref o)] → W p l e room_1 s m #[Value.ref b] below meth c H locs cells slots (lw_Z below #[Value.ref b] s) (F0 m 23 ls []) := by
  have hbA : ¬ (fun q : Nat => s.heap.size ≤ q) b := Nat.not_le.mpr hbl
  intro n
  induction n with
  | zero => intro i x4 X Y H locs cells slots ls h1 h2; exact absurd h2 (by omega)
  | succ n ih =>
    intro i x4 X Y H locs cells slots ls hi hin ex4 hR hc hs hP hPy hO hS hl
    refine lv_iload C.1 C.2.1 dL_law_23 (lv_at hl 0 rfl) ?_
    refine lv_aload_n C.1 C.2.1 dL_law_25 rfl (lv_at hl 1 rfl) ?_
    refine va_slen C.1 C.2.1 hX hbl hbA hS dL_law_26 ?_
    refine lv_bipush (v := 6) C.1 C.2.1 dL_law_27 (by decide) ?_
    refine lv_isub C.1 C.2.1 dL_law_29 ?_
    refine lv_icmp_gt (tgt := 1707) C.1 C.2.1 dL_law_30 (by decide) (fun _ => ?_) (fun hle => ?_)
    · refine lv_iconst (v := 1) C.1 C.2.1 dL_law_1707 (by decide) ?_
      refine va_forget (fun q hq => hS.2.2 q hq) ?_
      refine W.widen (k := 601024) (n := 7293034) (by omega) (by omega) ?_
      exact lw_ret C.1 C.2.1 C.2.2.2.1 hlocks dL_law_1708
    · have hi6 : i + 6 ≤ L := lw_i6 ex4 hL (by omega) hle
      have kk0 : ∀ (X1 Y1 : Mem) (H : Heap) (locs : List Loc) (ls : Array Slot) (cells1 slots1 : Nat), Rel X1 Y1 → cells1 ≤ cells + 1 → slots1 ≤ slots + 20 → va_P g.1 clz (xw g X1) H → va_P g.1 clz (yw g Y1) H → OUT g o H → va_S (fun q => s.heap.size ≤ q) s.heap H locs → lv_has ls 7 [(4, .int x4), (0, .ref b), (1, .ref (g.2.1 (0 + 0))), (2, .ref (g.2.1 (138 + 0))), (3, .ref o)] → W p l e room_1 s m #[Value.ref b] below meth c H locs cells1 slots1 (lw_Z below #[Value.ref b] s) (F0 m 1701 ls []) := by
        intro X1 Y1 H locs ls cells1 slots1 hR1 hc1 hs1 hP hPy hO hS hl
        obtain ⟨x5, ex5⟩ : ∃ y : Int32, y = x4 + 6 := ⟨_, rfl⟩
        refine lv_iinc (v := x5) (lv' := [(4, .int x5), (0, .ref b), (1, .ref (g.2.1 (0 + 0))), (2, .ref (g.2.1 (138 + 0))), (3, .ref o)]) C.1 C.2.1 dL_law_1701 hl (k := 0) rfl (by rw [ex5]; rfl) (by decide) rfl (fun ls hl => ?_)
        refine lv_goto (tgt := 23) C.1 C.2.1 dL_law_1704 (by decide) ?_
        exact ih (i + 6) x5 X1 Y1 H locs cells1 slots1 ls hi6 (by omega) (by rw [ex5, ex4]; exact nI_add i 6) hR1 (by omega) (by omega) hP hPy hO hS hl
      have kk : ∀ (X1 Y1 : Mem) (H : Heap) (locs : List Loc) (ls : Array Slot), Rel X1 Y1 → va_P g.1 clz (xw g X1) H → va_P g.1 clz (yw g Y1) H → OUT g o H → va_S (fun q => s.heap.size ≤ q) s.heap H locs → lv_has ls 7 [(4, .int x4), (0, .ref b), (1, .ref (g.2.1 (0 + 0))), (2, .ref (g.2.1 (138 + 0))), (3, .ref o)] → W p l e room_1 s m #[Value.ref b] below meth c H locs cells slots (lw_Z below #[Value.ref b] s) (F0 m 1701 ls []) := fun X1 Y1 H locs ls a1 a2 a3 a4 a5 a6 => kk0 X1 Y1 H locs ls cells slots a1 (by omega) (by omega) a2 a3 a4 a5 a6
      have hcs : cells + 0 ≤ room_1.cells ∧ slots + 0 ≤ room_1.slots := by show cells + 0 ≤ 601024 ∧ slots + 0 ≤ 7293034; omega
      have hcs4 : cells + 1 ≤ room_1.cells ∧ slots + 20 ≤ room_1.slots := by show cells + 1 ≤ 601024 ∧ slots + 20 ≤ 7293034; omega
      refine lv_aload_n C.1 C.2.1 dL_law_33 rfl (lv_at hl 1 rfl) ?_
      refine lv_iload C.1 C.2.1 dL_law_34 (lv_at hl 0 rfl) ?_
      refine va_sld C.1 C.2.1 hX hbl hbA hS (by rw [ex4]; exact vp_in_nI (by omega) (by omega)) dL_law_36 ?_
      refine lv_bipush (v := 63) C.1 C.2.1 dL_law_37 (by decide) ?_
      refine lv_iand C.1 C.2.1 dL_law_39 ?_
      refine lv_topi (fun x eq0 => ?_)
      by_cases q0 : x = 0
      · refine lv_tableIn (tgt := 224) (off := 184) C.1 C.2.1 dL_law_40 (by rw [q0]; decide) (by rw [q0]; decide) (by rw [q0]; decide +kernel) (by decide) ?_
        exact lw_case_0 hL C hX hbl hAd hoA Rel h0 X Y hR ex4 hi6 hcs hP hPy hO hS hl kk
      by_cases q1 : x = 1
      · refine lv_tableIn (tgt := 297) (off := 257) C.1 C.2.1 dL_law_40 (by rw [q1]; decide) (by rw [q1]; decide) (by rw [q1]; decide +kernel) (by decide) ?_
        exact lw_case_1 hL C hX hbl hAd hoA Rel h1 X Y hR ex4 hi6 hcs hP hPy hO hS hl kk
      by_cases q2 : x = 2
      · refine lv_tableIn (tgt := 322) (off := 282) C.1 C.2.1 dL_law_40 (by rw [q2]; decide) (by rw [q2]; decide) (by rw [q2]; decide +kernel) (by decide) ?_
        exact lw_case_2 hL C hX hbl hAd hoA Rel h2 X Y hR ex4 hi6 hcs hP hPy hO hS hl kk
      by_cases q3 : x = 3
      · refine lv_tableIn (tgt := 347) (off := 307) C.1 C.2.1 dL_law_40 (by rw [q3]; decide) (by rw [q3]; decide) (by rw [q3]; decide +kernel) (by decide) ?_
        exact lw_case_3 hL C hX hbl hAd hoA Rel h3 X Y hR ex4 hi6 hcs hP hPy hO hS hl kk
      by_cases q4 : x = 4
      · refine lv_tableIn (tgt := 372) (off := 332) C.1 C.2.1 dL_law_40 (by rw [q4]; decide) (by rw [q4]; decide) (by rw [q4]; decide +kernel) (by decide) ?_
        exact h4 X Y hR ex4 hi6 hcs4 hP hPy hO hS hl kk0
      by_cases q5 : x = 5
      · refine lv_tableIn (tgt := 440) (off := 400) C.1 C.2.1 dL_law_40 (by rw [q5]; decide) (by rw [q5]; decide) (by rw [q5]; decide +kernel) (by decide) ?_
        exact lw_case_5 hL C hX hbl hAd hoA Rel h5 X Y hR ex4 hi6 hcs hP hPy hO hS hl kk
      by_cases q6 : x = 6
      · refine lv_tableIn (tgt := 477) (off := 437) C.1 C.2.1 dL_law_40 (by rw [q6]; decide) (by rw [q6]; decide) (by rw [q6]; decide +kernel) (by decide) ?_
        exact lw_case_6 hL C hX hbl hAd hoA Rel h6 X Y hR ex4 hi6 hcs hP hPy hO hS hl kk
      by_cases q7 : x = 7
      · refine lv_tableIn (tgt := 502) (off := 462) C.1 C.2.1 dL_law_40 (by rw [q7]; decide) (by rw [q7]; decide) (by rw [q7]; decide +kernel) (by decide) ?_
        exact lw_case_7 hL C hX hbl hAd hoA Rel h7 X Y hR ex4 hi6 hcs hP hPy hO hS hl kk
      by_cases q8 : x = 8
      · refine lv_tableIn (tgt := 551) (off := 511) C.1 C.2.1 dL_law_40 (by rw [q8]; decide) (by rw [q8]; decide) (by rw [q8]; decide +kernel) (by decide) ?_
        exact lw_case_8 hL C hX hbl hAd hoA Rel h8 X Y hR ex4 hi6 hcs hP hPy hO hS hl kk
      by_cases q9 : x = 9
      · refine lv_tableIn (tgt := 588) (off := 548) C.1 C.2.1 dL_law_40 (by rw [q9]; decide) (by rw [q9]; decide) (by rw [q9]; decide +kernel) (by decide) ?_
        exact lw_case_9 hL C hX hbl hAd hoA Rel h9 X Y hR ex4 hi6 hcs hP hPy hO hS hl kk
      by_cases q10 : x = 10
      · refine lv_tableIn (tgt := 601) (off := 561) C.1 C.2.1 dL_law_40 (by rw [q10]; decide) (by rw [q10]; decide) (by rw [q10]; decide +kernel) (by decide) ?_
        exact lw_case_10 hL C hX hbl hAd hoA Rel h10 X Y hR ex4 hi6 hcs hP hPy hO hS hl kk
      by_cases q11 : x = 11
      · refine lv_tableIn (tgt := 638) (off := 598) C.1 C.2.1 dL_law_40 (by rw [q11]; decide) (by rw [q11]; decide) (by rw [q11]; decide +kernel) (by decide) ?_
        exact lw_case_11 hL C hX hbl hAd hoA Rel h11 X Y hR ex4 hi6 hcs hP hPy hO hS hl kk
      by_cases q12 : x = 12
      · refine lv_tableIn (tgt := 675) (off := 635) C.1 C.2.1 dL_law_40 (by rw [q12]; decide) (by rw [q12]; decide) (by rw [q12]; decide +kernel) (by decide) ?_
        exact lw_case_12 hL C hX hbl hAd hoA Rel h12 X Y hR ex4 hi6 hcs hP hPy hO hS hl kk
      by_cases q13 : x = 13
      · refine lv_tableIn (tgt := 748) (off := 708) C.1 C.2.1 dL_law_40 (by rw [q13]; decide) (by rw [q13]; decide) (by rw [q13]; decide +kernel) (by decide) ?_
        exact lw_case_13 hL C hX hbl hAd hoA Rel h13 X Y hR ex4 hi6 hcs hP hPy hO hS hl kk
      by_cases q14 : x = 14
      · refine lv_tableIn (tgt := 809) (off := 769) C.1 C.2.1 dL_law_40 (by rw [q14]; decide) (by rw [q14]; decide) (by rw [q14]; decide +kernel) (by decide) ?_
        exact lw_case_14 hL C hX hbl hAd hoA Rel h14 X Y hR ex4 hi6 hcs hP hPy hO hS hl kk
      by_cases q15 : x = 15
      · refine lv_tableIn (tgt := 846) (off := 806) C.1 C.2.1 dL_law_40 (by rw [q15]; decide) (by rw [q15]; decide) (by rw [q15]; decide +kernel) (by decide) ?_
        exact lw_case_15 hL C hX hbl hAd hoA Rel h15 X Y hR ex4 hi6 hcs hP hPy hO hS hl kk
      by_cases q16 : x = 16
      · refine lv_tableIn (tgt := 895) (off := 855) C.1 C.2.1 dL_law_40 (by rw [q16]; decide) (by rw [q16]; decide) (by rw [q16]; decide +kernel) (by decide) ?_
        exact lw_case_16 hL C hX hbl hAd hoA Rel h16 X Y hR ex4 hi6 hcs hP hPy hO hS hl kk
      by_cases q17 : x = 17
      · refine lv_tableIn (tgt := 932) (off := 892) C.1 C.2.1 dL_law_40 (by rw [q17]; decide) (by rw [q17]; decide) (by rw [q17]; decide +kernel) (by decide) ?_
        exact lw_case_17 hL C hX hbl hAd hoA Rel h17 X Y hR ex4 hi6 hcs hP hPy hO hS hl kk
      by_cases q18 : x = 18
      · refine lv_tableIn (tgt := 993) (off := 953) C.1 C.2.1 dL_law_40 (by rw [q18]; decide) (by rw [q18]; decide) (by rw [q18]; decide +kernel) (by decide) ?_
        exact lw_case_18 hL C hX hbl hAd hoA Rel h18 X Y hR ex4 hi6 hcs hP hPy hO hS hl kk
      by_cases q19 : x = 19
      · refine lv_tableIn (tgt := 1042) (off := 1002) C.1 C.2.1 dL_law_40 (by rw [q19]; decide) (by rw [q19]; decide) (by rw [q19]; decide +kernel) (by decide) ?_
        exact lw_case_19 hL C hX hbl hAd hoA Rel h19 X Y hR ex4 hi6 hcs hP hPy hO hS hl kk
      by_cases q20 : x = 20
      · refine lv_tableIn (tgt := 1091) (off := 1051) C.1 C.2.1 dL_law_40 (by rw [q20]; decide) (by rw [q20]; decide) (by rw [q20]; decide +kernel) (by decide) ?_
        exact lw_case_20 hL C hX hbl hAd hoA Rel h20 X Y hR ex4 hi6 hcs hP hPy hO hS hl kk
      by_cases q21 : x = 21
      · refine lv_tableIn (tgt := 1128) (off := 1088) C.1 C.2.1 dL_law_40 (by rw [q21]; decide) (by rw [q21]; decide) (by rw [q21]; decide +kernel) (by decide) ?_
        exact lw_case_21 hL C hX hbl hAd hoA Rel h21 X Y hR ex4 hi6 hcs hP hPy hO hS hl kk
      by_cases q22 : x = 22
      · refine lv_tableIn (tgt := 1141) (off := 1101) C.1 C.2.1 dL_law_40 (by rw [q22]; decide) (by rw [q22]; decide) (by rw [q22]; decide +kernel) (by decide) ?_
        exact lw_case_22 hL C hX hbl hAd hoA Rel h22 X Y hR ex4 hi6 hcs hP hPy hO hS hl kk
      by_cases q23 : x = 23
      · refine lv_tableIn (tgt := 1166) (off := 1126) C.1 C.2.1 dL_law_40 (by rw [q23]; decide) (by rw [q23]; decide) (by rw [q23]; decide +kernel) (by decide) ?_
        exact lw_case_23 hL C hX hbl hAd hoA Rel h23 X Y hR ex4 hi6 hcs hP hPy hO hS hl kk
      by_cases q24 : x = 24
      · refine lv_tableIn (tgt := 1203) (off := 1163) C.1 C.2.1 dL_law_40 (by rw [q24]; decide) (by rw [q24]; decide) (by rw [q24]; decide +kernel) (by decide) ?_
        exact lw_case_24 hL C hX hbl hAd hoA Rel h24 X Y hR ex4 hi6 hcs hP hPy hO hS hl kk
      by_cases q25 : x = 25
      · refine lv_tableIn (tgt := 1240) (off := 1200) C.1 C.2.1 dL_law_40 (by rw [q25]; decide) (by rw [q25]; decide) (by rw [q25]; decide +kernel) (by decide) ?_
        exact lw_case_25 hL C hX hbl hAd hoA Rel h25 X Y hR ex4 hi6 hcs hP hPy hO hS hl kk
      by_cases q26 : x = 26
      · refine lv_tableIn (tgt := 1289) (off := 1249) C.1 C.2.1 dL_law_40 (by rw [q26]; decide) (by rw [q26]; decide) (by rw [q26]; decide +kernel) (by decide) ?_
        exact lw_case_26 hL C hX hbl hAd hoA Rel h26 X Y hR ex4 hi6 hcs hP hPy hO hS hl kk
      by_cases q27 : x = 27
      · refine lv_tableIn (tgt := 1314) (off := 1274) C.1 C.2.1 dL_law_40 (by rw [q27]; decide) (by rw [q27]; decide) (by rw [q27]; decide +kernel) (by decide) ?_
        exact lw_case_27 hL C hX hbl hAd hoA Rel h27 X Y hR ex4 hi6 hcs hP hPy hO hS hl kk
      by_cases q28 : x = 28
      · refine lv_tableIn (tgt := 1339) (off := 1299) C.1 C.2.1 dL_law_40 (by rw [q28]; decide) (by rw [q28]; decide) (by rw [q28]; decide +kernel) (by decide) ?_
        exact lw_case_28 hL C hX hbl hAd hoA Rel h28 X Y hR ex4 hi6 hcs hP hPy hO hS hl kk
      by_cases q29 : x = 29
      · refine lv_tableIn (tgt := 1376) (off := 1336) C.1 C.2.1 dL_law_40 (by rw [q29]; decide) (by rw [q29]; decide) (by rw [q29]; decide +kernel) (by decide) ?_
        exact lw_case_29 hL C hX hbl hAd hoA Rel h29 X Y hR ex4 hi6 hcs hP hPy hO hS hl kk
      by_cases q30 : x = 30
      · refine lv_tableIn (tgt := 1401) (off := 1361) C.1 C.2.1 dL_law_40 (by rw [q30]; decide) (by rw [q30]; decide) (by rw [q30]; decide +kernel) (by decide) ?_
        exact lw_case_30 hL C hX hbl hAd hoA Rel h30 X Y hR ex4 hi6 hcs hP hPy hO hS hl kk
      by_cases q31 : x = 31
      · refine lv_tableIn (tgt := 1438) (off := 1398) C.1 C.2.1 dL_law_40 (by rw [q31]; decide) (by rw [q31]; decide) (by rw [q31]; decide +kernel) (by decide) ?_
        exact lw_case_31 hL C hX hbl hAd hoA Rel h31 X Y hR ex4 hi6 hcs hP hPy hO hS hl kk
      by_cases q32 : x = 32
      · refine lv_tableIn (tgt := 1463) (off := 1423) C.1 C.2.1 dL_law_40 (by rw [q32]; decide) (by rw [q32]; decide) (by rw [q32]; decide +kernel) (by decide) ?_
        exact lw_case_32 hL C hX hbl hAd hoA Rel h32 X Y hR ex4 hi6 hcs hP hPy hO hS hl kk
      by_cases q33 : x = 33
      · refine lv_tableIn (tgt := 1488) (off := 1448) C.1 C.2.1 dL_law_40 (by rw [q33]; decide) (by rw [q33]; decide) (by rw [q33]; decide +kernel) (by decide) ?_
        exact lw_case_33 hL C hX hbl hAd hoA Rel h33 X Y hR ex4 hi6 hcs hP hPy hO hS hl kk
      by_cases q34 : x = 34
      · refine lv_tableIn (tgt := 1525) (off := 1485) C.1 C.2.1 dL_law_40 (by rw [q34]; decide) (by rw [q34]; decide) (by rw [q34]; decide +kernel) (by decide) ?_
        exact lw_case_34 hL C hX hbl hAd hoA Rel h34 X Y hR ex4 hi6 hcs hP hPy hO hS hl kk
      by_cases q35 : x = 35
      · refine lv_tableIn (tgt := 1538) (off := 1498) C.1 C.2.1 dL_law_40 (by rw [q35]; decide) (by rw [q35]; decide) (by rw [q35]; decide +kernel) (by decide) ?_
        exact lw_case_35 hL C hX hbl hAd hoA Rel h35 X Y hR ex4 hi6 hcs hP hPy hO hS hl kk
      by_cases q36 : x = 36
      · refine lv_tableIn (tgt := 1563) (off := 1523) C.1 C.2.1 dL_law_40 (by rw [q36]; decide) (by rw [q36]; decide) (by rw [q36]; decide +kernel) (by decide) ?_
        exact lw_case_36 hL C hX hbl hAd hoA Rel h36 X Y hR ex4 hi6 hcs hP hPy hO hS hl kk
      by_cases q37 : x = 37
      · refine lv_tableIn (tgt := 1600) (off := 1560) C.1 C.2.1 dL_law_40 (by rw [q37]; decide) (by rw [q37]; decide) (by rw [q37]; decide +kernel) (by decide) ?_
        exact lw_case_37 hL C hX hbl hAd hoA Rel h37 X Y hR ex4 hi6 hcs hP hPy hO hS hl kk
      by_cases q38 : x = 38
      · refine lv_tableIn (tgt := 1637) (off := 1597) C.1 C.2.1 dL_law_40 (by rw [q38]; decide) (by rw [q38]; decide) (by rw [q38]; decide +kernel) (by decide) ?_
        exact lw_case_38 hL C hX hbl hAd hoA Rel h38 X Y hR ex4 hi6 hcs hP hPy hO hS hl kk
      by_cases q39 : x = 39
      · refine lv_tableIn (tgt := 1650) (off := 1610) C.1 C.2.1 dL_law_40 (by rw [q39]; decide) (by rw [q39]; decide) (by rw [q39]; decide +kernel) (by decide) ?_
        exact lw_case_39 hL C hX hbl hAd hoA Rel h39 X Y hR ex4 hi6 hcs hP hPy hO hS hl kk
      by_cases q40 : x = 40
      · refine lv_tableIn (tgt := 1663) (off := 1623) C.1 C.2.1 dL_law_40 (by rw [q40]; decide) (by rw [q40]; decide) (by rw [q40]; decide +kernel) (by decide) ?_
        exact lw_case_40 hL C hX hbl hAd hoA Rel h40 X Y hR ex4 hi6 hcs hP hPy hO hS hl kk
      by_cases q41 : x = 41
      · refine lv_tableIn (tgt := 1676) (off := 1636) C.1 C.2.1 dL_law_40 (by rw [q41]; decide) (by rw [q41]; decide) (by rw [q41]; decide +kernel) (by decide) ?_
        exact lw_case_41 hL C hX hbl hAd hoA Rel h41 X Y hR ex4 hi6 hcs hP hPy hO hS hl kk
      have n0 : x.toInt ≠ 0 := tsw q0
      have n1 : x.toInt ≠ 1 := tsw q1
      have n2 : x.toInt ≠ 2 := tsw q2
      have n3 : x.toInt ≠ 3 := tsw q3
      have n4 : x.toInt ≠ 4 := tsw q4
      have n5 : x.toInt ≠ 5 := tsw q5
      have n6 : x.toInt ≠ 6 := tsw q6
      have n7 : x.toInt ≠ 7 := tsw q7
      have n8 : x.toInt ≠ 8 := tsw q8
      have n9 : x.toInt ≠ 9 := tsw q9
      have n10 : x.toInt ≠ 10 := tsw q10
      have n11 : x.toInt ≠ 11 := tsw q11
      have n12 : x.toInt ≠ 12 := tsw q12
      have n13 : x.toInt ≠ 13 := tsw q13
      have n14 : x.toInt ≠ 14 := tsw q14
      have n15 : x.toInt ≠ 15 := tsw q15
      have n16 : x.toInt ≠ 16 := tsw q16
      have n17 : x.toInt ≠ 17 := tsw q17
      have n18 : x.toInt ≠ 18 := tsw q18
      have n19 : x.toInt ≠ 19 := tsw q19
      have n20 : x.toInt ≠ 20 := tsw q20
      have n21 : x.toInt ≠ 21 := tsw q21
      have n22 : x.toInt ≠ 22 := tsw q22
      have n23 : x.toInt ≠ 23 := tsw q23
      have n24 : x.toInt ≠ 24 := tsw q24
      have n25 : x.toInt ≠ 25 := tsw q25
      have n26 : x.toInt ≠ 26 := tsw q26
      have n27 : x.toInt ≠ 27 := tsw q27
      have n28 : x.toInt ≠ 28 := tsw q28
      have n29 : x.toInt ≠ 29 := tsw q29
      have n30 : x.toInt ≠ 30 := tsw q30
      have n31 : x.toInt ≠ 31 := tsw q31
      have n32 : x.toInt ≠ 32 := tsw q32
      have n33 : x.toInt ≠ 33 := tsw q33
      have n34 : x.toInt ≠ 34 := tsw q34
      have n35 : x.toInt ≠ 35 := tsw q35
      have n36 : x.toInt ≠ 36 := tsw q36
      have n37 : x.toInt ≠ 37 := tsw q37
      have n38 : x.toInt ≠ 38 := tsw q38
      have n39 : x.toInt ≠ 39 := tsw q39
      have n40 : x.toInt ≠ 40 := tsw q40
      have n41 : x.toInt ≠ 41 := tsw q41
      refine lv_tableOut (tgt := 1701) C.1 C.2.1 dL_law_40 (by omega) (by decide) ?_
      exact kk X Y H locs ls hR hP hPy hO hS hl
