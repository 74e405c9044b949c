/-! the relation at the start -/
theorem Rel0 {fw : Nat → Int32} {Y : Mem} (hw : RootF fw) (hY : PY0 Y) : Rel (mX0 fw) Y := by
  obtain ⟨h1, h2, ⟨y1, y4, y5, y36, y37⟩, h3, h4⟩ := hY
  refine ⟨U0, 0, TB_U0, ⟨by decide, rfl, rfl⟩, ?_, ?_, h1, h2, ?_, ?_, ?_, ?_, ?_, hw, Or.inl rfl⟩
  · exact ⟨rfl, rfl, rfl, rfl, rfl, rfl, rfl, rfl, fun z => absurd z (by decide), fun b hb => absurd hb (Nat.not_lt_zero b)⟩
  · exact ⟨⟨goN 5 31, goN_b 5 31, rfl, fun i hi => goN_t 5 31 i hi⟩, ⟨goN 29 31, goN_b 29 31, rfl, fun i hi => goN_t 29 31 i hi⟩, fun b hb => absurd hb (Nat.not_lt_zero b)⟩
  · exact ⟨0, by decide, rfl, y1, fun k hk => absurd hk (Nat.not_lt_zero k)⟩
  · exact ⟨y4.symm, y5.symm⟩
  · exact ⟨0, by decide, rfl, h3 292 (by decide), fun j hj => absurd hj (Nat.not_lt_zero j), fun b hb => ⟨((congrArg (Y.1 54 0) (show 298 * 0 + 293 + b = 293 + b by omega)).trans (h4 b hb)).symm, Or.inl rfl, fun _ => rfl⟩⟩
  · exact ⟨y37.symm, Or.inl rfl, fun z => absurd z (by show ¬ ((0 : Int32) = 1); decide)⟩
  · exact ⟨0, 0, by decide, by decide, rfl, y36, rfl, fun i hi => absurd hi (Nat.not_lt_zero i)⟩
