theorem arr_p {args : Array Value} {s : State} {ty : FieldType} (h : (Cond.arrayClass ty).before args s = true) : ∃ cA : ClassId, ArrOfT s cA ty ∧ s.vm.findClass ("[" ++ ty.toString) = some cA := by
  obtain ⟨cA, kA, comp, h1, h2, h3⟩ := Cond.arrayClass_spec h
  exact ⟨cA, fun n z => ⟨fun k h => (by cases h), kA, h2, comp, h3⟩, h1⟩
theorem arr_o {s : State} {C : String} (h : va_AO C s) : ∃ cA : ClassId, ArrOfT s cA (.object C) ∧ va_RA s cA (.object C) := by
  obtain ⟨comp, cA, kA, h1, h2, h3, h4, h5⟩ := Cond.arrayOver_spec h
  exact ⟨cA, fun n z => ⟨fun k h => (by cases h), kA, h3, comp, h4⟩, kA, comp, h3, h4, h1, h5⟩
theorem st_K {args : Array Value} {s : State} (htg : ∀ w ∈ GT, w.before args s = true) (hN : gNw s) : ∃ (G : va_G) (K : Nat → ClassId), va_K G vwCl (TY K) s := by
  obtain ⟨c0, i0, h0⟩ := u_known (C := "TokenBench") (T := F_TB) (N := 6) (n := 6) htg in_TB (htg _ m_18)
  obtain ⟨c1, i1, h1⟩ := u_known (C := "TokenBench$Comparison") (T := F_Comparison) (N := 9) (n := 9) htg in_Comparison (htg _ m_152)
  obtain ⟨c2, i2, h2⟩ := u_known (C := "TokenBench$GapFinder") (T := F_GapFinder) (N := 9) (n := 9) htg in_GapFinder (htg _ m_383)
  obtain ⟨c3, i3, h3⟩ := u_known (C := "TokenBench$LetterSet") (T := F_LetterSet) (N := 6) (n := 6) htg in_LetterSet (htg _ m_41)
  obtain ⟨c4, i4, h4⟩ := u_known (C := "TokenBench$Machine") (T := F_Machine) (N := 4) (n := 4) htg in_Machine (htg _ m_136)
  obtain ⟨c5, i5, h5⟩ := u_known (C := "TokenBench$MachineBuilder") (T := F_MachineBuilder) (N := 9) (n := 9) htg in_MachineBuilder (htg _ m_70)
  obtain ⟨c6, i6, h6⟩ := u_known (C := "TokenBench$Mode") (T := F_Mode) (N := 6) (n := 6) htg in_Mode (htg _ m_83)
  obtain ⟨c7, i7, h7⟩ := u_known (C := "TokenBench$Piece") (T := F_Piece) (N := 3) (n := 3) htg in_Piece (htg _ m_31)
  obtain ⟨c8, i8, h8⟩ := u_known (C := "TokenBench$RuleBook") (T := F_RuleBook) (N := 6) (n := 6) htg in_RuleBook (htg _ m_62)
  obtain ⟨c9, i9, h9⟩ := u_known (C := "TokenBench$RuleText") (T := F_RuleText) (N := 10) (n := 10) htg in_RuleText (htg _ m_26)
  obtain ⟨c10, i10, h10⟩ := u_known (C := "TokenBench$Stream") (T := F_Stream) (N := 13) (n := 13) htg in_Stream (htg _ m_166)
  obtain ⟨c11, i11, h11⟩ := u_known (C := "TokenBench$TokenQueue") (T := F_TokenQueue) (N := 3) (n := 3) htg in_TokenQueue (htg _ m_171)
  obtain ⟨c12, i12, h12⟩ := u_known (C := "TokenBenchModel") (T := F_M) (N := 56) (n := 56) htg in_M (htg _ m_605)
  obtain ⟨k0, a0, b0⟩ := arr_p (htg _ m_39)
  obtain ⟨k1, a1, b1⟩ := arr_p (htg _ m_398)
  obtain ⟨k5, a5, b5⟩ := arr_p (htg _ m_838)
  obtain ⟨k2, a2, b2⟩ := arr_o hN.2.1
  obtain ⟨k3, a3, b3⟩ := arr_o hN.2.2.1
  obtain ⟨k4, a4, b4⟩ := arr_o hN.2.2.2
  refine ⟨(fun k => [c0, c1, c2, c3, c4, c5, c6, c7, c8, c9, c10, c11, c12].getD k c0, fun k => [i0, i1, i2, i3, i4, i5, i6, i7, i8, i9, i10, i11, i12].getD k i0), fun k => [k0, k1, k2, k3, k4, k5].getD k k0, ?_, ?_⟩
  · intro k q hq
    match k, hq with
    | 0, hq => cases hq; exact h0
    | 1, hq => cases hq; exact h1
    | 2, hq => cases hq; exact h2
    | 3, hq => cases hq; exact h3
    | 4, hq => cases hq; exact h4
    | 5, hq => cases hq; exact h5
    | 6, hq => cases hq; exact h6
    | 7, hq => cases hq; exact h7
    | 8, hq => cases hq; exact h8
    | 9, hq => cases hq; exact h9
    | 10, hq => cases hq; exact h10
    | 11, hq => cases hq; exact h11
    | 12, hq => cases hq; exact h12
    | k + 13, hq => exact absurd (List.getElem?_eq_some_iff.mp hq).1 (by show ¬ k + 13 < 13; omega)
  · intro k q hq
    match k, hq with
    | 0, hq => cases hq; exact ⟨a0, b0⟩
    | 1, hq => cases hq; exact ⟨a1, b1⟩
    | 2, hq => cases hq; exact ⟨a2, b2⟩
    | 3, hq => cases hq; exact ⟨a3, b3⟩
    | 4, hq => cases hq; exact ⟨a4, b4⟩
    | 5, hq => cases hq; exact ⟨a5, b5⟩
    | k + 6, hq => exact absurd (List.getElem?_eq_some_iff.mp hq).1 (by show ¬ k + 6 < 6; omega)
