/-! WHAT HOLDS AT THE LAW'S ENTRY beside the good words -/
theorem str_of {own tx : String} {k : Nat} {A : Array Value} {U : State} (h : (Cond.stringRef own k tx).before A U = true) : ∃ sa, vk_R own k tx sa U := by
  cases hc : U.vm.findClass own with
  | none => simp [Cond.before, Cond.holds, Cond.value, hc] at h
  | some cur =>
    obtain ⟨k', cf, i, a, -, -, -, -, -, he⟩ := Cond.stringRef_spec (args := A) hc h
    exact ⟨a, vk_R.of h he⟩
theorem arr_i {A : Array Value} {s : State} (h : (Cond.arrayClass .int).before A s = true) : ∃ cA : ClassId, ArrOfT s cA .int ∧ va_RA s cA .int := by
  obtain ⟨cA, k, comp, h1, h2, h3⟩ := Cond.arrayClass_spec h
  exact ⟨cA, fun n z => ⟨fun k h => (by cases h), k, h2, comp, h3⟩, h1⟩
theorem arr_l {A : Array Value} {s : State} (h : (Cond.arrayClass .long).before A s = true) : ∃ cA : ClassId, ArrOfT s cA .long ∧ va_RA s cA .long := by
  obtain ⟨cA, k, comp, h1, h2, h3⟩ := Cond.arrayClass_spec h
  exact ⟨cA, fun n z => ⟨fun k h => (by cases h), k, h2, comp, h3⟩, h1⟩
theorem arr_z {A : Array Value} {s : State} (h : (Cond.arrayClass .boolean).before A s = true) : ∃ cA : ClassId, ArrOfT s cA .boolean ∧ va_RA s cA .boolean := by
  obtain ⟨cA, k, comp, h1, h2, h3⟩ := Cond.arrayClass_spec h
  exact ⟨cA, fun n z => ⟨fun k h => (by cases h), k, h2, comp, h3⟩, h1⟩
theorem K0 {args : Array Value} {s : State} (hg : ∀ w ∈ gAll, w.before args s = true) : ∃ (D : va_G) (cy : Nat → ClassId), va_K D vwCl (tyl cy) s := by
  obtain ⟨c0, i0, h0⟩ := u_known (C := RX0) (T := TX0) (N := 1) (n := 1) hg ku_X0 (hg _ kw_351)
  obtain ⟨c1, i1, h1⟩ := u_known (C := RX3) (T := TX3) (N := 4) (n := 4) hg ku_X3 (hg _ kw_520)
  obtain ⟨c2, i2, h2⟩ := u_known (C := RX4) (T := TX4) (N := 15) (n := 15) hg ku_X4 (hg _ kw_348)
  obtain ⟨c3, i3, h3⟩ := u_known (C := RX5) (T := TX5) (N := 6) (n := 6) hg ku_X5 (hg _ kw_354)
  obtain ⟨c4, i4, h4⟩ := u_known (C := RX6) (T := TX6) (N := 2) (n := 2) hg ku_X6 (hg _ kw_507)
  obtain ⟨c5, i5, h5⟩ := u_known (C := RX7) (T := TX7) (N := 8) (n := 8) hg ku_X7 (hg _ kw_359)
  obtain ⟨c6, i6, h6⟩ := u_known (C := RX8) (T := TX8) (N := 7) (n := 7) hg ku_X8 (hg _ kw_357)
  obtain ⟨c7, i7, h7⟩ := u_known (C := RX9) (T := TX9) (N := 17) (n := 17) hg ku_X9 (hg _ kw_362)
  obtain ⟨c8, i8, h8⟩ := u_known (C := RX10) (T := TX10) (N := 5) (n := 5) hg ku_X10 (hg _ kw_232)
  obtain ⟨c9, i9, h9⟩ := u_known (C := RX11) (T := TX11) (N := 6) (n := 6) hg ku_X11 (hg _ kw_836)
  obtain ⟨c10, i10, h10⟩ := u_known (C := RX12) (T := TX12) (N := 52) (n := 52) hg ku_X12 (hg _ kw_838)
  obtain ⟨a0, a1, a2⟩ := arr_i (hg _ kw_4)
  obtain ⟨b0, b1, b2⟩ := arr_l (hg _ kw_100)
  obtain ⟨z0, z1, z2⟩ := arr_z (hg _ kw_227)
  refine ⟨(fun k => ([c0, c1, c2, c3, c4, c5, c6, c7, c8, c9, c10] : List ClassId).getD k c0, fun k => ([i0, i1, i2, i3, i4, i5, i6, i7, i8, i9, i10] : List (Nat → Nat)).getD k i0), fun k => ([a0, b0, z0] : List ClassId).getD k a0, fun k q hq => ?_, fun k q hq => ?_⟩
  · match k, hq with
    | 0, hq => cases hq; exact h0
    | 1, hq => cases hq; exact h1
    | 2, hq => cases hq; exact h2
    | 3, hq => cases hq; exact h3
    | 4, hq => cases hq; exact h4
    | 5, hq => cases hq; exact h5
    | 6, hq => cases hq; exact h6
    | 7, hq => cases hq; exact h7
    | 8, hq => cases hq; exact h8
    | 9, hq => cases hq; exact h9
    | 10, hq => cases hq; exact h10
    | k + 11, hq => simp [vwCl] at hq
  · match k, hq with
    | 0, hq => cases hq; exact ⟨a1, a2⟩
    | 1, hq => cases hq; exact ⟨b1, b2⟩
    | 2, hq => cases hq; exact ⟨z1, z2⟩
    | k + 3, hq => simp at hq
theorem xPre_of {A : Array Value} {s : State} (hts : ∀ w ∈ lw_tbl, w.before A s = true) : xPre s := ⟨va_AO.of (hts _ (by decide +kernel)), va_Nw.of rfl (hts _ (by decide +kernel)), va_Nw.of rfl (hts _ (by decide +kernel)), va_Nw.of rfl (hts _ (by decide +kernel))⟩
theorem yPre_of {A : Array Value} {s : State} (hts : ∀ w ∈ lw_tbl, w.before A s = true) (hs : ∀ w ∈ flatC (Jvm.Cond.and given_1 narrow_1), w.before A s = true) : yPre s := ⟨va_Nw.of rfl (hts _ (by decide +kernel)), va_Nw.of rfl (hts _ (by decide +kernel)), va_Nw.of rfl (hts _ (by decide +kernel)), va_Nw.of rfl (hts _ (by decide +kernel)), va_Nc.of (hs _ (by decide +kernel)), va_Nw.of rfl (hts _ (by decide +kernel)), va_Nw.of rfl (hts _ (by decide +kernel))⟩
theorem tPre_of {A : Array Value} {s : State} {F : Nat → Prop} (hts : ∀ w ∈ lw_tbl, w.before A s = true) (hs : ∀ w ∈ flatC (Jvm.Cond.and given_1 narrow_1), w.before A s = true) (hF : ∀ a : Nat, a < s.heap.size → ¬ F a) : tPre F s s.heap :=
  ⟨⟨va_Nw.of rfl (hts _ (by decide +kernel)), va_Nw.of rfl (hts _ (by decide +kernel)), va_Nw.of rfl (hts _ (by decide +kernel)), va_Nw.of rfl (hts _ (by decide +kernel)), va_Nw.of rfl (hts _ (by decide +kernel)), va_Nc.of (hs _ (by decide +kernel))⟩,
   ⟨str_of (hts _ (by decide +kernel)), str_of (hts _ (by decide +kernel)), str_of (hts _ (by decide +kernel)), str_of (hts _ (by decide +kernel))⟩,
   vx_Zqof (hts _ (by decide +kernel)) (hts _ (by decide +kernel)) (hs _ (by decide +kernel)) hF, vx_Zqof (hts _ (by decide +kernel)) (hts _ (by decide +kernel)) (hs _ (by decide +kernel)) hF⟩
theorem lowB_of {A : Array Value} {s : State} {F : Nat → Prop} (hts : ∀ w ∈ lw_tbl, w.before A s = true) (hs : ∀ w ∈ flatC (Jvm.Cond.and given_1 narrow_1), w.before A s = true) (hF : ∀ a : Nat, a < s.heap.size → ¬ F a) : ∃ tL, lowB tL F s s.heap := by
  have e0 := va_eqtl (hs (.eq (.elem (.static "ClockCourt$Net" "LOW_BITS" "[J") (.int 0)) (.long (-6148914691236517206))) (by decide +kernel))
  have e1 := va_eqtl (hs (.eq (.elem (.static "ClockCourt$Net" "LOW_BITS" "[J") (.int 1)) (.long (-3689348814741910324))) (by decide +kernel))
  have e2 := va_eqtl (hs (.eq (.elem (.static "ClockCourt$Net" "LOW_BITS" "[J") (.int 2)) (.long (-1085102592571150096))) (by decide +kernel))
  have e3 := va_eqtl (hs (.eq (.elem (.static "ClockCourt$Net" "LOW_BITS" "[J") (.int 3)) (.long (-71777214294589696))) (by decide +kernel))
  have e4 := va_eqtl (hs (.eq (.elem (.static "ClockCourt$Net" "LOW_BITS" "[J") (.int 4)) (.long (-281470681808896))) (by decide +kernel))
  have e5 := va_eqtl (hs (.eq (.elem (.static "ClockCourt$Net" "LOW_BITS" "[J") (.int 5)) (.long (-4294967296))) (by decide +kernel))
  have el := va_eqt (hs (.eq (.length (.static "ClockCourt$Net" "LOW_BITS" "[J")) (.int 6)) (by decide +kernel))
  have hel : ∀ j : Nat, j < 6 → (Term.elem (.static "ClockCourt$Net" "LOW_BITS" "[J") (.int (Int32.ofNat j))).eval A s none [] s = some (.long (lowF j)) := by
    intro j hj
    rcases (show j = 0 ∨ j = 1 ∨ j = 2 ∨ j = 3 ∨ j = 4 ∨ j = 5 by omega) with rfl | rfl | rfl | rfl | rfl | rfl
    · exact e0
    · exact e1
    · exact e2
    · exact e3
    · exact e4
    · exact e5
  obtain ⟨t, ht, hT⟩ := va_Tof (args := A) (tm := .static "ClockCourt$Net" "LOW_BITS" "[J") (ty := .long) (N := 6) (f := fun j => .long (lowF j)) (A := F) (by decide) (hs _ (by decide +kernel)) el hel hF
  exact ⟨t, va_Zref (hts _ (by decide +kernel)) (hts _ (by decide +kernel)) ht hF, hT⟩
