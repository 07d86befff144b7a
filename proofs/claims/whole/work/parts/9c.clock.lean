abbrev hhX3 : List (Nat × Nat × Nat × Nat) := [(0, 4, 7, 37)]
set_option maxHeartbeats 4000000 in
theorem c_X3_clockOfFailure (l : Launch) (hl9 : l.stackTraces = false) (D : va_G) (cy : Nat → ClassId) (h0 sz : Nat) (nu ki kl so : Int32) : Met l yX3_clockOfFailure (.codeWith yX3_clockOfFailure cX3_clockOfFailure 2 (some .int) hhX3 :: gThr) { frames := 7, cells := 1, slots := 6, locals := 102 } (va_Pc [.ref h0] (fun U => U.heap.size = sz ∧ va_P D vwCl [(h0, heC nu ki kl so)] U.heap ∧ va_K D vwCl (tyl cy) U ∧ tPre (va_A [] sz) U U.heap)) (va_Qi (fun r (_ : Unit) => r = hfl ki kl) (fun _ _ => True) (va_A [] sz)) 1 6 (va_A [] sz) := by
  refine va_MetW (cc := cX3_clockOfFailure) (maxL := 2) (ret := some .int) (hh := hhX3) (by decide) rfl ?_
  intro p e s m args below meth c s₁ B hml hv
  obtain ⟨rfl, hsz, hP, hK, hT⟩ := hv
  have hx := B.exec
  have hb := B.bytes
  have hr := B.returns
  have hlk := B.notSynchronized
  have hts := atoms_spec (ws := .codeWith yX3_clockOfFailure cX3_clockOfFailure 2 (some .int) hhX3 :: gThr) B.pre
  have htab := vx_table (x := yX3_clockOfFailure) B (hts _ List.mem_cons_self)
  have hgT : ∀ w ∈ gThr, w.before [Value.ref h0].toArray s = true := fun w hw => hts w (List.mem_cons_of_mem _ hw)
  have hg : ∀ w ∈ gAll, w.before [Value.ref h0].toArray s = true := fun w hw => hgT w (gThr_l hw)
  have hown : s.vm.findClass RX3 = some m.cls := findClass_of_methodNamed B.named
  have hl := lv_entry ([.ref h0]) (n := 2) (Nat.le_of_ble_eq_true rfl)
  rw [lg_entry_eq]
  generalize (lg_sl ([.ref h0]) ++ List.replicate (2 - (lg_sl ([.ref h0])).length) Slot.unset).toArray = ls at hl ⊢
  have hl : lv_has ls 2 [(0, .ref h0)] := hl
  subst hsz
  have hA : ∀ q : Nat, s.heap.size ≤ q → va_A [] s.heap.size q := fun q h => Or.inr h
  have hS : va_S (va_A [] s.heap.size) s.heap s.heap [] := va_S.rf
  have hF := ro_F hS hA
  refine lv_aload_n hx hb dX3_clockOfFailure_0 rfl (lv_at hl 0 rfl) ?_
  refine vx_callv (vx_runV (As := []) (rest := []) ⟨hx, hb, hml, hown, hgT⟩ (c_X3_fail l hl9 D cy h0 s.heap.size nu ki kl so) (cwV 0 hgT (goodVT vw_RX3_34) rfl rfl rfl ⟨rfl, vw_RX3_34.2.2.2.2.2⟩ ⟨Nat.le_of_ble_eq_true rfl, Nat.le_of_ble_eq_true rfl⟩) ⟨fun a U g mk q => by obtain ⟨q0, q1, qP, qK, qT⟩ := q; exact ⟨q0, q1, qP, va_K.moved (u := U) (U := U.calling g mk a) (Vm.Alike.refl U.vm) qK, tPre.same rfl qT⟩, va_recv hK hP (ci := 1) (q0 := 0) cb_3.1 rfl, fun U hU hW => ⟨rfl, by rw [hU], by rw [hU]; exact hP, va_K.moved hW.alike hK, by rw [hU]; exact hT.pass (fun _ _ _ => rfl) (fun _ h => h) hW⟩⟩ rfl rfl hl.1 rfl (lv_room (Nat.le_of_ble_eq_true rfl)) dX3_clockOfFailure_1 ⟨Nat.le_of_ble_eq_true rfl, Nat.le_of_ble_eq_true rfl⟩) hS (fun q _ h => hF q h) hF (fun q _ h => hF q h) (fun E ce q9 u t H1 locs1 ht hvm hpx hBX hz1 hk1 hS1 hcell hcv hcl => ?_) (fun u t H1 locs1 ht hvm hp hB hz1 hk1 hS1 => ?_)
  · subst hBX
    have hP1 := ro_P hP hk1
    refine vx_catch hown [] { startPc := 0, endPc := 4, handlerPc := 7, catchType := 37 } [] (by rw [htab]; rfl) (fun z hz => absurd hz List.not_mem_nil) (by decide) (by decide) (hg _ kw_84) (va_Nw.use rfl hT.1.2.2.2.1) hcell hcv hcl ?_
    refine lv_astore_n (i := 1) hx hb dX3_clockOfFailure_7 rfl hl (by decide) rfl (fun ls hl => ?_)
    have hl : lv_has ls 2 [(1, .ref q9), (0, .ref h0)] := hl
    refine lv_aload_n hx hb dX3_clockOfFailure_8 rfl (lv_at hl 1 rfl) ?_
    refine va_get (C := RX3) (T := TX3) (N := 4) hx hb hg ku_X3 hown hK hP1 0 rfl rfl 2 (by decide) (hg _ kw_77) (fun _ h => h) (v := .int kl) rfl dX3_clockOfFailure_9 ?_
    exact W.iret (v := kl) hx hb hr (fun t ht hW => ⟨⟨kl, (), rfl, by unfold hfl; rw [if_neg hpx], trivial⟩, hS1.F ht⟩) hS1.2.2 dX3_clockOfFailure_12 hlk
  · refine lv_goto (tgt := 13) hx hb dX3_clockOfFailure_4 (by decide) ?_
    refine lv_bipush (v := (-15 : Int32)) hx hb dX3_clockOfFailure_13 (by decide) ?_
    exact W.iret (v := -15) hx hb hr (fun t ht hW => ⟨⟨-15, (), rfl, by unfold hfl; rw [if_pos hp], trivial⟩, hS1.F ht⟩) hS1.2.2 dX3_clockOfFailure_15 hlk
