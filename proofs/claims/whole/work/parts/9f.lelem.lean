/-! THE LAW'S element -/
abbrev hhL : List (Nat × Nat × Nat × Nat) := [(0, 9, 12, 13), (0, 9, 16, 15)]
theorem vw_RL_7 : VWd RL 7 yX11_element cX11_element 5 (some .long) 2 := ⟨kw_832, kw_833, kw_834, kw_390, kw_533, by decide, by decide, by decide +kernel⟩
def ouC (cy : Nat → ClassId) (o : Nat) (g : Nat → Int64) : va_W := [(o, .inl (cy 1, 1, .inr (.inl g)))]
def lelP (cy : Nat → ClassId) (X : Nat → Sf) (a b : Int32) (k : Int32) (w : SU × (Nat → Int64)) : Prop := SHL cy w.1 X ∧ ((k = 1 ∧ ixI a 8 = none) ∨ (k = 2 ∧ ∃ d, a = nI d ∧ d < 8 ∧ ∀ j, ¬ elO (X d) b j) ∨ (k = 0 ∧ ∃ d j, a = nI d ∧ d < 8 ∧ elO (X d) b j ∧ w.2 0 = ((X d).2.2.2.2 j).toInt64))
def LePre (D : va_G) (cy : Nat → ClassId) (ad : Nat → Nat) (tL : Nat) (cH : ClassId) (σ : St) (u : SU) (o : Nat) (g : Nat → Int64) (sz : Nat) : State → Prop := fun U => va_P D vwCl (shW cy ad cH σ u ++ ouC cy o g) U.heap ∧ va_K D vwCl (tyH cy cH) U ∧ va_D (fun _ => True) (shW cy ad cH σ u ++ ouC cy o g) ∧ lowB tL (va_A (shW cy ad cH σ u ++ ouC cy o g) sz) U U.heap ∧ yPre U ∧ tPre (va_A (shW cy ad cH σ u ++ ouC cy o g) sz) U U.heap
def LeBk (D : va_G) (cy : Nat → ClassId) (ad : Nat → Nat) (cH : ClassId) (σ : St) (o : Nat) (A : Nat → Prop) : SU × (Nat → Int64) → State → Prop := fun w t => va_P D vwCl (shW cy ad cH σ w.1 ++ ouC cy o w.2) t.heap ∧ va_K D vwCl (tyH cy cH) t ∧ va_D A (shW cy ad cH σ w.1 ++ ouC cy o w.2)
set_option maxHeartbeats 8000000 in
theorem c_L_element (l : Launch) (hl9 : l.stackTraces = false) (D : va_G) (cy : Nat → ClassId) (ad : Nat → Nat) (tL : Nat) (cH : ClassId) (σ : St) (u : SU) (o : Nat) (g : Nat → Int64) (X : Nat → Sf) (hX : SHL cy u X) (a b : Int32) (sz : Nat) : Met l yL_element (.codeWith yL_element cL_element 5 (some .int) hhL :: gThr) { frames := 7, cells := 1, slots := 6, locals := 106 } (va_Pc [.ref (ad 0), .int a, .int b, .ref o] (fun U => U.heap.size = sz ∧ LePre D cy ad tL cH σ u o g sz U)) (va_Qi (lelP cy X a b) (LeBk D cy ad cH σ o (va_A (shW cy ad cH σ u ++ ouC cy o g) sz)) (va_A (shW cy ad cH σ u ++ ouC cy o g) sz)) 1 6 (va_A (shW cy ad cH σ u ++ ouC cy o g) sz) := by
  refine va_MetW (cc := cL_element) (maxL := 5) (ret := some .int) (hh := hhL) (by decide) rfl ?_
  intro p e s m args below meth c s₁ B hml hv
  obtain ⟨rfl, hsz, hP, hK, hD0, hLB, hY, hT⟩ := hv
  have hx := B.exec
  have hb := B.bytes
  have hr := B.returns
  have hlk := B.notSynchronized
  have hts := atoms_spec (ws := .codeWith yL_element cL_element 5 (some .int) hhL :: gThr) B.pre
  have htab := vx_table (x := yL_element) B (hts _ List.mem_cons_self)
  have hgT : ∀ w ∈ gThr, w.before [Value.ref (ad 0), .int a, .int b, .ref o].toArray s = true := fun w hw => hts w (List.mem_cons_of_mem _ hw)
  have hg : ∀ w ∈ gAll, w.before [Value.ref (ad 0), .int a, .int b, .ref o].toArray s = true := fun w hw => hgT w (gThr_l hw)
  have hown : s.vm.findClass RL = some m.cls := findClass_of_methodNamed B.named
  have hl := lv_entry ([.ref (ad 0), .int a, .int b, .ref o]) (n := 5) (Nat.le_of_ble_eq_true rfl)
  rw [lg_entry_eq]
  generalize (lg_sl ([.ref (ad 0), .int a, .int b, .ref o]) ++ List.replicate (5 - (lg_sl ([.ref (ad 0), .int a, .int b, .ref o])).length) Slot.unset).toArray = ls at hl ⊢
  have hl : lv_has ls 5 [(0, .ref (ad 0)), (1, .int a), (2, .int b), (3, .ref o)] := hl
  subst hsz
  have hD := hD0.self (sz := s.heap.size)
  generalize hAe : va_A (shW cy ad cH σ u ++ ouC cy o g) s.heap.size = A at hD hLB hT ⊢
  have hA : ∀ q : Nat, s.heap.size ≤ q → A q := fun q h => by rw [← hAe]; exact Or.inr h
  have hS : va_S A s.heap s.heap [] := va_S.rf
  have hF : ∀ x, va_A (shW cy ad cH σ u) s.heap.size x → A x := by
    intro x h
    rcases h with ⟨k, e, h⟩ | h
    · exact (vaD_l hD).2 k (x, e) h
    · exact hA x h
  show W p l e { frames := 7, cells := 1, slots := 6, locals := 106 } s m _ below meth c s.heap [] 0 0 _ _
  refine lv_aload_n hx hb dL_element_0 rfl (lv_at hl 3 rfl) ?_
  refine lv_iconst (v := (0 : Int32)) hx hb dL_element_1 (by decide) ?_
  refine lv_aload_n hx hb dL_element_2 rfl (lv_at hl 0 rfl) ?_
  refine lv_iload_n hx hb dL_element_3 rfl (lv_at hl 1 rfl) ?_
  refine lv_iload_n hx hb dL_element_4 rfl (lv_at hl 2 rfl) ?_
  refine vx_calll (vx_runV (As := [.int a, .int b]) (rest := [.int 0, .ref o]) ⟨hx, hb, hml, hown, hgT⟩ (c_X11_element l hl9 D cy ad tL cH σ u X hX a b s.heap.size) (cwV 2 hgT (goodVT vw_RL_7) rfl rfl rfl ⟨rfl, vw_RL_7.2.2.2.2.2⟩ ⟨Nat.le_of_ble_eq_true rfl, Nat.le_of_ble_eq_true rfl⟩) ⟨fun a U g mk q => by obtain ⟨q0, q1, ⟨qP, qK, qD, qL, qX⟩, qT⟩ := q; exact ⟨q0, q1, ⟨qP, va_K.moved (u := U) (U := U.calling g mk a) (Vm.Alike.refl U.vm) qK, qD, ⟨qL.1.moved (u := U) (U := U.calling g mk a) (Vm.Alike.refl U.vm), qL.2.moved (u := U) (U := U.calling g mk a) (Vm.Alike.refl U.vm)⟩, yPre.same rfl qX⟩, tPre.same rfl qT⟩, va_recv hK (vaP_l (vaP_l hP)) (ci := 9) (q0 := 0) cb_11.1 (wld_at (ds := dsC) (k := 0) rfl), fun U hU hW => ⟨rfl, by rw [hU], ⟨by rw [hU]; exact vaP_l hP, va_K.moved hW.alike hK, (vaD_l hD).weaken (fun _ _ _ _ => trivial), by rw [hU]; exact hLB.pass (fun _ _ _ => rfl) hF hW.alike, hY.warm hW⟩, by rw [hU]; exact hT.pass (fun _ _ _ => rfl) hF hW⟩⟩ rfl rfl hl.1 rfl (lv_room (Nat.le_of_ble_eq_true rfl)) dL_element_5 ⟨Nat.le_of_ble_eq_true rfl, Nat.le_of_ble_eq_true rfl⟩) hS (fun q _ h => hF q h) hF (fun q _ h => hF q h) (fun E ce q9 u1 t H1 locs1 ht hvm hpx hBX hz1 hk1 hS1 hcell hcv hcl => ?_) (fun v u1 t H1 locs1 ht hvm hp hB hz1 hk1 hS1 => ?_)
  · obtain ⟨⟨hP1, hK1, hD1⟩, hE⟩ := hBX
    rw [ht] at hP1
    obtain ⟨j1, j2⟩ := w_join (vaP_r hP) hD hk1 hF hD1
    have hP2 : va_P D vwCl (shW cy ad cH σ u1 ++ ouC cy o g) H1 := va_P.app hP1 j1
    rcases hE with ⟨rfl, z⟩ | ⟨rfl, z⟩
    · refine vx_catch hown [] { startPc := 0, endPc := 9, handlerPc := 12, catchType := 13 } [{ startPc := 0, endPc := 9, handlerPc := 16, catchType := 15 }] (by rw [htab]; rfl) (fun z hz => absurd hz List.not_mem_nil) (by decide) (by decide) (hg _ kw_830) (va_Nw.use rfl hT.1.2.2.2.2.1) hcell hcv hcl ?_
      refine lv_astore (i := 4) hx hb dL_element_12 hl (by decide) rfl (fun ls hl => ?_)
      refine lv_iconst (v := (1 : Int32)) hx hb dL_element_14 (by decide) ?_
      exact W.iret (v := 1) hx hb hr (fun t ht hW => ⟨⟨1, (u1, g), rfl, ⟨hpx, Or.inl ⟨rfl, z⟩⟩, by rw [ht]; exact hP2, va_K.moved hW.alike hK, j2⟩, hS1.F ht⟩) hS1.2.2 dL_element_15 hlk
    · refine vx_catch hown [{ startPc := 0, endPc := 9, handlerPc := 12, catchType := 13 }] { startPc := 0, endPc := 9, handlerPc := 16, catchType := 15 } [] (by rw [htab]; rfl) (fun z hz => ?_) (by decide) (by decide) (hg _ kw_831) (va_Nw.use rfl hT.1.2.2.2.1) hcell hcv hcl ?_
      · rw [List.mem_singleton.mp hz]
        exact Or.inr ⟨by decide, IAE, hg _ kw_830, hT.1.2.2.2.2.2⟩
      refine lv_astore (i := 4) hx hb dL_element_16 hl (by decide) rfl (fun ls hl => ?_)
      refine lv_iconst (v := (2 : Int32)) hx hb dL_element_18 (by decide) ?_
      exact W.iret (v := 2) hx hb hr (fun t ht hW => ⟨⟨2, (u1, g), rfl, ⟨hpx, Or.inr (Or.inl ⟨rfl, z⟩)⟩, by rw [ht]; exact hP2, va_K.moved hW.alike hK, j2⟩, hS1.F ht⟩) hS1.2.2 dL_element_19 hlk
  · obtain ⟨hP1, hK1, hD1⟩ := hB
    rw [ht] at hP1
    obtain ⟨j1, j2⟩ := w_join (vaP_r hP) hD hk1 hF hD1
    have hP2 : va_P D vwCl (shW cy ad cH σ u1 ++ ouC cy o g) H1 := va_P.app hP1 j1
    refine va_last hx hb hK hP2 j2 hS1 ((shW cy ad cH σ u1).length + 0) 1 (ax_at 0) rfl (in_nI (show 0 < 1 by decide) (by decide)) dL_element_8 (fun H2 locs2 hP3 hD3 hS3 => ?_)
    rw [ax_set] at hP3 hD3
    refine lv_goto (tgt := 20) hx hb dL_element_9 (by decide) ?_
    refine lv_iconst (v := (0 : Int32)) hx hb dL_element_20 (by decide) ?_
    refine W.iret (v := 0) hx hb hr (fun t ht hW => ⟨⟨0, (u1, vp_updL g 0 v), rfl, ⟨hp.1, Or.inr (Or.inr ⟨rfl, ?_⟩)⟩, by rw [ht]; exact hP3, va_K.moved hW.alike hK, hD3⟩, hS3.F ht⟩) hS3.2.2 dL_element_21 hlk
    obtain ⟨d, j, h1, h2, h3, h4⟩ := hp.2
    exact ⟨d, j, h1, h2, h3, by show vp_updL g 0 v 0 = _; unfold vp_updL; rw [if_pos rfl]; exact h4⟩
