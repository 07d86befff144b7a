/-! THE LAW: toss -/
theorem vw_RL_149 : VWd RL 149 yX11_toss cX11_toss 3 (some .int) 1 := ⟨kw_1020, kw_1021, kw_1022, kw_390, kw_550, by decide, by decide, by decide +kernel⟩
theorem vw_RL_152 : VWd RL 152 yX12_toss cX12_toss 3 (some .int) 1 := ⟨kw_1023, kw_1024, kw_1025, kw_566, kw_829, by decide, by decide, by decide +kernel⟩
theorem goodV2 {own : String} {idx : Nat} {y : MethodName} {cc : ByteArray} {maxL n : Nat} {ret : Option FieldType} (h : VWd own idx y cc maxL ret n) : GoodIn gThr2 (wsV own idx y.cls y (.code y cc maxL ret :: gThr2)) := by
  obtain ⟨h1, h2, h3, h4, h5, -⟩ := h
  intro w hw
  have : w ∈ gThr2 := by
    simp only [wsV, List.mem_append, List.mem_cons, List.not_mem_nil, or_false] at hw
    rcases hw with (rfl | rfl | rfl | rfl) | rfl | hw
    · exact List.mem_cons_of_mem _ (gThr_l h1)
    · exact List.mem_cons_of_mem _ (gThr_l h2)
    · exact List.mem_cons_of_mem _ (gThr_l h3)
    · exact List.mem_cons_of_mem _ (gThr_l h4)
    · exact List.mem_cons_of_mem _ (gThr_l h5)
    · exact hw
  exact gThr2_good w this
section LAWT
variable {p : Program} {l : Launch} {e : Env} {R : Room} {s : State} {m : MethodId} {args : Array Value} {below : List Frame} {meth : Method} {c : Code} {H : Heap} {locs : List Loc} {cells slots : Nat} {Q : State → Prop}
variable {ls : Array Slot} {D : va_G} {cy : Nat → ClassId} {ad ad2 : Nat → Nat} {tL : Nat} {cH : ClassId} {σ τ : St} {u : SU} {o b L i : Nat} {xs : Nat → Int32} {g : Nat → Int64} {A : Nat → Prop} {X : Nat → Sf}
theorem lc_toss (hl9 : l.stackTraces = false) (hx : p.tables.exec = Jvm.exec) (hb : c.code = cL_law) (hml : c.maxLocals = 8) (hown : s.vm.findClass RL = some m.cls) (hg2 : ∀ w ∈ gThr2, w.before args s = true) (hK : va_K D vwCl (tyH cy cH) s) (hA : ∀ q : Nat, s.heap.size ≤ q → A q) (hLB : lowB tL A s s.heap) (hX : va_X b L xs s s.heap) (hbl : b < s.heap.size) (hbA : ¬ A b) (hR : 11 ≤ R.frames ∧ 378 ≤ R.locals) (hc2 : cells + 2 ≤ R.cells ∧ slots + 62 ≤ R.slots) (hY : yPre s) (hT : tPre A s s.heap) (hi : i + 6 ≤ L) (hL : L ≤ 3072) (hREP : REP σ τ) (hM : MSh τ X) (hSH : SHL cy u X) (hP : va_P D vwCl (lawW cy ad cH σ u ad2 τ o g) H) (hD : va_D A (lawW cy ad cH σ u ad2 τ o g)) (hS : va_S A s.heap H locs) (hl : lv_has ls 8 [(4, .int (nI i)), (0, .ref b), (1, .ref (ad 0)), (2, .ref (ad2 0)), (3, .ref o)])
    (kk : ∀ (σ' : St) (u' : SU) (τ' : St) (g' : Nat → Int64) (X' : Nat → Sf) (H1 : Heap) (locs1 : List Loc), REP σ' τ' → MSh τ' X' → SHL cy u' X' → va_P D vwCl (lawW cy ad cH σ' u' ad2 τ' o g') H1 → va_D A (lawW cy ad cH σ' u' ad2 τ' o g') → va_S A s.heap H1 locs1 → W p l e R s m args below meth c H1 locs1 (cells + 2) (slots + 62) Q (F0 m 1260 ls [])) : W p l e R s m args below meth c H locs cells slots Q (F0 m 1235 ls []) := by
  obtain ⟨N, fs, sl, bd, P, r0, bb, hw, hcC, hm⟩ := hREP
  have hg : ∀ w ∈ gAll, w.before args s = true := fun w h => hg2 w (List.mem_cons_of_mem _ (gThr_l h))
  have hF : ∀ x, va_A (shW cy ad cH σ u) H.size x → A x := by
    intro x h
    rcases h with ⟨k, e, h⟩ | h
    · exact (vaD_l hD).2 k (x, e) h
    · exact hA x (Nat.le_trans hS.1 h)
  refine lv_aload_n hx hb dL_law_1235 rfl (lv_at hl 2 rfl) ?_
  refine l_arg (j := 1) (by omega) hL (by decide) hx hb hX hbl hbA hS hl dL_law_1236 dL_law_1237 dL_law_1239 dL_law_1240 dL_law_1241 ?_
  refine va_calli (va_runV (As := [.int (xs (i + 1))]) (rest := []) ⟨hx, hb, hml, hown, hg2⟩ (c_X11_toss l hl9 D cy ad tL cH σ u X hSH (xs (i + 1)) H.size) (cwV 1 hg2 (goodV2 vw_RL_149) rfl rfl rfl ⟨rfl, vw_RL_149.2.2.2.2.2⟩ ⟨by have := hR.1; show 8 + 1 ≤ R.frames; omega, by have := hR.2; show 8 + (3 + 11) + 123 ≤ R.locals; omega⟩) ⟨fun a U g mk q => by obtain ⟨q0, q1, ⟨qP, qK, qD, qL, qX⟩, qT⟩ := q; exact ⟨q0, q1, ⟨qP, va_K.moved (u := U) (U := U.calling g mk a) (Vm.Alike.refl U.vm) qK, qD, ⟨qL.1.moved (u := U) (U := U.calling g mk a) (Vm.Alike.refl U.vm), qL.2.moved (u := U) (U := U.calling g mk a) (Vm.Alike.refl U.vm)⟩, yPre.same rfl qX⟩, tPre.same rfl qT⟩, va_recv hK (vaP_l (vaP_l hP)) (ci := 9) (q0 := 0) cb_11.1 (wld_at (ds := dsC) (k := 0) rfl), fun U hU hW => ⟨rfl, by rw [hU], ⟨by rw [hU]; exact vaP_l hP, va_K.moved hW.alike hK, (vaD_l hD).weaken (fun _ _ _ _ => trivial), by rw [hU]; exact hLB.pass hS.2.1 hF hW.alike, hY.warm hW⟩, by rw [hU]; exact hT.pass hS.2.1 hF hW⟩⟩ rfl rfl hl.1 rfl (lv_room (Nat.le_of_ble_eq_true rfl)) dL_law_1242 ⟨by have := hc2.1; omega, by have := hc2.2; omega⟩) hS (fun q _ h => hF q h) hF (fun r u1 t H1 locs1 ht hvm hp hB hz1 hk1 hS1 => ?_)
  obtain ⟨hP1, hK1, hD1⟩ := hB
  rw [ht] at hP1
  obtain ⟨j1, j2⟩ := w_join (vaP_r hP) hD hk1 hF hD1
  have hP2 : va_P D vwCl (lawW cy ad cH σ u1 ad2 τ o g) H1 := va_P.app hP1 j1
  refine lv_aload_n hx hb dL_law_1245 rfl (lv_at hl 3 rfl) ?_
  refine l_arg (j := 1) (by omega) hL (by decide) hx hb hX hbl hbA hS1 hl dL_law_1246 dL_law_1247 dL_law_1249 dL_law_1250 dL_law_1251 ?_
  refine l_ref (As := [.int (xs (i + 1))]) (rest := [.int r]) (c_X12_toss l D cy ad2 tL τ _ _ (r_toss hw hcC hm hM hp)) vw_RL_152 cb_12 hx hb hml hown hg hK hP2 j2 hS1 hA hLB rfl ⟨by have := hR.1; omega, by have := hR.2; omega⟩ ⟨by have := hc2.1; omega, by have := hc2.2; omega⟩ hl.1 rfl (Nat.le_of_ble_eq_true rfl) dL_law_1252 (fun r1 τ1 hq H locs hP hD hS => ?_)
  obtain ⟨e1, h1, X1, h2, h3⟩ := hq
  subst e1
  exact lv_icmp_eq (tgt := 1260) hx hb dL_law_1255 (by decide) (fun _ => W.widen (by omega) (by omega) (kk _ u1 _ g X1 H locs h1 h2 h3 hP hD hS)) (fun z => absurd rfl z)
end LAWT
