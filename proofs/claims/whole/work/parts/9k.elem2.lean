/-! THE LAW: element -/
theorem vw_RL_136 : VWd RL 136 yX12_element cX12_element 4 (some .long) 2 := ⟨kw_1002, kw_1003, kw_1004, kw_566, kw_818, by decide, by decide, by decide +kernel⟩
theorem vw_RL_137 : VWd RL 137 yX12_thrown cX12_thrown 1 (some .int) 0 := ⟨kw_1005, kw_1006, kw_1007, kw_566, kw_614, by decide, by decide, by decide +kernel⟩
def gLaw : List Cond := .codeWith yL_element cL_element 5 (some .int) hhL :: gThr2
theorem gLaw_2 {w : Cond} (h : w ∈ gThr2) : w ∈ gLaw := List.mem_cons_of_mem _ h
theorem gLaw_t {w : Cond} (h : w ∈ gThr) : w ∈ gLaw := List.mem_cons_of_mem _ (List.mem_cons_of_mem _ h)
theorem gLaw_a {w : Cond} (h : w ∈ gAll) : w ∈ gLaw := gLaw_t (gThr_l h)
theorem gLaw_el : GoodIn gLaw (va_wsS RL 131 yL_element (.codeWith yL_element cL_element 5 (some .int) hhL :: gThr)) := by
  intro w hw
  simp only [va_wsS, List.mem_append, List.mem_cons, List.not_mem_nil, or_false] at hw
  rcases hw with (rfl | rfl | rfl) | rfl | hw
  · exact ⟨gLaw_a kw_999, (gAll_good _ kw_999).2⟩
  · exact ⟨gLaw_a kw_1000, (gAll_good _ kw_1000).2⟩
  · exact ⟨gLaw_a kw_1001, (gAll_good _ kw_1001).2⟩
  · exact ⟨List.mem_cons_self, good_of_word rfl⟩
  · exact ⟨gLaw_t hw, (gThr_good w hw).2⟩
theorem pm_out {a b c : va_W} : (a ++ (b ++ c)).Perm ((a ++ c) ++ b) := by
  rw [List.append_assoc]; exact List.Perm.append_left a List.perm_append_comm
theorem lg_self (x : Int64) : lg_cmp x x = 0 := by
  unfold lg_cmp
  rw [if_neg (show ¬ x > x from Int64.lt_irrefl), if_pos rfl]
section LAWE
variable {p : Program} {l : Launch} {e : Env} {R : Room} {s : State} {m : MethodId} {args : Array Value} {below : List Frame} {meth : Method} {c : Code} {H : Heap} {locs : List Loc} {cells slots : Nat} {Q : State → Prop}
variable {ls : Array Slot} {D : va_G} {cy : Nat → ClassId} {ad ad2 : Nat → Nat} {tL : Nat} {cH : ClassId} {σ τ : St} {u : SU} {o b L i : Nat} {xs : Nat → Int32} {g : Nat → Int64} {A : Nat → Prop} {X : Nat → Sf}
theorem lc_element (hl9 : l.stackTraces = false) (hx : p.tables.exec = Jvm.exec) (hb : c.code = cL_law) (hml : c.maxLocals = 8) (hown : s.vm.findClass RL = some m.cls) (hgL : ∀ w ∈ gLaw, w.before args s = true) (hK : va_K D vwCl (tyH cy cH) s) (hA : ∀ q : Nat, s.heap.size ≤ q → A q) (hLB : lowB tL A s s.heap) (hX : va_X b L xs s s.heap) (hbl : b < s.heap.size) (hbA : ¬ A b) (hR : 11 ≤ R.frames ∧ 378 ≤ R.locals) (hc2 : cells + 2 ≤ R.cells ∧ slots + 62 ≤ R.slots) (hY : yPre s) (hT : tPre A s s.heap) (hi : i + 6 ≤ L) (hL : L ≤ 3072) (hREP : REP σ τ) (hM : MSh τ X) (hSH : SHL cy u X) (hP : va_P D vwCl (lawW cy ad cH σ u ad2 τ o g) H) (hD : va_D A (lawW cy ad cH σ u ad2 τ o g)) (hS : va_S A s.heap H locs) (hl : lv_has ls 8 [(4, .int (nI i)), (0, .ref b), (1, .ref (ad 0)), (2, .ref (ad2 0)), (3, .ref o)])
    (kk : ∀ (σ' : St) (u' : SU) (τ' : St) (g' : Nat → Int64) (X' : Nat → Sf) (H1 : Heap) (locs1 : List Loc) (ls' : Array Slot), lv_has ls' 8 [(4, .int (nI i)), (0, .ref b), (1, .ref (ad 0)), (2, .ref (ad2 0)), (3, .ref o)] → REP σ' τ' → MSh τ' X' → SHL cy u' X' → va_P D vwCl (lawW cy ad cH σ' u' ad2 τ' o g') H1 → va_D A (lawW cy ad cH σ' u' ad2 τ' o g') → va_S A s.heap H1 locs1 → W p l e R s m args below meth c H1 locs1 (cells + 2) (slots + 62) Q (F0 m 1260 ls' [])) : W p l e R s m args below meth c H locs cells slots Q (F0 m 1070 ls []) := by
  obtain ⟨N, fs, sl, bd, P, r0, bb, hw, hcC, hm⟩ := hREP
  have hg : ∀ w ∈ gAll, w.before args s = true := fun w h => hgL w (gLaw_a h)
  have hP' := pm_P hP pm_out
  have hD' := pm_D hD pm_out
  have hF : ∀ x, va_A (shW cy ad cH σ u ++ ouC cy o g) H.size x → A x := by
    intro x h
    rcases h with ⟨k, e, h⟩ | h
    · exact (vaD_l hD').2 k (x, e) h
    · exact hA x (Nat.le_trans hS.1 h)
  have hcc : (cells + 1) ≤ R.cells ∧ (slots + 6) ≤ R.slots := ⟨by have := hc2.1; omega, by have := hc2.2; omega⟩
  refine lv_aload_n hx hb dL_law_1070 rfl (lv_at hl 2 rfl) ?_
  refine l_arg (j := 1) (by omega) hL (by decide) hx hb hX hbl hbA hS hl dL_law_1071 dL_law_1072 dL_law_1074 dL_law_1075 dL_law_1076 ?_
  refine l_arg (j := 2) (by omega) hL (by decide) hx hb hX hbl hbA hS hl dL_law_1077 dL_law_1078 dL_law_1080 dL_law_1081 dL_law_1082 ?_
  refine lv_aload_n hx hb dL_law_1083 rfl (lv_at hl 4 rfl) ?_
  refine va_calli (vx_runSW (As := [.ref (ad 0), .int (xs (i + 1)), .int (xs (i + 2)), .ref o]) (rest := []) ⟨hx, hb, hml, hown, hgL⟩ (c_L_element l hl9 D cy ad tL cH σ u o g X hSH (xs (i + 1)) (xs (i + 2)) H.size) (vx_cwSW 4 hgL gLaw_el rfl rfl rfl ⟨by decide, by decide, by decide +kernel⟩ ⟨by have := hR.1; show 7 + 1 ≤ R.frames; omega, by have := hR.2; show 8 + (5 + 11) + 106 ≤ R.locals; omega⟩) ⟨fun a U g mk q => by obtain ⟨q0, q1, qP, qK, qD, qL, qX, qT⟩ := q; exact ⟨q0, q1, qP, va_K.moved (u := U) (U := U.calling g mk a) (Vm.Alike.refl U.vm) qK, qD, ⟨qL.1.moved (u := U) (U := U.calling g mk a) (Vm.Alike.refl U.vm), qL.2.moved (u := U) (U := U.calling g mk a) (Vm.Alike.refl U.vm)⟩, yPre.same rfl qX, tPre.same rfl qT⟩, fun U hU hW => ⟨rfl, by rw [hU], by rw [hU]; exact vaP_l hP', va_K.moved hW.alike hK, (vaD_l hD').weaken (fun _ _ _ _ => trivial), by rw [hU]; exact hLB.pass hS.2.1 hF hW.alike, hY.warm hW, by rw [hU]; exact hT.pass hS.2.1 hF hW⟩⟩ rfl rfl hl.1 rfl (lv_room (Nat.le_of_ble_eq_true rfl)) dL_law_1084 hcc) hS (fun q _ h => hF q h) hF (fun k w t H1 locs1 ht hvm hp hB hz1 hk1 hS1 => ?_)
  obtain ⟨hP1, hK1, hD1⟩ := hB
  rw [ht] at hP1
  obtain ⟨j1, j2⟩ := w_join (vaP_r hP') hD' hk1 hF hD1
  have hP2 : va_P D vwCl (lawW cy ad cH σ w.1 ad2 τ o w.2) H1 := pm_P (va_P.app hP1 j1) pm_out.symm
  have hD2 : va_D A (lawW cy ad cH σ w.1 ad2 τ o w.2) := pm_D j2 pm_out.symm
  refine lv_istore (i := 5) hx hb dL_law_1087 hl (by decide) rfl (fun ls hl => ?_)
  have hl5 : lv_has ls 8 [(5, .int k), (4, .int (nI i)), (0, .ref b), (1, .ref (ad 0)), (2, .ref (ad2 0)), (3, .ref o)] := hl
  have hl := lv_sub hl5 [1, 2, 3, 4, 5] (l' := [(4, .int (nI i)), (0, .ref b), (1, .ref (ad 0)), (2, .ref (ad2 0)), (3, .ref o)]) rfl
  refine lv_aload_n hx hb dL_law_1089 rfl (lv_at hl 3 rfl) ?_
  refine l_arg (j := 1) (by omega) hL (by decide) hx hb hX hbl hbA hS1 hl dL_law_1090 dL_law_1091 dL_law_1093 dL_law_1094 dL_law_1095 ?_
  refine l_arg (j := 2) (by omega) hL (by decide) hx hb hX hbl hbA hS1 hl dL_law_1096 dL_law_1097 dL_law_1099 dL_law_1100 dL_law_1101 ?_
  refine l_refl (As := [.int (xs (i + 1)), .int (xs (i + 2))]) (rest := []) (c_X12_element l D cy ad2 tL τ _ _ _ (r_element hw hcC hm hM hp)) vw_RL_136 cb_12 hx hb hml hown hg hK hP2 hD2 hS1 hA hLB rfl ⟨by have := hR.1; omega, by have := hR.2; omega⟩ hcc hl.1 rfl (Nat.le_of_ble_eq_true rfl) dL_law_1102 (fun r1 τ1 hq H locs hP hD hS => ?_)
  obtain ⟨e1, e2, h1, X1, h2, h3⟩ := hq
  refine lv_lstore (i := 6) hx hb dL_law_1105 hl5 (by decide) rfl (fun ls hl => ?_)
  have hl6 : lv_has ls 8 [(6, .long r1), (5, .int k), (4, .int (nI i)), (0, .ref b), (1, .ref (ad 0)), (2, .ref (ad2 0)), (3, .ref o)] := hl
  have hlE := lv_sub hl6 [2, 3, 4, 5, 6] (l' := [(4, .int (nI i)), (0, .ref b), (1, .ref (ad 0)), (2, .ref (ad2 0)), (3, .ref o)]) rfl
  refine lv_aload_n hx hb dL_law_1107 rfl (lv_at hlE 3 rfl) ?_
  refine l_ref (As := []) (rest := []) (c_X12_thrown l D cy ad2 tL τ1 (fun v => v = τ1.1 0 0) rfl) vw_RL_137 cb_12 hx hb hml hown hg hK hP hD hS hA hLB rfl ⟨by have := hR.1; omega, by have := hR.2; omega⟩ hcc hlE.1 rfl (Nat.le_of_ble_eq_true rfl) dL_law_1108 (fun r2 τ2 hq H locs hP hD hS => ?_)
  obtain ⟨hq, rfl⟩ := hq
  have hq : r2 = k := hq.trans e1
  subst hq
  refine lv_iload hx hb dL_law_1111 (lv_at hl6 1 rfl) ?_
  refine lv_icmp_eq (tgt := 1118) hx hb dL_law_1113 (by decide) (fun _ => ?_) (fun z => absurd rfl z)
  have fin : W p l e R s m args below meth c H locs (cells + 1) (slots + 6) Q (F0 m 1134 ls []) := by
    refine lv_goto (tgt := 1260) hx hb dL_law_1134 (by decide) ?_
    exact W.widen (by omega) (by omega) (kk _ w.1 _ w.2 X1 H locs ls hlE h1 h2 h3 hP hD hS)
  refine lv_iload hx hb dL_law_1118 (lv_at hl6 1 rfl) ?_
  refine lv_if_ne (tgt := 1134) hx hb dL_law_1120 (by decide) (fun _ => fin) (fun z => ?_)
  refine lv_aload_n hx hb dL_law_1123 rfl (lv_at hlE 4 rfl) ?_
  refine lv_iconst (v := (0 : Int32)) hx hb dL_law_1124 (by decide) ?_
  have hout : (lawW cy ad cH σ w.1 ad2 τ1 o w.2)[(shW cy ad cH σ w.1).length + ((wld cy ad2 dsM τ1).length + 0)]? = some (o, .inl (cy 1, 1, .inr (.inl w.2))) := by
    unfold lawW
    rw [ax_at, ax_at]; rfl
  refine va_lald hx hb hK hP _ 1 hout rfl (in_nI (show 0 < 1 by decide) (by decide)) dL_law_1125 ?_
  refine lv_lload hx hb dL_law_1126 (lv_at hl6 0 rfl) ?_
  refine W.lcmp hx hb dL_law_1128 ?_
  have ev : w.2 (0 : Int32).toNatClampNeg = r1 := e2 z
  rw [ev, lg_self]
  exact lv_if_eq (tgt := 1134) hx hb dL_law_1129 (by decide) (fun _ => fin) (fun z => absurd rfl z)
end LAWE
