/-! ROWS: made by the class -/
abbrev roC (o : Int32) (b : Nat) : va_E := .inr (4, [.int o, .ref b])
abbrev ro0 : va_E := .inr (4, [.int 0, .null])
abbrev arC (cy : Nat → ClassId) (n : Nat) (g : Nat → Int32) : va_E := .inl (cy 0, n, .inl g)
section ROWS
variable {p : Program} {l : Launch} {e : Env} {R : Room} {s : State} {m : MethodId} {args : Array Value} {below : List Frame} {meth : Method} {c : Code} {H : Heap} {locs : List Loc} {cells slots : Nat} {Q : State → Prop}
variable {cc : ByteArray} {pc nL : Nat} {ls : Array Slot} {rest : List Value} {D : va_G} {cy : Nat → ClassId} {ws : va_W} {A : Nat → Prop}
theorem w_newRow (hx : p.tables.exec = Jvm.exec) (hb : c.code = cc) (hown : s.vm.findClass RX11 = some m.cls) (hg : ∀ w ∈ gAll, w.before args s = true) (hK : va_K D vwCl (tyl cy) s) (hP : va_P D vwCl ws H) (hD : va_D A ws) (hS : va_S A s.heap H locs) (hA : ∀ q : Nat, s.heap.size ≤ q → A q) (hR : cells + 1 ≤ R.cells ∧ slots + 2 ≤ R.slots) (hd : decode cc pc = .ok (.new 267, 3))
    (kk : ∀ (q : Nat) (H1 : Heap), va_P D vwCl (ws ++ [(q, ro0)]) H1 → va_D A (ws ++ [(q, ro0)]) → va_S A s.heap H1 locs → W p l e R s m args below meth c H1 locs (cells + 1) (slots + 2) Q (F0 m (pc + 3) ls (.ref q :: rest))) : W p l e R s m args below meth c H locs cells slots Q (F0 m pc ls rest) :=
  va_new (ci := 4) (fs := [.int 0, .null]) (C := RX6) (T := TX6) (N := 2) hx hb hg ku_X6 tyX6 tyX6_ok hown (hg _ kw_506) (hg _ kw_507) (hg _ kw_508) hK hP hD hS hA rfl (fun j hj => by rcases (show j = 0 ∨ j = 1 by omega) with rfl | rfl <;> rfl) hR.1 hR.2 hd kk
theorem w_rowInit {q N' : Nat} {a1 a2 : Int32} (hn : ¬ a2 < 0) (hN : a2.toNatClampNeg = N') (h60 : N' ≤ 60) (hx : p.tables.exec = Jvm.exec) (hb : c.code = cc) (hml : c.maxLocals = nL) (hown : s.vm.findClass RX11 = some m.cls) (hg : ∀ w ∈ gAll, w.before args s = true) (hK : va_K D vwCl (tyl cy) s) (hY : yPre s) (hP : va_P D vwCl (ws ++ [(q, ro0)]) H) (hD : va_D A (ws ++ [(q, ro0)])) (hS : va_S A s.heap H locs) (hA : ∀ q : Nat, s.heap.size ≤ q → A q) (hR : 3 ≤ R.frames ∧ 54 ≤ R.locals) (hR2 : cells + 1 ≤ R.cells ∧ slots + N' ≤ R.slots) (hls : ls.size = nL) (hr : (rest.map fun v => v.category).sum ≤ 8) (hd : decode cc pc = .ok (.invokespecial 269, 3))
    (kk : ∀ (b : Nat) (H1 : Heap) (locs1 : List Loc), va_P D vwCl (ws ++ [(q, roC a1 b), (b, arC cy N' (fun _ => 0))]) H1 → va_D A (ws ++ [(q, roC a1 b), (b, arC cy N' (fun _ => 0))]) → va_S A s.heap H1 locs1 → W p l e R s m args below meth c H1 locs1 (cells + 1) (slots + N') Q (F0 m (pc + 3) ls rest)) : W p l e R s m args below meth c H locs cells slots Q (F0 m pc ls (.int a2 :: .int a1 :: .ref q :: rest)) := by
  have hP' := pm_P hP pm_front
  have hD' := pm_D hD pm_front
  have hF : ∀ x, va_A [(q, ro0)] H.size x → A x := by
    intro x h
    rcases h with ⟨k, e, h⟩ | h
    · exact (vaD_l hD').2 k (x, e) h
    · exact hA x (Nat.le_trans hS.1 h)
  refine va_callv (va_runI (As := [.int a1, .int a2]) (rest := rest) ⟨hx, hb, hml, hown, hg⟩ (c_X6_init l D cy q H.size a1 a2 N' hn hN h60) (cwI 2 hg (gi_code kw_155) rfl rfl rfl (hg _ kw_508) (hg _ kw_510) (hg _ kw_511) rfl (by decide +kernel) hR) ⟨fun a U g mk q => by obtain ⟨q0, q1, qP, qK, qD, qX⟩ := q; exact ⟨q0, q1, qP, va_K.moved (u := U) (U := U.calling g mk a) (Vm.Alike.refl U.vm) qK, qD, yPre.same rfl qX⟩, fun U hU hW => ⟨rfl, by rw [hU], by rw [hU]; exact vaP_l hP', va_K.moved hW.alike hK, (vaD_l hD').weaken (fun _ _ _ _ => trivial), hY.warm hW⟩⟩ rfl rfl hls rfl (lv_room hr) hd hR2) hS (fun q _ h => hF q h) hF (fun u t H1 locs1 ht hvm hw hB hz1 hk1 hS1 => ?_)
  obtain ⟨b, hP1, hK1, hD1⟩ := hB
  rw [ht] at hP1
  obtain ⟨j1, j2⟩ := w_join (vaP_r hP') hD' hk1 hF hD1
  exact kk b H1 locs1 (pm_P (va_P.app hP1 j1) pm_front) (pm_D j2 pm_front) hS1
end ROWS
theorem ax_at {a r : va_W} (i : Nat) : (a ++ r)[a.length + i]? = r[i]? := by
  rw [List.getElem?_append_right (Nat.le_add_right _ _), Nat.add_sub_cancel_left]
theorem ax_set {a r : va_W} (i : Nat) (y : Nat × va_E) : (a ++ r).set (a.length + i) y = a ++ r.set i y := by
  rw [List.set_append_right _ _ (Nat.le_add_right _ _), Nat.add_sub_cancel_left]
theorem in_nI {i n : Nat} (h : i < n) (hn : n < 2 ^ 31) : vp_in (nI i) n := (ck_of (A := True) i rfl h hn trivial).1
def RwPre (D : va_G) (cy : Nat → ClassId) (ad : Nat → Nat) (tL : Nat) (σ : St) (sz : Nat) : State → Prop := fun U => va_P D vwCl (wld cy ad dsC σ) U.heap ∧ va_K D vwCl (tyl cy) U ∧ va_D (fun _ => True) (wld cy ad dsC σ) ∧ lowB tL (va_A (wld cy ad dsC σ) sz) U U.heap ∧ yPre U
def RwBk (D : va_G) (cy : Nat → ClassId) (ad : Nat → Nat) (σ : St) (sz : Nat) (o : Int32) (n : Nat) : Nat × (Nat → Int32) → Nat → State → Prop := fun u a t => va_P D vwCl (wld cy ad dsC σ ++ [(a, roC o u.1), (u.1, arC cy n u.2)]) t.heap ∧ va_K D vwCl (tyl cy) t ∧ va_D (va_A (wld cy ad dsC σ) sz) (wld cy ad dsC σ ++ [(a, roC o u.1), (u.1, arC cy n u.2)])
set_option maxHeartbeats 4000000 in
theorem c_X11_rowOfClocks (l : Launch) (D : va_G) (cy : Nat → ClassId) (ad : Nat → Nat) (tL : Nat) (σ : St) (sz n : Nat) (hm : σ.1 5 3 = nI n) (h60 : n ≤ 60) : Met l yX11_rowOfClocks (.code yX11_rowOfClocks cX11_rowOfClocks 2 (some (.object "ClockCourt$Row")) :: gAll) { frames := 3, cells := 2, slots := n + 2, locals := 54 } (va_Pc [.ref (ad 0)] (fun U => U.heap.size = sz ∧ RwPre D cy ad tL σ sz U)) (va_Qr (fun u : Nat × (Nat → Int32) => ∀ j, j < n → u.2 j = σ.1 24 j) (RwBk D cy ad σ sz 4 n) (va_A (wld cy ad dsC σ) sz)) 2 (n + 2) (va_A (wld cy ad dsC σ) sz) := by
  refine ent_met (by decide) (Nat.le_of_ble_eq_true rfl) ?_
  intro p e s m args below meth c hx hb hml hr hlk hg hown hnm hsz hB ls hl
  obtain ⟨hP, hK, hD0, hLB, hY⟩ := hB
  subst hsz
  have hown : s.vm.findClass RX11 = some m.cls := hown
  have hl : lv_has ls 2 [(0, .ref (ad 0))] := hl
  have hD := hD0.self (sz := s.heap.size)
  generalize hAe : va_A (wld cy ad dsC σ) s.heap.size = A at hD ⊢
  have hA : ∀ q : Nat, s.heap.size ≤ q → A q := fun q h => by rw [← hAe]; exact Or.inr h
  have hS : va_S A s.heap s.heap [] := va_S.rf
  have n31 : n < 2 ^ 31 := by omega
  refine w_newRow hx hb hown hg hK hP hD hS hA ⟨Nat.le_of_ble_eq_true rfl, by show 0 + 2 ≤ n + 2; omega⟩ dX11_rowOfClocks_0 (fun q H hP hD hS => ?_)
  refine lv_dup hx hb dX11_rowOfClocks_3 rfl ?_
  refine lv_iconst (v := (4 : Int32)) hx hb dX11_rowOfClocks_4 (by decide) ?_
  refine lv_aload_n hx hb dX11_rowOfClocks_5 rfl (lv_at hl 0 rfl) ?_
  refine wi_getr hx hb hg hown hK (vaP_l hP) 0 3 5 rfl rfl cb_11 (by decide) kw_360 dX11_rowOfClocks_6 ?_
  refine wi_geti hx hb hg hown hK (vaP_l hP) 5 3 rfl rfl cb_7 (by decide) kw_425 dX11_rowOfClocks_9 ?_
  rw [hm]
  refine w_rowInit (N' := n) (nI_pos n31) (cl_nI n31) h60 hx hb hml hown hg hK hY hP hD hS hA ⟨Nat.le_of_ble_eq_true rfl, Nat.le_of_ble_eq_true rfl⟩ ⟨Nat.le_of_ble_eq_true rfl, by show 0 + 2 + n ≤ n + 2; omega⟩ hl.1 (Nat.le_of_ble_eq_true rfl) dX11_rowOfClocks_12 (fun b H locs hP hD hS => ?_)
  refine lv_astore_n (i := 1) hx hb dX11_rowOfClocks_15 rfl hl (by decide) rfl (fun ls hl => ?_)
  have hl : lv_has ls 2 [(1, .ref q), (0, .ref (ad 0))] := hl
  refine lv_aload_n hx hb dX11_rowOfClocks_16 rfl (lv_at hl 1 rfl) ?_
  refine wi_getr hx hb hg hown hK (vaP_l hP) 0 3 5 rfl rfl cb_11 (by decide) kw_360 dX11_rowOfClocks_17 ?_
  refine wi_getr hx hb hg hown hK (vaP_l hP) 5 7 24 rfl rfl cb_7 (by decide) kw_514 dX11_rowOfClocks_20 ?_
  refine lv_iconst (v := (0 : Int32)) hx hb dX11_rowOfClocks_23 (by decide) ?_
  refine lv_aload_n hx hb dX11_rowOfClocks_24 rfl (lv_at hl 0 rfl) ?_
  refine va_get (C := RX6) (T := TX6) (N := 2) hx hb hg ku_X6 hown hK hP _ (ax_at 0) rfl 1 (by decide) (hg _ kw_509) (fun _ h => h) (v := .ref b) rfl dX11_rowOfClocks_25 ?_
  refine lv_iconst (v := (0 : Int32)) hx hb dX11_rowOfClocks_28 (by decide) ?_
  refine lv_aload_n hx hb dX11_rowOfClocks_29 rfl (lv_at hl 1 rfl) ?_
  refine wi_getr hx hb hg hown hK (vaP_l hP) 0 3 5 rfl rfl cb_11 (by decide) kw_360 dX11_rowOfClocks_30 ?_
  refine wi_geti hx hb hg hown hK (vaP_l hP) 5 3 rfl rfl cb_7 (by decide) kw_425 dX11_rowOfClocks_33 ?_
  rw [hm]
  have h24 : (wld cy ad dsC σ ++ [(q, roC 4 b), (b, arC cy n (fun _ => 0))])[24]? = some (ad 24, .inl (cy 0, 60, .inl (σ.1 24))) := by
    rw [List.getElem?_append_left (by unfold wld; rw [List.length_mapIdx]; decide)]
    exact wld_at (ds := dsC) (k := 24) rfl
  refine va_copyi hx hb (by rw [hml]; exact hl.1.symm) hown (hg _ kw_515) (hg _ kw_516) (hg _ kw_517) (hg _ kw_518) hK hP hD hS 24 ((wld cy ad dsC σ).length + 1) 0 0 h24 (ax_at 1) rfl rfl rfl (by decide) (by decide) (nI_pos n31) (by rw [cl_nI n31]; show 0 + n ≤ 60; omega) (by rw [cl_nI n31]; show 0 + n ≤ n; omega) (fun i _ => rfl) (Nat.le_of_ble_eq_true rfl) (Nat.le_of_ble_eq_true rfl) dX11_rowOfClocks_36 (fun H locs hP hD hS => ?_)
  rw [ax_set, cl_nI n31] at hP hD
  refine lv_aload_n hx hb dX11_rowOfClocks_39 rfl (lv_at hl 0 rfl) ?_
  refine W.widen (k := 2) (n := n + 2) (Nat.le_of_ble_eq_true rfl) (by omega) ?_
  refine W.aret (v := .ref q) hx hb hr (Or.inl ⟨_, rfl⟩) (Or.inr ⟨q, rfl⟩) (fun t ht hW => ⟨⟨(b, va_cpy (σ.1 24) (fun _ => 0) 0 0 n), q, rfl, fun j hj => ?_, by rw [ht]; exact hP, va_K.moved hW.alike hK, by rw [hAe]; exact hD⟩, hS.F ht⟩) hS.2.2 dX11_rowOfClocks_40 hlk
  show (if 0 ≤ j ∧ j < 0 + n then σ.1 24 (0 + (j - 0)) else 0) = σ.1 24 j
  rw [if_pos (by omega), show 0 + (j - 0) = j by omega]
