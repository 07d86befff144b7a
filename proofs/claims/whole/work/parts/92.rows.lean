/-! ROWS: made by the class -/
abbrev roC (o : Int32) (b : Nat) : va_E := .inr (4, [.int o, .ref b])
abbrev ro0 : va_E := .inr (4, [.int 0, .null])
abbrev arC (cy : Nat → ClassId) (n : Nat) (g : Nat → Int32) : va_E := .inl (cy 0, n, .inl g)
section ROWS
variable {p : Program} {l : Launch} {e : Env} {R : Room} {s : State} {m : MethodId} {args : Array Value} {below : List Frame} {meth : Method} {c : Code} {H : Heap} {locs : List Loc} {cells slots : Nat} {Q : State → Prop}
variable {cc : ByteArray} {pc nL : Nat} {ls : Array Slot} {rest : List Value} {D : va_G} {cy : Nat → ClassId} {ws : va_W} {A : Nat → Prop}
theorem w_newRow (hx : p.tables.exec = Jvm.exec) (hb : c.code = cc) (hown : s.vm.findClass RX11 = some m.cls) (hg : ∀ w ∈ gAll, w.before args s = true) (hK : va_K D vwCl (tyl cy) s) (hP : va_P D vwCl ws H) (hD : va_D A ws) (hS : va_S A s.heap H locs) (hA : ∀ q : Nat, s.heap.size ≤ q → A q) (hR : cells + 1 ≤ R.cells ∧ slots + 2 ≤ R.slots) (hd : decode cc pc = .ok (.new 267, 3))
    (kk : ∀ (q : Nat) (H1 : Heap), va_P D vwCl (ws ++ [(q, ro0)]) H1 → va_D A (ws ++ [(q, ro0)]) → va_S A s.heap H1 locs → W p l e R s m args below meth c H1 locs (cells + 1) (slots + 2) Q (F0 m (pc + 3) ls (.ref q :: rest))) : W p l e R s m args below meth c H locs cells slots Q (F0 m pc ls rest) :=
  va_new (ci := 4) (fs := [.int 0, .null]) (C := RX6) (T := TX6) (N := 2) hx hb hg ku_X6 tyX6 tyX6_ok hown (hg _ kw_506) (hg _ kw_507) (hg _ kw_508) hK hP hD hS hA rfl (fun j hj => by rcases (show j = 0 ∨ j = 1 by omega) with rfl | rfl <;> rfl) hR.1 hR.2 hd kk
theorem w_rowInit {q N' : Nat} {a1 a2 : Int32} (hn : ¬ a2 < 0) (hN : a2.toNatClampNeg = N') (h60 : N' ≤ 60) (hx : p.tables.exec = Jvm.exec) (hb : c.code = cc) (hml : c.maxLocals = nL) (hown : s.vm.findClass RX11 = some m.cls) (hg : ∀ w ∈ gAll, w.before args s = true) (hK : va_K D vwCl (tyl cy) s) (hY : yPre s) (hP : va_P D vwCl (ws ++ [(q, ro0)]) H) (hD : va_D A (ws ++ [(q, ro0)])) (hS : va_S A s.heap H locs) (hA : ∀ q : Nat, s.heap.size ≤ q → A q) (hR : 3 ≤ R.frames ∧ 54 ≤ R.locals) (hR2 : cells + 1 ≤ R.cells ∧ slots + N' ≤ R.slots) (hls : ls.size = nL) (hr : (rest.map fun v => v.category).sum ≤ 8) (hd : decode cc pc = .ok (.invokespecial 269, 3))
    (kk : ∀ (b : Nat) (H1 : Heap) (locs1 : List Loc), va_P D vwCl (ws ++ [(q, roC a1 b), (b, arC cy N' (fun _ => 0))]) H1 → va_D A (ws ++ [(q, roC a1 b), (b, arC cy N' (fun _ => 0))]) → va_S A s.heap H1 locs1 → W p l e R s m args below meth c H1 locs1 (cells + 1) (slots + N') Q (F0 m (pc + 3) ls rest)) : W p l e R s m args below meth c H locs cells slots Q (F0 m pc ls (.int a2 :: .int a1 :: .ref q :: rest)) := by
  have hP' := pm_P hP pm_front
  have hD' := pm_D hD pm_front
  have hF : ∀ x, va_A [(q, ro0)] H.size x → A x := by
    intro x h
    rcases h with ⟨k, e, h⟩ | h
    · exact (vaD_l hD').2 k (x, e) h
    · exact hA x (Nat.le_trans hS.1 h)
  refine va_callv (va_runI (As := [.int a1, .int a2]) (rest := rest) ⟨hx, hb, hml, hown, hg⟩ (c_X6_init l D cy q H.size a1 a2 N' hn hN h60) (cwI 2 hg (gi_code kw_155) rfl rfl rfl (hg _ kw_508) (hg _ kw_510) (hg _ kw_511) rfl (by decide +kernel) hR) ⟨fun a U g mk q => by obtain ⟨q0, q1, qP, qK, qD, qX⟩ := q; exact ⟨q0, q1, qP, va_K.moved (u := U) (U := U.calling g mk a) (Vm.Alike.refl U.vm) qK, qD, yPre.same rfl qX⟩, fun U hU hW => ⟨rfl, by rw [hU], by rw [hU]; exact vaP_l hP', va_K.moved hW.alike hK, (vaD_l hD').weaken (fun _ _ _ _ => trivial), hY.warm hW⟩⟩ rfl rfl hls rfl (lv_room hr) hd hR2) hS (fun q _ h => hF q h) hF (fun u t H1 locs1 ht hvm hw hB hz1 hk1 hS1 => ?_)
  obtain ⟨b, hP1, hK1, hD1⟩ := hB
  rw [ht] at hP1
  obtain ⟨j1, j2⟩ := w_join (vaP_r hP') hD' hk1 hF hD1
  exact kk b H1 locs1 (pm_P (va_P.app hP1 j1) pm_front) (pm_D j2 pm_front) hS1
end ROWS
