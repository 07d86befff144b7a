/-! calls from a method of any room, beside other cells that stay -/
theorem vaP_l {D : va_G} {cl : List vw_C} {w1 w2 : va_W} {H : Heap} (h : va_P D cl (w1 ++ w2) H) : va_P D cl w1 H := fun k q hk => h k q (by rw [List.getElem?_append_left (List.getElem?_eq_some_iff.mp hk).1]; exact hk)
theorem vaP_r {D : va_G} {cl : List vw_C} {w1 w2 : va_W} {H : Heap} (h : va_P D cl (w1 ++ w2) H) : va_P D cl w2 H := fun k q hk => h (w1.length + k) q (by rw [List.getElem?_append_right (Nat.le_add_right _ _), Nat.add_sub_cancel_left]; exact hk)
theorem vaD_l {A : Nat → Prop} {w1 w2 : va_W} (h : va_D A (w1 ++ w2)) : va_D A w1 :=
  ⟨fun i j p q hi hj e => h.1 i j p q (by rw [List.getElem?_append_left (List.getElem?_eq_some_iff.mp hi).1]; exact hi) (by rw [List.getElem?_append_left (List.getElem?_eq_some_iff.mp hj).1]; exact hj) e, fun k q hk => h.2 k q (by rw [List.getElem?_append_left (List.getElem?_eq_some_iff.mp hk).1]; exact hk)⟩
theorem vaD_r {A : Nat → Prop} {w1 w2 : va_W} (h : va_D A (w1 ++ w2)) : va_D A w2 := by
  have sh : ∀ (k : Nat) (q : Nat × va_E), w2[k]? = some q → (w1 ++ w2)[w1.length + k]? = some q := fun k q hk => by rw [List.getElem?_append_right (Nat.le_add_right _ _), Nat.add_sub_cancel_left]; exact hk
  refine ⟨fun i j p q hi hj e => ?_, fun k q hk => h.2 _ q (sh k q hk)⟩
  have := h.1 _ _ p q (sh i p hi) (sh j q hj) e
  omega
/-- the cells of the two parts are apart -/
theorem vaD_x {A : Nat → Prop} {w1 w2 : va_W} (h : va_D A (w1 ++ w2)) : ∀ (i j : Nat) (p q : Nat × va_E), w1[i]? = some p → w2[j]? = some q → p.1 ≠ q.1 := by
  intro i j p q hi hj e
  have hl := (List.getElem?_eq_some_iff.mp hi).1
  have := h.1 i (w1.length + j) p q (by rw [List.getElem?_append_left hl]; exact hi) (by rw [List.getElem?_append_right (Nat.le_add_right _ _), Nat.add_sub_cancel_left]; exact hj) e
  omega
theorem vaD_swap {A : Nat → Prop} {w1 w2 : va_W} (h : va_D A (w1 ++ w2)) : va_D A (w2 ++ w1) := va_D.app (vaD_r h) (vaD_l h) (fun i j p q hi hj e => vaD_x h j i q p hj hi e.symm)
/-- behind a call on the first part: the rest is as it was -/
theorem w_join {D : va_G} {cl : List vw_C} {A : Nat → Prop} {w1 w2 w1' : va_W} {H H1 : Heap} (hP2 : va_P D cl w2 H) (hD : va_D A (w1 ++ w2)) (hk : ∀ q : Nat, q < H.size → ¬ va_A w1 H.size q → H1[q]? = H[q]?) (hF : ∀ q, va_A w1 H.size q → A q) (hD1 : va_D (va_A w1 H.size) w1') : va_P D cl w2 H1 ∧ va_D A (w1' ++ w2) := by
  have apart : ∀ (k : Nat) (q : Nat × va_E), w2[k]? = some q → q.1 < H.size ∧ ¬ va_A w1 H.size q.1 := by
    intro k q hq
    have hl := (hP2 k q hq).lt
    refine ⟨hl, fun h => ?_⟩
    rcases h with ⟨k2, e, h⟩ | h
    · exact vaD_x hD k2 k (q.1, e) q h hq rfl
    · omega
  refine ⟨fun k q hq => (hP2 k q hq).kept (hk q.1 (apart k q hq).1 (apart k q hq).2), va_D.app (hD1.weaken (fun k q _ h => hF q.1 h)) (vaD_r hD) (fun i j x y hx hy hxy => ?_)⟩
  exact (apart j y hy).2 (by rw [← hxy]; exact hD1.2 i x hx)
section GCALLS
variable {p : Program} {l : Launch} {e : Env} {R : Room} {s : State} {m : MethodId} {args : Array Value} {below : List Frame} {meth : Method} {c : Code} {H : Heap} {locs : List Loc} {cells slots : Nat} {Q : State → Prop}
variable {cc : ByteArray} {pc nL k : Nat} {ls : Array Slot} {rest st0 : List Value} {D : va_G} {cy : Nat → ClassId} {ad : Nat → Nat} {tL : Nat} {ds : List Dsc} {σ : St} {A : Nat → Prop} {fr2 lo2 : Nat} {y : MethodName} {cc2 : ByteArray} {maxL n idx : Nat} {ret : Option FieldType} {own : String} {As : List Value} {w2 : va_W}
theorem gcall_free (hD : va_D A (wld cy ad ds σ ++ w2)) (hS : va_S A s.heap H locs) (hA : ∀ q : Nat, s.heap.size ≤ q → A q) : ∀ q, va_A (wld cy ad ds σ) H.size q → A q := call_free (vaD_l hD) hS hA
theorem wg_callVi {post : Int32 → St → Prop} (hM : Cti l y cc2 maxL ret fr2 lo2 D cy ad tL ds σ (.ref (ad k) :: As) post) (hV : VWd own idx y cc2 maxL ret n) {ci : Nat} {ss : List Nat} (hk : ds[k]? = some (.inl (ci, ss))) {T : u_T} {N : Nat} {ty : Nat → FieldType} (hC : CBd ci y.cls T N ty) (hx : p.tables.exec = Jvm.exec) (hb : c.code = cc) (hml : c.maxLocals = nL) (hown : s.vm.findClass own = some m.cls) (hg : ∀ w ∈ gAll, w.before args s = true) (hK : va_K D vwCl (tyl cy) s) (hP : va_P D vwCl (wld cy ad ds σ) H) (hP2 : va_P D vwCl w2 H) (hD : va_D A (wld cy ad ds σ ++ w2)) (hS : va_S A s.heap H locs) (hA : ∀ q : Nat, s.heap.size ≤ q → A q) (hLB : lowB tL A s s.heap) (hn : As.length = n) (hR : fr2 + 1 ≤ R.frames ∧ 8 + (maxL + 11) + lo2 ≤ R.locals) (hf : cells ≤ R.cells ∧ slots ≤ R.slots) (hls : ls.size = nL) (hst : st0 = As.reverse ++ .ref (ad k) :: rest) (hr : (rest.map fun v => v.category).sum ≤ 8) (hd : decode cc pc = .ok (.invokevirtual idx, 3))
    (kk : ∀ (r : Int32) (u : St), post r u → ∀ (H1 : Heap) (locs1 : List Loc), va_P D vwCl (wld cy ad ds u) H1 → va_P D vwCl w2 H1 → va_D A (wld cy ad ds u ++ w2) → va_S A s.heap H1 locs1 → W p l e R s m args below meth c H1 locs1 cells slots Q (F0 m (pc + 3) ls (.int r :: rest))) : W p l e R s m args below meth c H locs cells slots Q (F0 m pc ls st0) := by
  have hF := gcall_free hD hS hA
  refine va_calli (va_runV (As := As) (rest := rest) ⟨hx, hb, hml, hown, hg⟩ (hM H.size) (cwV n hg (goodV hV) rfl rfl rfl ⟨rfl, hV.2.2.2.2.2⟩ hR) ⟨pre_blind, va_recv hK hP (ci := ci) (q0 := k) hC.1 (wld_at hk), fun U hU hW => pre_ok hK hP (vaD_l hD) hS hA hLB U hU hW⟩ rfl hn hls hst (lv_room hr) hd hf) hS (fun q _ h => hF q h) hF (fun r u t H1 locs1 ht hvm hw hB hz1 hk1 hS1 => ?_)
  obtain ⟨hP1, hK1, hD1⟩ := hB
  rw [ht] at hP1
  exact kk r u hw H1 locs1 hP1 (w_join hP2 hD hk1 hF hD1).1 (w_join hP2 hD hk1 hF hD1).2 hS1
theorem wg_callVl {post : Int64 → St → Prop} (hM : Ctl l y cc2 maxL ret fr2 lo2 D cy ad tL ds σ (.ref (ad k) :: As) post) (hV : VWd own idx y cc2 maxL ret n) {ci : Nat} {ss : List Nat} (hk : ds[k]? = some (.inl (ci, ss))) {T : u_T} {N : Nat} {ty : Nat → FieldType} (hC : CBd ci y.cls T N ty) (hx : p.tables.exec = Jvm.exec) (hb : c.code = cc) (hml : c.maxLocals = nL) (hown : s.vm.findClass own = some m.cls) (hg : ∀ w ∈ gAll, w.before args s = true) (hK : va_K D vwCl (tyl cy) s) (hP : va_P D vwCl (wld cy ad ds σ) H) (hP2 : va_P D vwCl w2 H) (hD : va_D A (wld cy ad ds σ ++ w2)) (hS : va_S A s.heap H locs) (hA : ∀ q : Nat, s.heap.size ≤ q → A q) (hLB : lowB tL A s s.heap) (hn : As.length = n) (hR : fr2 + 1 ≤ R.frames ∧ 8 + (maxL + 11) + lo2 ≤ R.locals) (hf : cells ≤ R.cells ∧ slots ≤ R.slots) (hls : ls.size = nL) (hst : st0 = As.reverse ++ .ref (ad k) :: rest) (hr : (rest.map fun v => v.category).sum ≤ 8) (hd : decode cc pc = .ok (.invokevirtual idx, 3))
    (kk : ∀ (r : Int64) (u : St), post r u → ∀ (H1 : Heap) (locs1 : List Loc), va_P D vwCl (wld cy ad ds u) H1 → va_P D vwCl w2 H1 → va_D A (wld cy ad ds u ++ w2) → va_S A s.heap H1 locs1 → W p l e R s m args below meth c H1 locs1 cells slots Q (F0 m (pc + 3) ls (.long r :: rest))) : W p l e R s m args below meth c H locs cells slots Q (F0 m pc ls st0) := by
  have hF := gcall_free hD hS hA
  refine va_calll (va_runV (As := As) (rest := rest) ⟨hx, hb, hml, hown, hg⟩ (hM H.size) (cwV n hg (goodV hV) rfl rfl rfl ⟨rfl, hV.2.2.2.2.2⟩ hR) ⟨pre_blind, va_recv hK hP (ci := ci) (q0 := k) hC.1 (wld_at hk), fun U hU hW => pre_ok hK hP (vaD_l hD) hS hA hLB U hU hW⟩ rfl hn hls hst (lv_room hr) hd hf) hS (fun q _ h => hF q h) hF (fun r u t H1 locs1 ht hvm hw hB hz1 hk1 hS1 => ?_)
  obtain ⟨hP1, hK1, hD1⟩ := hB
  rw [ht] at hP1
  exact kk r u hw H1 locs1 hP1 (w_join hP2 hD hk1 hF hD1).1 (w_join hP2 hD hk1 hF hD1).2 hS1
theorem wg_callVv {post : St → Prop} (hM : Ctv l y cc2 maxL ret fr2 lo2 D cy ad tL ds σ (.ref (ad k) :: As) post) (hV : VWd own idx y cc2 maxL ret n) {ci : Nat} {ss : List Nat} (hk : ds[k]? = some (.inl (ci, ss))) {T : u_T} {N : Nat} {ty : Nat → FieldType} (hC : CBd ci y.cls T N ty) (hx : p.tables.exec = Jvm.exec) (hb : c.code = cc) (hml : c.maxLocals = nL) (hown : s.vm.findClass own = some m.cls) (hg : ∀ w ∈ gAll, w.before args s = true) (hK : va_K D vwCl (tyl cy) s) (hP : va_P D vwCl (wld cy ad ds σ) H) (hP2 : va_P D vwCl w2 H) (hD : va_D A (wld cy ad ds σ ++ w2)) (hS : va_S A s.heap H locs) (hA : ∀ q : Nat, s.heap.size ≤ q → A q) (hLB : lowB tL A s s.heap) (hn : As.length = n) (hR : fr2 + 1 ≤ R.frames ∧ 8 + (maxL + 11) + lo2 ≤ R.locals) (hf : cells ≤ R.cells ∧ slots ≤ R.slots) (hls : ls.size = nL) (hst : st0 = As.reverse ++ .ref (ad k) :: rest) (hr : (rest.map fun v => v.category).sum ≤ 8) (hd : decode cc pc = .ok (.invokevirtual idx, 3))
    (kk : ∀ (u : St), post u → ∀ (H1 : Heap) (locs1 : List Loc), va_P D vwCl (wld cy ad ds u) H1 → va_P D vwCl w2 H1 → va_D A (wld cy ad ds u ++ w2) → va_S A s.heap H1 locs1 → W p l e R s m args below meth c H1 locs1 cells slots Q (F0 m (pc + 3) ls rest)) : W p l e R s m args below meth c H locs cells slots Q (F0 m pc ls st0) := by
  have hF := gcall_free hD hS hA
  refine va_callv (va_runV (As := As) (rest := rest) ⟨hx, hb, hml, hown, hg⟩ (hM H.size) (cwV n hg (goodV hV) rfl rfl rfl ⟨rfl, hV.2.2.2.2.2⟩ hR) ⟨pre_blind, va_recv hK hP (ci := ci) (q0 := k) hC.1 (wld_at hk), fun U hU hW => pre_ok hK hP (vaD_l hD) hS hA hLB U hU hW⟩ rfl hn hls hst (lv_room hr) hd hf) hS (fun q _ h => hF q h) hF (fun u t H1 locs1 ht hvm hw hB hz1 hk1 hS1 => ?_)
  obtain ⟨hP1, hK1, hD1⟩ := hB
  rw [ht] at hP1
  exact kk u hw H1 locs1 hP1 (w_join hP2 hD hk1 hF hD1).1 (w_join hP2 hD hk1 hF hD1).2 hS1
end GCALLS
