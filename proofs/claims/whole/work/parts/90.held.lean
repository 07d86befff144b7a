/-! HELD THINGS: the class's shelves at the machine -/
abbrev tyH (cy : Nat → ClassId) (cH : ClassId) : List (ClassId × FieldType) := [(cy 0, .int), (cy 1, .long), (cy 2, .boolean), (cH, .object "ClockCourt$Held")]
/-- what the tables say beside the good words -/
def yPre (U : State) : Prop := va_Nw (.methodLinkNest RX3 3 yX2_init "ClockCourt") U ∧ va_Nw (.methodLinkNest RX6 3 yX2_init "ClockCourt") U ∧ va_Nw (.castable RX3 "ClockCourt$Held") U ∧ va_Nw (.castable RX6 "ClockCourt$Held") U ∧ va_Nc RX3 "ClockCourt$Row" U ∧ va_Nw (.declares ⟨"ClockCourt$Held", "weigh", "()I"⟩) U ∧ va_Nw (.declares ⟨"ClockCourt$Held", "clockOfFailure", "()I"⟩) U
theorem yPre.warm {s U : State} (hW : s.WarmedH U.vm) (h : yPre s) : yPre U := ⟨h.1.warmM hW, h.2.1.warmM hW, h.2.2.1.warmC hW, h.2.2.2.1.warmC hW, h.2.2.2.2.1.moved hW.alike, h.2.2.2.2.2.1.warmD hW, h.2.2.2.2.2.2.warmD hW⟩
theorem yPre.same {u U : State} (e : u.vm = U.vm) (h : yPre u) : yPre U := ⟨h.1.same rfl e, h.2.1.same rfl e, h.2.2.1.same rfl e, h.2.2.2.1.same rfl e, h.2.2.2.2.1.moved (by rw [e]; exact Vm.Alike.refl _), h.2.2.2.2.2.1.same rfl e, h.2.2.2.2.2.2.same rfl e⟩
theorem K_tyl {D : va_G} {cy : Nat → ClassId} {cH : ClassId} {U : State} (h : va_K D vwCl (tyH cy cH) U) : va_K D vwCl (tyl cy) U := ⟨h.1, fun k q hk => h.2 k q (by
  show (tyl cy ++ [(cH, FieldType.object "ClockCourt$Held")])[k]? = some q
  rw [List.getElem?_append_left (List.getElem?_eq_some_iff.mp hk).1]; exact hk)⟩
/-! the cells in another order -/
theorem pm_P {D : va_G} {cl : List vw_C} {ws ws' : va_W} {H : Heap} (h : va_P D cl ws H) (hp : ws.Perm ws') : va_P D cl ws' H := fun k q hk => by
  obtain ⟨i, hi⟩ := List.getElem?_of_mem (hp.mem_iff.mpr (List.mem_of_getElem? hk))
  exact h i q hi
theorem vaD_to {A : Nat → Prop} {ws : va_W} (h : va_D A ws) : (ws.map Prod.fst).Nodup := by
  unfold List.Nodup
  rw [List.pairwise_iff_getElem]
  intro i j hi hj hij e
  have hi' : i < ws.length := by simpa using hi
  have hj' : j < ws.length := by simpa using hj
  have := h.1 i j ws[i] ws[j] (List.getElem?_eq_getElem hi') (List.getElem?_eq_getElem hj') (by simpa using e)
  omega
theorem vaD_from {A : Nat → Prop} {ws : va_W} (h : (ws.map Prod.fst).Nodup) (hA : ∀ q ∈ ws, A q.1) : va_D A ws :=
  ⟨fun i j p q hi hj e => (List.getElem?_inj (by simpa using (List.getElem?_eq_some_iff.mp hi).1) h).mp (by rw [List.getElem?_map, List.getElem?_map, hi, hj]; simp [e]), fun k q hk => hA q (List.mem_of_getElem? hk)⟩
theorem pm_D {A : Nat → Prop} {ws ws' : va_W} (h : va_D A ws) (hp : ws.Perm ws') : va_D A ws' :=
  vaD_from ((hp.map Prod.fst).nodup_iff.mp (vaD_to h)) (fun q hq => by
    obtain ⟨i, hi⟩ := List.getElem?_of_mem (hp.mem_iff.mpr hq)
    exact h.2 i q hi)
theorem pm_A {ws ws' : va_W} {sz q : Nat} (hp : ws.Perm ws') (h : va_A ws sz q) : va_A ws' sz q := by
  rcases h with ⟨k, e, h⟩ | h
  · obtain ⟨i, hi⟩ := List.getElem?_of_mem (hp.mem_iff.mp (List.mem_of_getElem? h))
    exact Or.inl ⟨i, e, hi⟩
  · exact Or.inr h
theorem pm_last {a b c : va_W} : ((a ++ b) ++ c).Perm ((c ++ a) ++ b) := by
  rw [List.append_assoc c a b]; exact List.perm_append_comm
theorem pm_back {a b c : va_W} : ((c ++ a) ++ b).Perm (a ++ (b ++ c)) := by
  rw [List.append_assoc c a b, ← List.append_assoc a b c]; exact List.perm_append_comm
theorem pm_front {a c : va_W} : (a ++ c).Perm (c ++ a) := List.perm_append_comm
/-- behind a call that writes nothing -/
theorem ro_P {D : va_G} {cl : List vw_C} {ws : va_W} {H H1 : Heap} (hP : va_P D cl ws H) (hk : ∀ q : Nat, q < H.size → ¬ va_A [] H.size q → H1[q]? = H[q]?) : va_P D cl ws H1 := fun k q hq => (hP k q hq).kept (hk q.1 (hP k q hq).lt (fun h => by
  rcases h with ⟨k2, e, h⟩ | h
  · simp at h
  · have := (hP k q hq).lt; omega))
theorem ro_F {A : Nat → Prop} {s : State} {H : Heap} {locs : List Loc} (hS : va_S A s.heap H locs) (hA : ∀ q : Nat, s.heap.size ≤ q → A q) : ∀ q, va_A [] H.size q → A q := by
  intro q h
  rcases h with ⟨k, e, h⟩ | h
  · simp at h
  · exact hA q (Nat.le_trans hS.1 h)
/-- a body's entry -/
def Ent (l : Launch) (y : MethodName) (cc : ByteArray) (maxL : Nat) (ret : Option FieldType) (rm : Room) (av : List Value) (B0 : State → Prop) (sz : Nat) (Qf : Array Value → State → Outcome → State → Prop) (mc ms : Nat) (A : Nat → Prop) : Prop :=
  ∀ (p : Program) (e : Env) (s : State) (m : MethodId) (args : Array Value) (below : List Frame) (meth : Method) (c : Code), p.tables.exec = Jvm.exec → c.code = cc → c.maxLocals = maxL → meth.sig.returnType = ret → meth.locks = false → (∀ w ∈ gAll, w.before args s = true) → s.vm.findClass y.cls = some m.cls → meth.name = y.name → s.heap.size = sz → B0 s → ∀ ls : Array Slot, lv_has ls maxL (lv_args 0 av) →
    W p l e rm s m args below meth c s.heap [] 0 0 (MQ below Qf args s mc ms A) (F0 m 0 ls [])
theorem ent_met {l : Launch} {y : MethodName} {cc : ByteArray} {maxL : Nat} {ret : Option FieldType} {rm : Room} {av : List Value} {B0 : State → Prop} {sz : Nat} {Qf : Array Value → State → Outcome → State → Prop} {mc ms : Nat} {A : Nat → Prop} (hy : plainName y.cls = true) (hlen : (lg_sl av).length ≤ maxL) (h : Ent l y cc maxL ret rm av B0 sz Qf mc ms A) : Met l y (.code y cc maxL ret :: gAll) rm (va_Pc av (fun U => U.heap.size = sz ∧ B0 U)) Qf mc ms A := by
  refine Met.ofW (cc := cc) (maxL := maxL) (ret := ret) hy rfl ?_
  intro p e s m args below meth c s₁ B hml hv
  obtain ⟨rfl, hsz, hB⟩ := hv
  have hts := atoms_spec (ws := .code y cc maxL ret :: gAll) B.pre
  have hl := lv_entry av (n := maxL) hlen
  rw [lg_entry_eq]
  exact h p e s m av.toArray below meth c B.exec B.bytes hml B.returns B.notSynchronized (fun w hw => hts w (List.mem_cons_of_mem _ hw)) (findClass_of_methodNamed B.named) (name_of_methodNamed B.named B.method).1 hsz hB _ hl
theorem gi_code {y : MethodName} {cc : ByteArray} {n : Nat} {r : Option FieldType} (h : Cond.code y cc n r ∈ gAll) : GoodIn gAll (.code y cc n r :: gAll) := fun w hw => (List.mem_cons.mp hw).elim (fun e => by rw [e]; exact gAll_good _ h) (gAll_good w)
/-! Held.<init> -/
theorem c_X2_init (l : Launch) (h0 sz : Nat) : Met l yX2_init (.code yX2_init cX2_init 1 none :: gAll) { frames := 1, cells := 0, slots := 0, locals := 12 } (va_Pc [.ref h0] (fun U => U.heap.size = sz ∧ True)) (va_Qv (fun _ : Unit => True) (fun _ _ => True) (va_A [] sz)) 0 0 (va_A [] sz) := by
  refine ent_met (by decide) (Nat.le_of_ble_eq_true rfl) ?_
  intro p e s m args below meth c hx hb hml hr hlk hg hown hnm hsz _ ls hl
  have hl : lv_has ls 1 [(0, .ref h0)] := hl
  have hS : va_S (va_A [] sz) s.heap s.heap [] := va_S.rf
  refine lv_aload_n hx hb dX2_init_0 rfl (lv_at hl 0 rfl) ?_
  refine W.objInit hx hb hown (hg _ kw_71) (hg _ kw_2) (hg _ kw_3) rfl (by rw [hml]; exact hl.1) rfl dX2_init_1 (Nat.le_of_ble_eq_true rfl) (Nat.le_of_ble_eq_true rfl) ?_
  refine W.eq (g2 := F0 m 4 ls []) rfl ?_
  exact W.vret hx hb hr (fun t ht hW => ⟨⟨(), rfl, trivial, trivial⟩, hS.F ht⟩) hS.2.2 dX2_init_4 hlk
/-- a call of Held.<init> writes nothing -/
theorem w_heldInit {p : Program} {l : Launch} {e : Env} {R : Room} {s : State} {m : MethodId} {args : Array Value} {below : List Frame} {meth : Method} {c : Code} {H : Heap} {locs : List Loc} {cells slots : Nat} {Q : State → Prop} {cc : ByteArray} {pc nL idx h0 : Nat} {ls : Array Slot} {D : va_G} {ws : va_W} {A : Nat → Prop} {own : String} (hx : p.tables.exec = Jvm.exec) (hb : c.code = cc) (hml : c.maxLocals = nL) (hown : s.vm.findClass own = some m.cls) (hg : ∀ w ∈ gAll, w.before args s = true) (hl : va_Nw (.methodLinkNest own idx yX2_init "ClockCourt") s) (hP : va_P D vwCl ws H) (hS : va_S A s.heap H locs) (hA : ∀ q : Nat, s.heap.size ≤ q → A q) (hR : 2 ≤ R.frames ∧ 32 ≤ R.locals ∧ cells ≤ R.cells ∧ slots ≤ R.slots) (hls : ls.size = nL) (hd : decode cc pc = .ok (.invokespecial idx, 3))
    (kk : ∀ (H1 : Heap) (locs1 : List Loc), va_P D vwCl ws H1 → va_S A s.heap H1 locs1 → W p l e R s m args below meth c H1 locs1 cells slots Q (F0 m (pc + 3) ls [])) : W p l e R s m args below meth c H locs cells slots Q (F0 m pc ls [.ref h0]) := by
  have hF := ro_F hS hA
  refine va_callv (va_runIN (As := []) (rest := []) ⟨hx, hb, hml, hown, hg⟩ (c_X2_init l h0 H.size) ⟨va_cnB 0 hg (gi_code kw_70) rfl rfl rfl hl (hg _ kw_81) (by decide +kernel) ⟨hR.1, hR.2.1⟩, rfl, hg _ kw_80⟩ ⟨fun a U g mk q => q, fun U hU hW => ⟨rfl, by rw [hU], trivial⟩⟩ rfl rfl hls rfl (lv_room (Nat.le_of_ble_eq_true rfl)) hd ⟨hR.2.2.1, hR.2.2.2⟩) hS (fun q _ h => hF q h) hF (fun u t H1 locs1 ht hvm hw hB hz1 hk1 hS1 => ?_)
  exact kk H1 locs1 (ro_P hP hk1) hS1
/-! Row -/
theorem c_X6_init (l : Launch) (D : va_G) (cy : Nat → ClassId) (h0 sz : Nat) (a1 a2 : Int32) (N' : Nat) (hn : ¬ a2 < 0) (hN : a2.toNatClampNeg = N') (h60 : N' ≤ 60) : Met l yX6_init (.code yX6_init cX6_init 3 none :: gAll) { frames := 2, cells := 1, slots := N', locals := 32 } (va_Pc [.ref h0, .int a1, .int a2] (fun U => U.heap.size = sz ∧ va_P D vwCl [(h0, .inr (4, [.int 0, .null]))] U.heap ∧ va_K D vwCl (tyl cy) U ∧ va_D (fun _ => True) [(h0, .inr (4, [.int 0, .null]))] ∧ yPre U)) (va_Qv (fun _ : Unit => True) (fun _ t => ∃ (q1 : Nat), va_P D vwCl [(h0, .inr (4, [.int a1, .ref q1])), (q1, .inl (cy 0, N', .inl (fun _ => 0)))] t.heap ∧ va_K D vwCl (tyl cy) t ∧ va_D (va_A [(h0, .inr (4, [.int 0, .null]))] sz) [(h0, .inr (4, [.int a1, .ref q1])), (q1, .inl (cy 0, N', .inl (fun _ => 0)))]) (va_A [(h0, .inr (4, [.int 0, .null]))] sz)) 1 N' (va_A [(h0, .inr (4, [.int 0, .null]))] sz) := by
  refine ent_met (by decide) (Nat.le_of_ble_eq_true rfl) ?_
  intro p e s m args below meth c hx hb hml hr hlk hg hown hnm hsz hB ls hl
  obtain ⟨hP, hK, hD0, hY⟩ := hB
  subst hsz
  have hown : s.vm.findClass RX6 = some m.cls := hown
  have hl : lv_has ls 3 [(0, .ref h0), (1, .int a1), (2, .int a2)] := hl
  have hD := hD0.self (sz := s.heap.size)
  generalize hAe : va_A [(h0, .inr (4, [.int 0, .null]))] s.heap.size = A at hD ⊢
  have hA : ∀ q : Nat, s.heap.size ≤ q → A q := fun q h => by rw [← hAe]; exact Or.inr h
  have hS : va_S A s.heap s.heap [] := va_S.rf
  refine lv_aload_n hx hb dX6_init_0 rfl (lv_at hl 0 rfl) ?_
  refine w_heldInit hx hb hml hown hg hY.2.1 hP hS hA ⟨Nat.le_of_ble_eq_true rfl, Nat.le_of_ble_eq_true rfl, Nat.zero_le _, Nat.zero_le _⟩ hl.1 dX6_init_1 (fun H locs hP hS => ?_)
  refine lv_aload_n hx hb dX6_init_4 rfl (lv_at hl 0 rfl) ?_
  refine lv_iload_n hx hb dX6_init_5 rfl (lv_at hl 1 rfl) ?_
  refine va_putF (D := D) (ci := 4) (v := .int a1) (ty := tyX6 0) (C := RX6) (T := TX6) (N := 2) hx hb hg ku_X6 tyX6 tyX6_ok nmX6 hown hK hP hD hS 0 rfl rfl 0 (by decide) (hg _ kw_156) (fun _ h9 => h9) rfl hnm rfl rfl rfl rfl (Nat.le_of_ble_eq_true rfl) dX6_init_6 (fun H locs hP hD hS => ?_)
  have hP : va_P D vwCl [(h0, .inr (4, [.int a1, .null]))] H := hP
  have hD : va_D A [(h0, .inr (4, [.int a1, .null]))] := hD
  refine lv_aload_n hx hb dX6_init_9 rfl (lv_at hl 0 rfl) ?_
  refine lv_iload_n hx hb dX6_init_10 rfl (lv_at hl 2 rfl) ?_
  refine lv_if_ge (tgt := 18) hx hb dX6_init_11 (by decide) (fun c1 => ?_) (fun c1 => absurd (Int32.not_lt.mp hn) c1)
  refine lv_iload_n hx hb dX6_init_18 rfl (lv_at hl 2 rfl) ?_
  refine wn_newi (N' := N') hx hb hg hK hP hD hS hA hn hN (by show N' * 4 ≤ _; omega) (Nat.le_refl _) (by show 0 + N' ≤ N'; omega) dX6_init_19 (fun q1 H hP hD hS => ?_)
  have hP : va_P D vwCl [(h0, .inr (4, [.int a1, .null])), (q1, .inl (cy 0, N', .inl (fun _ => 0)))] H := hP
  have hD : va_D A [(h0, .inr (4, [.int a1, .null])), (q1, .inl (cy 0, N', .inl (fun _ => 0)))] := hD
  refine va_putF (D := D) (ci := 4) (v := .ref q1) (ty := tyX6 1) (C := RX6) (T := TX6) (N := 2) hx hb hg ku_X6 tyX6 tyX6_ok nmX6 hown hK hP hD hS 0 rfl rfl 1 (by decide) (hg _ kw_157) (fun _ h9 => h9) rfl hnm rfl rfl rfl rfl (Nat.le_of_ble_eq_true rfl) dX6_init_21 (fun H locs hP hD hS => ?_)
  have hP : va_P D vwCl [(h0, .inr (4, [.int a1, .ref q1])), (q1, .inl (cy 0, N', .inl (fun _ => 0)))] H := hP
  have hD : va_D A [(h0, .inr (4, [.int a1, .ref q1])), (q1, .inl (cy 0, N', .inl (fun _ => 0)))] := hD
  refine W.widen (k := 1) (n := N') (Nat.le_refl _) (by omega) ?_
  exact W.vret hx hb hr (fun t ht hW => ⟨⟨(), rfl, trivial, q1, by rw [ht]; exact hP, va_K.moved hW.alike hK, hD⟩, hS.F ht⟩) hS.2.2 dX6_init_24 hlk
/-- the answer of hasSpan -/
def hspn (n : Nat) (a b : Int32) : Int32 := if a < 0 then 0 else if b < 0 then 0 else if Int32.ofNat n < a then 0 else if Int32.ofNat n - a < b then 0 else 1
theorem c_X6_hasSpan (l : Launch) (D : va_G) (cy : Nat → ClassId) (h0 q1 sz : Nat) (o a1 a2 : Int32) (n : Nat) (g : Nat → Int32) : Met l yX6_hasSpan (.code yX6_hasSpan cX6_hasSpan 3 (some .boolean) :: gAll) { frames := 0, cells := 0, slots := 0, locals := 0 } (va_Pc [.ref h0, .int a1, .int a2] (fun U => U.heap.size = sz ∧ va_P D vwCl [(h0, .inr (4, [.int o, .ref q1])), (q1, .inl (cy 0, n, .inl g))] U.heap ∧ va_K D vwCl (tyl cy) U)) (va_Qi (fun r (_ : Unit) => r = hspn n a1 a2) (fun _ _ => True) (va_A [] sz)) 0 0 (va_A [] sz) := by
  refine ent_met (by decide) (Nat.le_of_ble_eq_true rfl) ?_
  intro p e s m args below meth c hx hb hml hr hlk hg hown hnm hsz hB ls hl
  obtain ⟨hP, hK⟩ := hB
  have hown : s.vm.findClass RX6 = some m.cls := hown
  have hl : lv_has ls 3 [(0, .ref h0), (1, .int a1), (2, .int a2)] := hl
  have hS : va_S (va_A [] sz) s.heap s.heap [] := va_S.rf
  have no : hspn n a1 a2 = 0 → W p l e { frames := 0, cells := 0, slots := 0, locals := 0 } s m args below meth c s.heap [] 0 0 (MQ below (va_Qi (fun r (_ : Unit) => r = hspn n a1 a2) (fun _ _ => True) (va_A [] sz)) args s 0 0 (va_A [] sz)) (F0 m 32 ls []) := fun z => by
    refine lv_iconst (v := (0 : Int32)) hx hb dX6_hasSpan_32 (by decide) ?_
    exact W.zret (v := 0) hx hb hr (by decide) (fun t ht hW => ⟨⟨0, (), rfl, z.symm, trivial⟩, hS.F ht⟩) hS.2.2 dX6_hasSpan_33 hlk
  refine lv_iload_n hx hb dX6_hasSpan_0 rfl (lv_at hl 1 rfl) ?_
  refine lv_if_lt (tgt := 32) hx hb dX6_hasSpan_1 (by decide) (fun c1 => no (by unfold hspn; rw [if_pos c1])) (fun c1 => ?_)
  refine lv_iload_n hx hb dX6_hasSpan_4 rfl (lv_at hl 2 rfl) ?_
  refine lv_if_lt (tgt := 32) hx hb dX6_hasSpan_5 (by decide) (fun c2 => no (by unfold hspn; rw [if_neg c1, if_pos c2])) (fun c2 => ?_)
  refine lv_iload_n hx hb dX6_hasSpan_8 rfl (lv_at hl 1 rfl) ?_
  refine lv_aload_n hx hb dX6_hasSpan_9 rfl (lv_at hl 0 rfl) ?_
  refine va_get (C := RX6) (T := TX6) (N := 2) hx hb hg ku_X6 hown hK hP 0 rfl rfl 1 (by decide) (hg _ kw_157) (fun _ h => h) (v := .ref q1) rfl dX6_hasSpan_10 ?_
  refine va_alen hx hb hK hP 1 0 rfl rfl rfl dX6_hasSpan_13 ?_
  refine lv_icmp_gt (tgt := 32) hx hb dX6_hasSpan_14 (by decide) (fun c3 => no (by unfold hspn; rw [if_neg c1, if_neg c2, if_pos c3])) (fun c3 => ?_)
  refine lv_iload_n hx hb dX6_hasSpan_17 rfl (lv_at hl 2 rfl) ?_
  refine lv_aload_n hx hb dX6_hasSpan_18 rfl (lv_at hl 0 rfl) ?_
  refine va_get (C := RX6) (T := TX6) (N := 2) hx hb hg ku_X6 hown hK hP 0 rfl rfl 1 (by decide) (hg _ kw_157) (fun _ h => h) (v := .ref q1) rfl dX6_hasSpan_19 ?_
  refine va_alen hx hb hK hP 1 0 rfl rfl rfl dX6_hasSpan_22 ?_
  refine lv_iload_n hx hb dX6_hasSpan_23 rfl (lv_at hl 1 rfl) ?_
  refine lv_isub hx hb dX6_hasSpan_24 ?_
  refine lv_icmp_gt (tgt := 32) hx hb dX6_hasSpan_25 (by decide) (fun c4 => no (by unfold hspn; rw [if_neg c1, if_neg c2, if_neg c3, if_pos c4])) (fun c4 => ?_)
  refine lv_iconst (v := (1 : Int32)) hx hb dX6_hasSpan_28 (by decide) ?_
  refine lv_goto (tgt := 33) hx hb dX6_hasSpan_29 (by decide) ?_
  exact W.zret (v := 1) hx hb hr (by decide) (fun t ht hW => ⟨⟨1, (), rfl, by unfold hspn; rw [if_neg c1, if_neg c2, if_neg c3, if_neg c4], trivial⟩, hS.F ht⟩) hS.2.2 dX6_hasSpan_33 hlk
theorem c_X6_weigh (l : Launch) (h0 sz : Nat) : Met l yX6_weigh (.code yX6_weigh cX6_weigh 1 (some .int) :: gAll) { frames := 0, cells := 0, slots := 0, locals := 0 } (va_Pc [.ref h0] (fun U => U.heap.size = sz ∧ True)) (va_Qi (fun r (_ : Unit) => r = -12) (fun _ _ => True) (va_A [] sz)) 0 0 (va_A [] sz) := by
  refine ent_met (by decide) (Nat.le_of_ble_eq_true rfl) ?_
  intro p e s m args below meth c hx hb hml hr hlk hg hown hnm hsz _ ls hl
  have hS : va_S (va_A [] sz) s.heap s.heap [] := va_S.rf
  refine lv_bipush (v := (-12 : Int32)) hx hb dX6_weigh_0 (by decide) ?_
  exact W.iret (v := -12) hx hb hr (fun t ht hW => ⟨⟨-12, (), rfl, rfl, trivial⟩, hS.F ht⟩) hS.2.2 dX6_weigh_2 hlk
theorem c_X6_clockOfFailure (l : Launch) (h0 sz : Nat) : Met l yX6_clockOfFailure (.code yX6_clockOfFailure cX6_clockOfFailure 1 (some .int) :: gAll) { frames := 0, cells := 0, slots := 0, locals := 0 } (va_Pc [.ref h0] (fun U => U.heap.size = sz ∧ True)) (va_Qi (fun r (_ : Unit) => r = -12) (fun _ _ => True) (va_A [] sz)) 0 0 (va_A [] sz) := by
  refine ent_met (by decide) (Nat.le_of_ble_eq_true rfl) ?_
  intro p e s m args below meth c hx hb hml hr hlk hg hown hnm hsz _ ls hl
  have hS : va_S (va_A [] sz) s.heap s.heap [] := va_S.rf
  refine lv_bipush (v := (-12 : Int32)) hx hb dX6_clockOfFailure_0 (by decide) ?_
  exact W.iret (v := -12) hx hb hr (fun t ht hW => ⟨⟨-12, (), rfl, rfl, trivial⟩, hS.F ht⟩) hS.2.2 dX6_clockOfFailure_2 hlk
