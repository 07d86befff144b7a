/-! CONTRACTS over the uniform world -/
def cPre (D : va_G) (cy : Nat → ClassId) (ad : Nat → Nat) (tL : Nat) (ds : List Dsc) (σ : St) (sz : Nat) : State → Prop := fun U => U.heap.size = sz ∧ va_P D vwCl (wld cy ad ds σ) U.heap ∧ va_K D vwCl (tyl cy) U ∧ va_D (fun _ => True) (wld cy ad ds σ) ∧ lowB tL (va_A (wld cy ad ds σ) sz) U U.heap
def cBk (D : va_G) (cy : Nat → ClassId) (ad : Nat → Nat) (ds : List Dsc) (A : Nat → Prop) : St → State → Prop := fun u t => va_P D vwCl (wld cy ad ds u) t.heap ∧ va_K D vwCl (tyl cy) t ∧ va_D A (wld cy ad ds u)
abbrev rmO (fr lo : Nat) : Room := { frames := fr, cells := 0, slots := 0, locals := lo }
def Cti (l : Launch) (y : MethodName) (cc : ByteArray) (maxL : Nat) (ret : Option FieldType) (fr lo : Nat) (D : va_G) (cy : Nat → ClassId) (ad : Nat → Nat) (tL : Nat) (ds : List Dsc) (σ : St) (av : List Value) (post : Int32 → St → Prop) : Prop :=
  ∀ sz, Met l y (.code y cc maxL ret :: gAll) (rmO fr lo) (va_Pc av (cPre D cy ad tL ds σ sz)) (va_Qi post (cBk D cy ad ds (va_A (wld cy ad ds σ) sz)) (va_A (wld cy ad ds σ) sz)) 0 0 (va_A (wld cy ad ds σ) sz)
def Ctl (l : Launch) (y : MethodName) (cc : ByteArray) (maxL : Nat) (ret : Option FieldType) (fr lo : Nat) (D : va_G) (cy : Nat → ClassId) (ad : Nat → Nat) (tL : Nat) (ds : List Dsc) (σ : St) (av : List Value) (post : Int64 → St → Prop) : Prop :=
  ∀ sz, Met l y (.code y cc maxL ret :: gAll) (rmO fr lo) (va_Pc av (cPre D cy ad tL ds σ sz)) (va_Ql post (cBk D cy ad ds (va_A (wld cy ad ds σ) sz)) (va_A (wld cy ad ds σ) sz)) 0 0 (va_A (wld cy ad ds σ) sz)
def Ctv (l : Launch) (y : MethodName) (cc : ByteArray) (maxL : Nat) (ret : Option FieldType) (fr lo : Nat) (D : va_G) (cy : Nat → ClassId) (ad : Nat → Nat) (tL : Nat) (ds : List Dsc) (σ : St) (av : List Value) (post : St → Prop) : Prop :=
  ∀ sz, Met l y (.code y cc maxL ret :: gAll) (rmO fr lo) (va_Pc av (cPre D cy ad tL ds σ sz)) (va_Qv post (cBk D cy ad ds (va_A (wld cy ad ds σ) sz)) (va_A (wld cy ad ds σ) sz)) 0 0 (va_A (wld cy ad ds σ) sz)
/-- what a body has at its entry, whatever its answer is -/
def Bdy (l : Launch) (y : MethodName) (cc : ByteArray) (maxL : Nat) (ret : Option FieldType) (fr lo : Nat) (D : va_G) (cy : Nat → ClassId) (ad : Nat → Nat) (tL : Nat) (ds : List Dsc) (σ : St) (av : List Value) (Qf : (Nat → Prop) → Array Value → State → Outcome → State → Prop) : Prop :=
  ∀ (p : Program) (e : Env) (s : State) (m : MethodId) (args : Array Value) (below : List Frame) (meth : Method) (c : Code) (A : Nat → Prop), p.tables.exec = Jvm.exec → c.code = cc → c.maxLocals = maxL → meth.sig.returnType = ret → meth.locks = false → (∀ w ∈ gAll, w.before args s = true) → s.vm.findClass y.cls = some m.cls → (∀ q : Nat, s.heap.size ≤ q → A q) → va_K D vwCl (tyl cy) s → ∀ (H : Heap) (locs : List Loc), va_P D vwCl (wld cy ad ds σ) H → va_D A (wld cy ad ds σ) → va_S A s.heap H locs → lowB tL A s s.heap → ∀ ls : Array Slot, lv_has ls maxL (lv_args 0 av) →
    W p l e (rmO fr lo) s m args below meth c H locs 0 0 (MQ below (Qf A) args s 0 0 A) (F0 m 0 ls [])
theorem bdy_met {l : Launch} {y : MethodName} {cc : ByteArray} {maxL : Nat} {ret : Option FieldType} {fr lo : Nat} {D : va_G} {cy : Nat → ClassId} {ad : Nat → Nat} {tL : Nat} {ds : List Dsc} {σ : St} {av : List Value} {Qf : (Nat → Prop) → Array Value → State → Outcome → State → Prop} (hy : plainName y.cls = true) (hlen : (lg_sl av).length ≤ maxL) (h : Bdy l y cc maxL ret fr lo D cy ad tL ds σ av Qf) (sz : Nat) :
    Met l y (.code y cc maxL ret :: gAll) (rmO fr lo) (va_Pc av (cPre D cy ad tL ds σ sz)) (Qf (va_A (wld cy ad ds σ) sz)) 0 0 (va_A (wld cy ad ds σ) sz) := by
  refine Met.ofW (cc := cc) (maxL := maxL) (ret := ret) hy rfl ?_
  intro p e s m args below meth c s₁ B hml hv
  obtain ⟨rfl, hsz, hP, hK, hD0, hLB⟩ := hv
  have hts := atoms_spec (ws := .code y cc maxL ret :: gAll) B.pre
  subst hsz
  have hD := hD0.self (sz := s.heap.size)
  have hl := lv_entry av (n := maxL) hlen
  rw [lg_entry_eq]
  exact h p e s m av.toArray below meth c (va_A (wld cy ad ds σ) s.heap.size) B.exec B.bytes hml B.returns B.notSynchronized (fun w hw => hts w (List.mem_cons_of_mem _ hw)) (findClass_of_methodNamed B.named) (fun q h => Or.inr h) hK s.heap [] hP hD va_S.rf hLB _ hl
theorem cti_of {l : Launch} {y : MethodName} {cc : ByteArray} {maxL : Nat} {ret : Option FieldType} {fr lo : Nat} {D : va_G} {cy : Nat → ClassId} {ad : Nat → Nat} {tL : Nat} {ds : List Dsc} {σ : St} {av : List Value} {post : Int32 → St → Prop} (hy : plainName y.cls = true) (hlen : (lg_sl av).length ≤ maxL) (h : Bdy l y cc maxL ret fr lo D cy ad tL ds σ av (fun A => va_Qi post (cBk D cy ad ds A) A)) : Cti l y cc maxL ret fr lo D cy ad tL ds σ av post := fun sz => bdy_met (Qf := fun A => va_Qi post (cBk D cy ad ds A) A) hy hlen h sz
theorem ctl_of {l : Launch} {y : MethodName} {cc : ByteArray} {maxL : Nat} {ret : Option FieldType} {fr lo : Nat} {D : va_G} {cy : Nat → ClassId} {ad : Nat → Nat} {tL : Nat} {ds : List Dsc} {σ : St} {av : List Value} {post : Int64 → St → Prop} (hy : plainName y.cls = true) (hlen : (lg_sl av).length ≤ maxL) (h : Bdy l y cc maxL ret fr lo D cy ad tL ds σ av (fun A => va_Ql post (cBk D cy ad ds A) A)) : Ctl l y cc maxL ret fr lo D cy ad tL ds σ av post := fun sz => bdy_met (Qf := fun A => va_Ql post (cBk D cy ad ds A) A) hy hlen h sz
theorem ctv_of {l : Launch} {y : MethodName} {cc : ByteArray} {maxL : Nat} {ret : Option FieldType} {fr lo : Nat} {D : va_G} {cy : Nat → ClassId} {ad : Nat → Nat} {tL : Nat} {ds : List Dsc} {σ : St} {av : List Value} {post : St → Prop} (hy : plainName y.cls = true) (hlen : (lg_sl av).length ≤ maxL) (h : Bdy l y cc maxL ret fr lo D cy ad tL ds σ av (fun A => va_Qv post (cBk D cy ad ds A) A)) : Ctv l y cc maxL ret fr lo D cy ad tL ds σ av post := fun sz => bdy_met (Qf := fun A => va_Qv post (cBk D cy ad ds A) A) hy hlen h sz
/-- the words of a call -/
def VWd (own : String) (idx : Nat) (y : MethodName) (cc : ByteArray) (maxL : Nat) (ret : Option FieldType) (n : Nat) : Prop := Cond.methodLink own idx y ∈ gAll ∧ Cond.instanceMethod y ∈ gAll ∧ Cond.selects y.cls y y ∈ gAll ∧ Cond.initialized y.cls ∈ gAll ∧ Cond.code y cc maxL ret ∈ gAll ∧ (y.cls ≠ "java/lang/invoke/MethodHandle" ∧ y.cls ≠ "java/lang/invoke/VarHandle" ∧ (parseMethodDescriptor y.desc).map (fun d => d.parameters.length) = some n)
def SWd (own : String) (idx : Nat) (y : MethodName) (cc : ByteArray) (maxL : Nat) (ret : Option FieldType) (n : Nat) : Prop := Cond.methodLink own idx y ∈ gAll ∧ Cond.static y ∈ gAll ∧ Cond.initialized y.cls ∈ gAll ∧ Cond.code y cc maxL ret ∈ gAll ∧ (y.cls ≠ "java/lang/invoke/MethodHandle" ∧ y.cls ≠ "java/lang/invoke/VarHandle" ∧ (parseMethodDescriptor y.desc).map (fun d => d.parameters.length) = some n)
theorem goodV {own : String} {idx : Nat} {y : MethodName} {cc : ByteArray} {maxL n : Nat} {ret : Option FieldType} (h : VWd own idx y cc maxL ret n) : GoodIn gAll (wsV own idx y.cls y (.code y cc maxL ret :: gAll)) := by
  obtain ⟨h1, h2, h3, h4, h5, -⟩ := h
  intro w hw
  have : w ∈ gAll := by
    simp only [wsV, List.mem_append, List.mem_cons, List.not_mem_nil, or_false] at hw
    rcases hw with (rfl | rfl | rfl | rfl) | rfl | hw
    · exact h1
    · exact h2
    · exact h3
    · exact h4
    · exact h5
    · exact hw
  exact gAll_good w this
theorem goodS {own : String} {idx : Nat} {y : MethodName} {cc : ByteArray} {maxL n : Nat} {ret : Option FieldType} (h : SWd own idx y cc maxL ret n) : GoodIn gAll (va_wsS own idx y (.code y cc maxL ret :: gAll)) := by
  obtain ⟨h1, h2, h3, h4, -⟩ := h
  intro w hw
  have : w ∈ gAll := by
    simp only [va_wsS, List.mem_append, List.mem_cons, List.not_mem_nil, or_false] at hw
    rcases hw with (rfl | rfl | rfl) | rfl | hw
    · exact h1
    · exact h2
    · exact h3
    · exact h4
    · exact hw
  exact gAll_good w this
theorem lowB.pass {tL : Nat} {A B : Nat → Prop} {s U : State} {H : Heap} (h : lowB tL A s s.heap) (hq : ∀ a : Nat, a < s.heap.size → ¬ A a → H[a]? = s.heap[a]?) (hAB : ∀ q, B q → A q) (hvm : s.vm.Alike U.vm) : lowB tL B U H :=
  ⟨((h.1.kept hq).narrow hAB).moved hvm, ((h.2.kept hq).narrow hAB).moved hvm⟩
section CALLS
variable {p : Program} {l : Launch} {e : Env} {s : State} {m : MethodId} {args : Array Value} {below : List Frame} {meth : Method} {c : Code} {H : Heap} {locs : List Loc} {Q : State → Prop}
variable {cc : ByteArray} {pc nL k : Nat} {ls : Array Slot} {rest st0 : List Value} {D : va_G} {cy : Nat → ClassId} {ad : Nat → Nat} {tL : Nat} {ds : List Dsc} {σ : St} {A : Nat → Prop} {fr lo fr2 lo2 : Nat} {y : MethodName} {cc2 : ByteArray} {maxL n idx : Nat} {ret : Option FieldType} {own : String} {As : List Value}
theorem pre_blind {av : List Value} {sz : Nat} : FrameBlind (va_Pc av (cPre D cy ad tL ds σ sz)) := by
  intro a U g mk q
  obtain ⟨q0, q1, qP, qK, qD, qL⟩ := q
  exact ⟨q0, q1, qP, va_K.moved (u := U) (U := U.calling g mk a) (Vm.Alike.refl U.vm) qK, qD, ⟨qL.1.moved (u := U) (U := U.calling g mk a) (Vm.Alike.refl U.vm), qL.2.moved (u := U) (U := U.calling g mk a) (Vm.Alike.refl U.vm)⟩⟩
theorem call_free (hD : va_D A (wld cy ad ds σ)) (hS : va_S A s.heap H locs) (hA : ∀ q : Nat, s.heap.size ≤ q → A q) : ∀ q, va_A (wld cy ad ds σ) H.size q → A q := by
  intro q h
  rcases h with ⟨k, e, h⟩ | h
  · exact hD.2 k (q, e) h
  · exact hA q (Nat.le_trans hS.1 h)
theorem pre_ok (hK : va_K D vwCl (tyl cy) s) (hP : va_P D vwCl (wld cy ad ds σ) H) (hD : va_D A (wld cy ad ds σ)) (hS : va_S A s.heap H locs) (hA : ∀ q : Nat, s.heap.size ≤ q → A q) (hLB : lowB tL A s s.heap) (U : State) (hU : U.heap = H) (hW : s.WarmedH U.vm) {av : List Value} : va_Pc av (cPre D cy ad tL ds σ H.size) av.toArray U := by
  refine ⟨rfl, by rw [hU], by rw [hU]; exact hP, va_K.moved hW.alike hK, hD.weaken (fun _ _ _ _ => trivial), ?_⟩
  rw [hU]
  exact hLB.pass hS.2.1 (call_free hD hS hA) hW.alike
theorem wi_callVi {post : Int32 → St → Prop} (hM : Cti l y cc2 maxL ret fr2 lo2 D cy ad tL ds σ (.ref (ad k) :: As) post) (hV : VWd own idx y cc2 maxL ret n) {ci : Nat} {ss : List Nat} (hk : ds[k]? = some (.inl (ci, ss))) {T : u_T} {N : Nat} {ty : Nat → FieldType} (hC : CBd ci y.cls T N ty) (hx : p.tables.exec = Jvm.exec) (hb : c.code = cc) (hml : c.maxLocals = nL) (hown : s.vm.findClass own = some m.cls) (hg : ∀ w ∈ gAll, w.before args s = true) (hK : va_K D vwCl (tyl cy) s) (hP : va_P D vwCl (wld cy ad ds σ) H) (hD : va_D A (wld cy ad ds σ)) (hS : va_S A s.heap H locs) (hA : ∀ q : Nat, s.heap.size ≤ q → A q) (hLB : lowB tL A s s.heap) (hn : As.length = n) (hR : fr2 + 1 ≤ fr ∧ 8 + (maxL + 11) + lo2 ≤ lo) (hls : ls.size = nL) (hst : st0 = As.reverse ++ .ref (ad k) :: rest) (hr : (rest.map fun v => v.category).sum ≤ 8) (hd : decode cc pc = .ok (.invokevirtual idx, 3))
    (kk : ∀ (r : Int32) (u : St), post r u → ∀ (H1 : Heap) (locs1 : List Loc), va_P D vwCl (wld cy ad ds u) H1 → va_D A (wld cy ad ds u) → va_S A s.heap H1 locs1 → W p l e (rmO fr lo) s m args below meth c H1 locs1 0 0 Q (F0 m (pc + 3) ls (.int r :: rest))) : W p l e (rmO fr lo) s m args below meth c H locs 0 0 Q (F0 m pc ls st0) := by
  have hF := call_free hD hS hA
  refine va_calli (va_runV (As := As) (rest := rest) ⟨hx, hb, hml, hown, hg⟩ (hM H.size) (cwV n hg (goodV hV) rfl rfl rfl ⟨rfl, hV.2.2.2.2.2⟩ hR) ⟨pre_blind, va_recv hK hP (ci := ci) (q0 := k) hC.1 (wld_at hk), fun U hU hW => pre_ok hK hP hD hS hA hLB U hU hW⟩ rfl hn hls hst (lv_room hr) hd ⟨Nat.zero_le _, Nat.zero_le _⟩) hS (fun q _ h => hF q h) hF (fun r u t H1 locs1 ht hvm hw hB hz1 hk1 hS1 => ?_)
  obtain ⟨hP1, hK1, hD1⟩ := hB
  rw [ht] at hP1
  exact kk r u hw H1 locs1 hP1 (hD1.weaken (fun _ q _ h => hF q.1 h)) hS1
theorem wi_callVl {post : Int64 → St → Prop} (hM : Ctl l y cc2 maxL ret fr2 lo2 D cy ad tL ds σ (.ref (ad k) :: As) post) (hV : VWd own idx y cc2 maxL ret n) {ci : Nat} {ss : List Nat} (hk : ds[k]? = some (.inl (ci, ss))) {T : u_T} {N : Nat} {ty : Nat → FieldType} (hC : CBd ci y.cls T N ty) (hx : p.tables.exec = Jvm.exec) (hb : c.code = cc) (hml : c.maxLocals = nL) (hown : s.vm.findClass own = some m.cls) (hg : ∀ w ∈ gAll, w.before args s = true) (hK : va_K D vwCl (tyl cy) s) (hP : va_P D vwCl (wld cy ad ds σ) H) (hD : va_D A (wld cy ad ds σ)) (hS : va_S A s.heap H locs) (hA : ∀ q : Nat, s.heap.size ≤ q → A q) (hLB : lowB tL A s s.heap) (hn : As.length = n) (hR : fr2 + 1 ≤ fr ∧ 8 + (maxL + 11) + lo2 ≤ lo) (hls : ls.size = nL) (hst : st0 = As.reverse ++ .ref (ad k) :: rest) (hr : (rest.map fun v => v.category).sum ≤ 8) (hd : decode cc pc = .ok (.invokevirtual idx, 3))
    (kk : ∀ (r : Int64) (u : St), post r u → ∀ (H1 : Heap) (locs1 : List Loc), va_P D vwCl (wld cy ad ds u) H1 → va_D A (wld cy ad ds u) → va_S A s.heap H1 locs1 → W p l e (rmO fr lo) s m args below meth c H1 locs1 0 0 Q (F0 m (pc + 3) ls (.long r :: rest))) : W p l e (rmO fr lo) s m args below meth c H locs 0 0 Q (F0 m pc ls st0) := by
  have hF := call_free hD hS hA
  refine va_calll (va_runV (As := As) (rest := rest) ⟨hx, hb, hml, hown, hg⟩ (hM H.size) (cwV n hg (goodV hV) rfl rfl rfl ⟨rfl, hV.2.2.2.2.2⟩ hR) ⟨pre_blind, va_recv hK hP (ci := ci) (q0 := k) hC.1 (wld_at hk), fun U hU hW => pre_ok hK hP hD hS hA hLB U hU hW⟩ rfl hn hls hst (lv_room hr) hd ⟨Nat.zero_le _, Nat.zero_le _⟩) hS (fun q _ h => hF q h) hF (fun r u t H1 locs1 ht hvm hw hB hz1 hk1 hS1 => ?_)
  obtain ⟨hP1, hK1, hD1⟩ := hB
  rw [ht] at hP1
  exact kk r u hw H1 locs1 hP1 (hD1.weaken (fun _ q _ h => hF q.1 h)) hS1
theorem wi_callVv {post : St → Prop} (hM : Ctv l y cc2 maxL ret fr2 lo2 D cy ad tL ds σ (.ref (ad k) :: As) post) (hV : VWd own idx y cc2 maxL ret n) {ci : Nat} {ss : List Nat} (hk : ds[k]? = some (.inl (ci, ss))) {T : u_T} {N : Nat} {ty : Nat → FieldType} (hC : CBd ci y.cls T N ty) (hx : p.tables.exec = Jvm.exec) (hb : c.code = cc) (hml : c.maxLocals = nL) (hown : s.vm.findClass own = some m.cls) (hg : ∀ w ∈ gAll, w.before args s = true) (hK : va_K D vwCl (tyl cy) s) (hP : va_P D vwCl (wld cy ad ds σ) H) (hD : va_D A (wld cy ad ds σ)) (hS : va_S A s.heap H locs) (hA : ∀ q : Nat, s.heap.size ≤ q → A q) (hLB : lowB tL A s s.heap) (hn : As.length = n) (hR : fr2 + 1 ≤ fr ∧ 8 + (maxL + 11) + lo2 ≤ lo) (hls : ls.size = nL) (hst : st0 = As.reverse ++ .ref (ad k) :: rest) (hr : (rest.map fun v => v.category).sum ≤ 8) (hd : decode cc pc = .ok (.invokevirtual idx, 3))
    (kk : ∀ (u : St), post u → ∀ (H1 : Heap) (locs1 : List Loc), va_P D vwCl (wld cy ad ds u) H1 → va_D A (wld cy ad ds u) → va_S A s.heap H1 locs1 → W p l e (rmO fr lo) s m args below meth c H1 locs1 0 0 Q (F0 m (pc + 3) ls rest)) : W p l e (rmO fr lo) s m args below meth c H locs 0 0 Q (F0 m pc ls st0) := by
  have hF := call_free hD hS hA
  refine va_callv (va_runV (As := As) (rest := rest) ⟨hx, hb, hml, hown, hg⟩ (hM H.size) (cwV n hg (goodV hV) rfl rfl rfl ⟨rfl, hV.2.2.2.2.2⟩ hR) ⟨pre_blind, va_recv hK hP (ci := ci) (q0 := k) hC.1 (wld_at hk), fun U hU hW => pre_ok hK hP hD hS hA hLB U hU hW⟩ rfl hn hls hst (lv_room hr) hd ⟨Nat.zero_le _, Nat.zero_le _⟩) hS (fun q _ h => hF q h) hF (fun u t H1 locs1 ht hvm hw hB hz1 hk1 hS1 => ?_)
  obtain ⟨hP1, hK1, hD1⟩ := hB
  rw [ht] at hP1
  exact kk u hw H1 locs1 hP1 (hD1.weaken (fun _ q _ h => hF q.1 h)) hS1
theorem wi_callSi {post : Int32 → St → Prop} (hM : Cti l y cc2 maxL ret fr2 lo2 D cy ad tL ds σ As post) (hV : SWd own idx y cc2 maxL ret n) (hx : p.tables.exec = Jvm.exec) (hb : c.code = cc) (hml : c.maxLocals = nL) (hown : s.vm.findClass own = some m.cls) (hg : ∀ w ∈ gAll, w.before args s = true) (hK : va_K D vwCl (tyl cy) s) (hP : va_P D vwCl (wld cy ad ds σ) H) (hD : va_D A (wld cy ad ds σ)) (hS : va_S A s.heap H locs) (hA : ∀ q : Nat, s.heap.size ≤ q → A q) (hLB : lowB tL A s s.heap) (hn : As.length = n) (hR : fr2 + 1 ≤ fr ∧ 8 + (maxL + 11) + lo2 ≤ lo) (hls : ls.size = nL) (hst : st0 = As.reverse ++ rest) (hr : (rest.map fun v => v.category).sum ≤ 8) (hd : decode cc pc = .ok (.invokestatic idx, 3))
    (kk : ∀ (r : Int32) (u : St), post r u → ∀ (H1 : Heap) (locs1 : List Loc), va_P D vwCl (wld cy ad ds u) H1 → va_D A (wld cy ad ds u) → va_S A s.heap H1 locs1 → W p l e (rmO fr lo) s m args below meth c H1 locs1 0 0 Q (F0 m (pc + 3) ls (.int r :: rest))) : W p l e (rmO fr lo) s m args below meth c H locs 0 0 Q (F0 m pc ls st0) := by
  have hF := call_free hD hS hA
  refine va_calli (va_runS (As := As) (rest := rest) ⟨hx, hb, hml, hown, hg⟩ (hM H.size) (va_cwS n hg (goodS hV) rfl rfl rfl hV.2.2.2.2 hR) ⟨pre_blind, fun U hU hW => pre_ok hK hP hD hS hA hLB U hU hW⟩ rfl hn hls hst (lv_room hr) hd ⟨Nat.zero_le _, Nat.zero_le _⟩) hS (fun q _ h => hF q h) hF (fun r u t H1 locs1 ht hvm hw hB hz1 hk1 hS1 => ?_)
  obtain ⟨hP1, hK1, hD1⟩ := hB
  rw [ht] at hP1
  exact kk r u hw H1 locs1 hP1 (hD1.weaken (fun _ q _ h => hF q.1 h)) hS1
theorem wi_callSl {post : Int64 → St → Prop} (hM : Ctl l y cc2 maxL ret fr2 lo2 D cy ad tL ds σ As post) (hV : SWd own idx y cc2 maxL ret n) (hx : p.tables.exec = Jvm.exec) (hb : c.code = cc) (hml : c.maxLocals = nL) (hown : s.vm.findClass own = some m.cls) (hg : ∀ w ∈ gAll, w.before args s = true) (hK : va_K D vwCl (tyl cy) s) (hP : va_P D vwCl (wld cy ad ds σ) H) (hD : va_D A (wld cy ad ds σ)) (hS : va_S A s.heap H locs) (hA : ∀ q : Nat, s.heap.size ≤ q → A q) (hLB : lowB tL A s s.heap) (hn : As.length = n) (hR : fr2 + 1 ≤ fr ∧ 8 + (maxL + 11) + lo2 ≤ lo) (hls : ls.size = nL) (hst : st0 = As.reverse ++ rest) (hr : (rest.map fun v => v.category).sum ≤ 8) (hd : decode cc pc = .ok (.invokestatic idx, 3))
    (kk : ∀ (r : Int64) (u : St), post r u → ∀ (H1 : Heap) (locs1 : List Loc), va_P D vwCl (wld cy ad ds u) H1 → va_D A (wld cy ad ds u) → va_S A s.heap H1 locs1 → W p l e (rmO fr lo) s m args below meth c H1 locs1 0 0 Q (F0 m (pc + 3) ls (.long r :: rest))) : W p l e (rmO fr lo) s m args below meth c H locs 0 0 Q (F0 m pc ls st0) := by
  have hF := call_free hD hS hA
  refine va_calll (va_runS (As := As) (rest := rest) ⟨hx, hb, hml, hown, hg⟩ (hM H.size) (va_cwS n hg (goodS hV) rfl rfl rfl hV.2.2.2.2 hR) ⟨pre_blind, fun U hU hW => pre_ok hK hP hD hS hA hLB U hU hW⟩ rfl hn hls hst (lv_room hr) hd ⟨Nat.zero_le _, Nat.zero_le _⟩) hS (fun q _ h => hF q h) hF (fun r u t H1 locs1 ht hvm hw hB hz1 hk1 hS1 => ?_)
  obtain ⟨hP1, hK1, hD1⟩ := hB
  rw [ht] at hP1
  exact kk r u hw H1 locs1 hP1 (hD1.weaken (fun _ q _ h => hF q.1 h)) hS1
theorem wi_callSv {post : St → Prop} (hM : Ctv l y cc2 maxL ret fr2 lo2 D cy ad tL ds σ As post) (hV : SWd own idx y cc2 maxL ret n) (hx : p.tables.exec = Jvm.exec) (hb : c.code = cc) (hml : c.maxLocals = nL) (hown : s.vm.findClass own = some m.cls) (hg : ∀ w ∈ gAll, w.before args s = true) (hK : va_K D vwCl (tyl cy) s) (hP : va_P D vwCl (wld cy ad ds σ) H) (hD : va_D A (wld cy ad ds σ)) (hS : va_S A s.heap H locs) (hA : ∀ q : Nat, s.heap.size ≤ q → A q) (hLB : lowB tL A s s.heap) (hn : As.length = n) (hR : fr2 + 1 ≤ fr ∧ 8 + (maxL + 11) + lo2 ≤ lo) (hls : ls.size = nL) (hst : st0 = As.reverse ++ rest) (hr : (rest.map fun v => v.category).sum ≤ 8) (hd : decode cc pc = .ok (.invokestatic idx, 3))
    (kk : ∀ (u : St), post u → ∀ (H1 : Heap) (locs1 : List Loc), va_P D vwCl (wld cy ad ds u) H1 → va_D A (wld cy ad ds u) → va_S A s.heap H1 locs1 → W p l e (rmO fr lo) s m args below meth c H1 locs1 0 0 Q (F0 m (pc + 3) ls rest)) : W p l e (rmO fr lo) s m args below meth c H locs 0 0 Q (F0 m pc ls st0) := by
  have hF := call_free hD hS hA
  refine va_callv (va_runS (As := As) (rest := rest) ⟨hx, hb, hml, hown, hg⟩ (hM H.size) (va_cwS n hg (goodS hV) rfl rfl rfl hV.2.2.2.2 hR) ⟨pre_blind, fun U hU hW => pre_ok hK hP hD hS hA hLB U hU hW⟩ rfl hn hls hst (lv_room hr) hd ⟨Nat.zero_le _, Nat.zero_le _⟩) hS (fun q _ h => hF q h) hF (fun u t H1 locs1 ht hvm hw hB hz1 hk1 hS1 => ?_)
  obtain ⟨hP1, hK1, hD1⟩ := hB
  rw [ht] at hP1
  exact kk u hw H1 locs1 hP1 (hD1.weaken (fun _ q _ h => hF q.1 h)) hS1
theorem wi_iret {post : Int32 → St → Prop} {v : Int32} (hx : p.tables.exec = Jvm.exec) (hb : c.code = cc) (hr : meth.sig.returnType = some .int) (hlk : meth.locks = false) (hK : va_K D vwCl (tyl cy) s) (hP : va_P D vwCl (wld cy ad ds σ) H) (hD : va_D A (wld cy ad ds σ)) (hS : va_S A s.heap H locs) (hd : decode cc pc = .ok (.ireturn, 1)) (h : post v σ) : W p l e (rmO fr lo) s m args below meth c H locs 0 0 (MQ below (va_Qi post (cBk D cy ad ds A) A) args s 0 0 A) (F0 m pc ls [.int v]) :=
  W.iret (v := v) hx hb hr (fun t ht hW => ⟨⟨v, σ, rfl, h, by rw [ht]; exact hP, va_K.moved hW.alike hK, hD⟩, hS.F ht⟩) hS.2.2 hd hlk
theorem wi_zret {post : Int32 → St → Prop} {v : Int32} (hx : p.tables.exec = Jvm.exec) (hb : c.code = cc) (hr : meth.sig.returnType = some .boolean) (hlk : meth.locks = false) (hK : va_K D vwCl (tyl cy) s) (hP : va_P D vwCl (wld cy ad ds σ) H) (hD : va_D A (wld cy ad ds σ)) (hS : va_S A s.heap H locs) (hd : decode cc pc = .ok (.ireturn, 1)) (hn : narrow .boolean (.int v) = .int v) (h : post v σ) : W p l e (rmO fr lo) s m args below meth c H locs 0 0 (MQ below (va_Qi post (cBk D cy ad ds A) A) args s 0 0 A) (F0 m pc ls [.int v]) :=
  W.zret (v := v) hx hb hr hn (fun t ht hW => ⟨⟨v, σ, rfl, h, by rw [ht]; exact hP, va_K.moved hW.alike hK, hD⟩, hS.F ht⟩) hS.2.2 hd hlk
theorem wi_vret {post : St → Prop} (hx : p.tables.exec = Jvm.exec) (hb : c.code = cc) (hr : meth.sig.returnType = none) (hlk : meth.locks = false) (hK : va_K D vwCl (tyl cy) s) (hP : va_P D vwCl (wld cy ad ds σ) H) (hD : va_D A (wld cy ad ds σ)) (hS : va_S A s.heap H locs) (hd : decode cc pc = .ok (.return_, 1)) (h : post σ) : W p l e (rmO fr lo) s m args below meth c H locs 0 0 (MQ below (va_Qv post (cBk D cy ad ds A) A) args s 0 0 A) (F0 m pc ls []) :=
  W.vret hx hb hr (fun t ht hW => ⟨⟨σ, rfl, h, by rw [ht]; exact hP, va_K.moved hW.alike hK, hD⟩, hS.F ht⟩) hS.2.2 hd hlk
theorem wi_lret {post : Int64 → St → Prop} {v : Int64} (hx : p.tables.exec = Jvm.exec) (hb : c.code = cc) (hr : meth.sig.returnType = some .long) (hlk : meth.locks = false) (hK : va_K D vwCl (tyl cy) s) (hP : va_P D vwCl (wld cy ad ds σ) H) (hD : va_D A (wld cy ad ds σ)) (hS : va_S A s.heap H locs) (hd : decode cc pc = .ok (.lreturn, 1)) (h : post v σ) : W p l e (rmO fr lo) s m args below meth c H locs 0 0 (MQ below (va_Ql post (cBk D cy ad ds A) A) args s 0 0 A) (F0 m pc ls [.long v]) :=
  W.lret (v := v) hx hb hr (fun t ht hW => ⟨⟨v, σ, rfl, h, by rw [ht]; exact hP, va_K.moved hW.alike hK, hD⟩, hS.F ht⟩) hS.2.2 hd hlk
end CALLS
