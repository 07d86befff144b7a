/-! a call through an abstract name of a method that has a table -/
def gThr2 : List Cond := .codeWith yX3_clockOfFailure cX3_clockOfFailure 2 (some .int) hhX3 :: gThr
theorem gThr2_good : GoodIn gThr2 gThr2 := fun w h => by
  refine ⟨h, ?_⟩
  rcases List.mem_cons.mp h with rfl | h
  · exact good_of_word rfl
  · exact (gThr_good w h).2
section RUW
variable {p : Program} {l : Launch} {e : Env} {R : Room} {s : State} {m : MethodId} {args : Array Value} {below : List Frame} {meth : Method} {c : Code} {H : Heap} {locs : List Loc} {cells slots : Nat}
theorem w_upCall {T : State} (X : Stand p l e R s m args below meth c T locs cells slots) (hexec : p.tables.exec = Jvm.exec) {own C owner : String} {index : Nat} {x y : MethodName}
    (hown : s.vm.findClass own = some m.cls) (hlink : (Cond.methodLink own index x).before args s = true) (hsame : (Cond.sameMethod x.cls owner x.name x.desc).before args s = true) (hd0 : va_Decl s ⟨owner, x.name, x.desc⟩) (howner : owner ≠ "java/lang/invoke/MethodHandle" ∧ owner ≠ "java/lang/invoke/VarHandle") (hsel : (Cond.selects C x y).before args s = true) (hinst : (Cond.instanceMethod y).before args s = true)
    {W9 : Nat} {Pre : Pt → Array Value → Prop} {Post : Pt → Array Value → Option Value → Pt → Prop} (hK : Back l R p e below s args y 3 W9 Pre Post) {b : Addr} {cellB : Cell} (hcell : T.heap[b]? = some cellB) (hobj : cellB.vm.isStatics = false) (hcls : s.vm.findClass C = some cellB.cls)
    {g : JFrame} (hg : g.method = m) (hsize : g.locals.size = c.maxLocals) {argsL rest : List Value} (hlen : ∀ sig, parseMethodDescriptor x.desc = some sig → argsL.length = sig.parameters.length) (hstack : g.stack = argsL.reverse ++ .ref b :: rest) (hW : 2 * g.monitorRoom + (rest.map fun v => v.category).sum ≤ W9) (hdg : decode c.code g.pc = .ok (.invokevirtual index, 3))
    (hpre : ∀ vm₁, s.WarmedH vm₁ → Pre ⟨T.setVm vm₁, locs, cells, slots⟩ (Value.ref b :: argsL).toArray) :
    ∃ (v : Option Value) (vm₁ : Vm) (B : Pt), s.WarmedH vm₁ ∧ Stand p l e R s m args below meth c B.U B.locs B.cells B.slots ∧ Post ⟨T.setVm vm₁, locs, cells, slots⟩ (Value.ref b :: argsL).toArray v B ∧
      ∀ target, Steps p.tables e below (B.U.setTop { g with pc := g.pc + 3, stack := v.toList ++ rest }) target → Steps p.tables e below (T.setTop g) target := by
  obtain ⟨r0, r, hn, hrm, hstR, hsigR⟩ := hd0
  obtain ⟨cn, ck, r1, hcn, hck, hni, hf, hn1⟩ := Cond.sameMethod_found hsame
  cases hn.symm.trans hn1
  obtain ⟨mk, methM, hnamed, hmethM, -, habM⟩ := Cond.instanceMethod_spec hinst
  obtain ⟨c2, r2, m2, q1, q2, q3, q4, kP, hkP, hkPi⟩ := Cond.selects_spec hsel
  cases hcls.symm.trans q1
  cases hf.symm.trans q2
  cases hnamed.symm.trans q3
  have hselP : selectMethod e.platform s.vm cellB.cls r0 = .method mk := by rw [Launch.admits_selectMethod X.admits]; exact q4
  obtain ⟨vm₁, X₁, hstep₁⟩ := X.invokevirtualUp hexec hown hlink hsame howner hn hrm hstR (a := b) (cell := cellB) hcell (fun z h => by rw [h] at hobj; cases hobj) hselP hmethM habM hkP hkPi (g := g) hg (argsL := argsL) (rest := rest) (hlen _ hsigR) hstack hdg
  obtain ⟨v, B, X', hpost, hsteps⟩ := hK m meth c ⟨T.setVm vm₁, locs, cells, slots⟩ { g with stack := rest } (.invokevirtual index) mk (Value.ref b :: argsL).toArray X₁ hg hsize hdg hW (X₁.named hnamed) (hpre vm₁ X₁.warmed)
  exact ⟨v, vm₁, B, X₁.warmed, X', hpost, fun target h => hstep₁ _ fun acts => by rw [doInvoke_state]; exact hsteps.trans h⟩
theorem w_runUW {x y : MethodName} {bytes cc : ByteArray} {maxL nL mc ms n index : Nat} {ret : Option FieldType} {hh : List (Nat × Nat × Nat × Nat)} {ws : List Cond} {rm : Room} {Pc : Array Value → State → Prop} {Qc : Array Value → State → Outcome → State → Prop} {free : Addr → Prop} {Ts : List Cond} {own C owner : String} {b : Addr} {As rest : List Value} {g : JFrame} (S : CallFix p m c cc nL s args Ts own) (hM : Met l y ws rm Pc Qc mc ms free) (hrc : rm.cells = mc) (hrs : rm.slots = ms) (hR : rm.frames + 1 ≤ R.frames ∧ 8 + (maxL + 11) + rm.locals ≤ R.locals) (hws : ∀ w ∈ ws, ∀ (a' : Array Value) (U : State), s.WarmedH U.vm → w.before a' U = true) (hcw : Cond.codeWith y bytes maxL ret hh ∈ ws) (hini : (Cond.initialized y.cls).before args s = true) (hlink : (Cond.methodLink own index x).before args s = true) (hsame : (Cond.sameMethod x.cls owner x.name x.desc).before args s = true) (hd0 : va_Decl s ⟨owner, x.name, x.desc⟩) (howner : owner ≠ "java/lang/invoke/MethodHandle" ∧ owner ≠ "java/lang/invoke/VarHandle") (hsel : (Cond.selects C x y).before args s = true) (hinst : (Cond.instanceMethod y).before args s = true) (hlen : ∀ sig, parseMethodDescriptor x.desc = some sig → n = sig.parameters.length) (hp : PreV s H C b Pc As)
    (hg : g.method = m) (hn : As.length = n) (hsize : g.locals.size = nL) (hstack : g.stack = As.reverse ++ .ref b :: rest) (hW : 2 * g.monitorRoom + (rest.map fun v => v.category).sum ≤ 8) (hdg : decode cc g.pc = .ok (.invokevirtual index, 3)) (hf : cells + mc ≤ R.cells ∧ slots + ms ≤ R.slots) :
    va_Run p l e R s m args below meth c H locs cells slots mc ms g rest (Qc (Value.ref b :: As).toArray) free := by
  have hK : Back l R p e below s args y 3 8 (PreOf R mc ms Pc) (PostOf Qc mc ms free) := va_backW (hh := hh) (bytes := bytes) (maxL := maxL) (ret := ret) hM hp.1 hrc hrs hR.1 hR.2 hws hcw (fun a' U hW => word_at hW (Or.inl (by first | rfl | simp [Cond.onTables, Cond.keeps, Cond.steady])) hini)
  obtain ⟨hx, hb, hml, ho, -⟩ := S
  obtain ⟨-, ⟨cellB, hcB, hoB, hclB⟩, hPc⟩ := hp
  intro T hT X
  obtain ⟨v, vm₁, ⟨U', l2, c2, s2⟩, hW₁, X', ⟨g', mk, t, L, e1, e2, hq, h1, hL, h2, h3⟩, st⟩ := w_upCall X hx (C := C) (owner := owner) ho hlink hsame hd0 howner hsel hinst hK (by rw [hT]; exact hcB) hoB hclB hg (hsize.trans hml.symm) (argsL := As) (rest := rest) (fun sig h => hn.trans (hlen sig h)) hstack hW (by rw [hb]; exact hdg)
    (fun vm₁ hW₁ => ⟨hf.1, hf.2, hPc (T.setVm vm₁) hT hW₁⟩)
  dsimp only [Pt.U, Pt.locs, Pt.cells, Pt.slots] at X' e1 e2 h1 h2 h3 st
  subst h1; subst h2; subst h3
  exact ⟨v, (T.setVm vm₁).calling g' mk (Value.ref b :: As).toArray, t, U', L, hT, X', hL, e1, e2, hq, st⟩
end RUW
def tossP (cy : Nat → ClassId) (X : Nat → Sf) (a : Int32) (v : Int32) (u' : SU) : Prop := SHL cy u' X ∧ ((v = -1 ∧ ixI a 8 = none) ∨ ∃ d, a = nI d ∧ d < 8 ∧ v = if (X d).1 = 0 then -11 else if (X d).1 = 1 then (X d).2.2.1 else -12)
set_option maxHeartbeats 4000000 in
theorem c_X11_toss (l : Launch) (hl9 : l.stackTraces = false) (D : va_G) (cy : Nat → ClassId) (ad : Nat → Nat) (tL : Nat) (cH : ClassId) (σ : St) (u : SU) (X : Nat → Sf) (hX : SHL cy u X) (a : Int32) (sz : Nat) : Met l yX11_toss (.code yX11_toss cX11_toss 3 (some .int) :: gThr2) { frames := 8, cells := 1, slots := 6, locals := 123 } (va_Pc [.ref (ad 0), .int a] (fun U => U.heap.size = sz ∧ ShPre D cy ad tL cH σ u sz U ∧ tPre (va_A (shW cy ad cH σ u) sz) U U.heap)) (va_Qi (tossP cy X a) (ShBk D cy ad cH σ (va_A (shW cy ad cH σ u) sz)) (va_A (shW cy ad cH σ u) sz)) 1 6 (va_A (shW cy ad cH σ u) sz) := by
  refine Met.ofW (cc := cX11_toss) (maxL := 3) (ret := some .int) (by decide) rfl ?_
  intro p e s m args below meth c s₁ B hml hv
  obtain ⟨rfl, hsz, ⟨hP, hK, hD0, hLB, hY⟩, hT⟩ := hv
  have hx := B.exec
  have hb := B.bytes
  have hr := B.returns
  have hlk := B.notSynchronized
  have hts := atoms_spec (ws := .code yX11_toss cX11_toss 3 (some .int) :: gThr2) B.pre
  have hg2 : ∀ w ∈ gThr2, w.before [Value.ref (ad 0), .int a].toArray s = true := fun w hw => hts w (List.mem_cons_of_mem _ hw)
  have hg : ∀ w ∈ gAll, w.before [Value.ref (ad 0), .int a].toArray s = true := fun w hw => hg2 w (List.mem_cons_of_mem _ (gThr_l hw))
  have hown : s.vm.findClass RX11 = some m.cls := findClass_of_methodNamed B.named
  have hl := lv_entry ([.ref (ad 0), .int a]) (n := 3) (Nat.le_of_ble_eq_true rfl)
  rw [lg_entry_eq]
  generalize (lg_sl ([.ref (ad 0), .int a]) ++ List.replicate (3 - (lg_sl ([.ref (ad 0), .int a])).length) Slot.unset).toArray = ls at hl ⊢
  have hl : lv_has ls 3 [(0, .ref (ad 0)), (1, .int a)] := hl
  subst hsz
  have hD := hD0.self (sz := s.heap.size)
  generalize hAe : va_A (shW cy ad cH σ u) s.heap.size = A at hD hLB hT ⊢
  have hA : ∀ q : Nat, s.heap.size ≤ q → A q := fun q h => by rw [← hAe]; exact Or.inr h
  have hS : va_S A s.heap s.heap [] := va_S.rf
  have hk' := K_tyl hK
  show W p l e { frames := 8, cells := 1, slots := 6, locals := 123 } s m _ below meth c s.heap [] 0 0 _ _
  refine lv_iload_n hx hb dX11_toss_0 rfl (lv_at hl 1 rfl) ?_
  refine w_isShelf hx hb hml hown hg hK hP hD hS hA hLB ⟨Nat.le_of_ble_eq_true rfl, Nat.le_of_ble_eq_true rfl⟩ ⟨Nat.zero_le _, Nat.zero_le _⟩ hl.1 (Nat.le_of_ble_eq_true rfl) dX11_toss_1 (fun z H locs hP hS => ?_) (fun d ed hd8 H locs hP hS => ?_)
  · refine lv_if_ne (tgt := 9) hx hb dX11_toss_4 (by decide) (fun z => absurd rfl z) (fun _ => ?_)
    refine lv_iconst (v := (-1 : Int32)) hx hb dX11_toss_7 (by decide) ?_
    exact sh_iret hx hb hr hlk hK hP hD hS ⟨Nat.zero_le _, Nat.zero_le _⟩ dX11_toss_8 ⟨hX, Or.inl ⟨rfl, z⟩⟩
  refine lv_if_ne (tgt := 9) hx hb dX11_toss_4 (by decide) (fun _ => ?_) (fun z => absurd z (by decide))
  refine lv_aload_n hx hb dX11_toss_9 rfl (lv_at hl 0 rfl) ?_
  refine wi_getr hx hb hg hown hk' (vaP_l hP) 0 5 37 rfl rfl cb_11 (by decide) kw_365 dX11_toss_10 ?_
  refine lv_iload_n hx hb dX11_toss_13 rfl (lv_at hl 1 rfl) ?_
  subst ed
  refine w_shelfAt hd8 hx hb hK hP dX11_toss_14 ?_
  obtain ⟨hk8, s0, s1, s3⟩ := hX.1 d hd8
  by_cases t0 : (X d).1 = 0
  · rw [s0 t0]
    refine lv_astore_nN (i := 2) hx hb dX11_toss_15 rfl hl (by decide) rfl (fun ls hl => ?_)
    have hl : lv_has ls 3 [(2, .null), (0, .ref (ad 0)), (1, .int (nI d))] := hl
    refine lv_aload_nN hx hb dX11_toss_16 rfl (lv_at hl 0 rfl) ?_
    refine lv_ifnonnullN hx hb dX11_toss_17 ?_
    refine lv_bipush (v := (-11 : Int32)) hx hb dX11_toss_20 (by decide) ?_
    refine lv_goto (tgt := 29) hx hb dX11_toss_22 (by decide) ?_
    exact sh_iret hx hb hr hlk hK hP hD hS ⟨Nat.zero_le _, Nat.zero_le _⟩ dX11_toss_29 ⟨hX, Or.inr ⟨d, rfl, hd8, by rw [if_pos t0]⟩⟩
  by_cases t1 : (X d).1 = 1
  · obtain ⟨a0, nu, ki, kl, so, f1, f2, f3, f4, f5⟩ := s1 t1
    rw [f1]
    refine lv_astore_n (i := 2) (x := a0) hx hb dX11_toss_15 rfl hl (by decide) rfl (fun ls hl => ?_)
    have hl : lv_has ls 3 [(2, .ref a0), (0, .ref (ad 0)), (1, .int (nI d))] := hl
    refine lv_aload_n hx hb dX11_toss_16 rfl (lv_at hl 0 rfl) ?_
    refine lv_ifnonnull (tgt := 25) hx hb dX11_toss_17 (by decide) ?_
    refine lv_aload_n hx hb dX11_toss_25 rfl (lv_at hl 0 rfl) ?_
    obtain ⟨k, hk⟩ := sh_get (cy := cy) (ad := ad) (cH := cH) (σ := σ) (u := u) f2
    rw [f3] at hk
    have hF := ro_F hS hA
    refine va_calli (w_runUW (hh := hhX3) (bytes := cX3_clockOfFailure) (maxL := 2) (ret := some .int) (C := RX3) (owner := "ClockCourt$Held") (x := ⟨"ClockCourt$Held", "clockOfFailure", "()I"⟩) (n := 0) (As := []) (rest := []) ⟨hx, hb, hml, hown, hg2⟩ (c_X3_clockOfFailure l hl9 D cy a0 H.size nu ki kl so) rfl rfl ⟨Nat.le_of_ble_eq_true rfl, Nat.le_of_ble_eq_true rfl⟩ (pay_in hg2 gThr2_good) List.mem_cons_self (hg _ kw_89) (hg _ kw_551) (hg _ kw_552) (va_Decl.abs hY.2.2.2.2.2.2) ⟨by decide, by decide⟩ (hg _ kw_553) (hg _ kw_554) (fun sig h => by
      have h2 : (parseMethodDescriptor "()I").map (fun d => d.parameters.length) = some 0 := by decide +kernel
      rw [h] at h2; exact (Option.some.inj h2).symm) ⟨fun a U g mk q => by obtain ⟨q0, q1, qP, qK, qT⟩ := q; exact ⟨q0, q1, qP, va_K.moved (u := U) (U := U.calling g mk a) (Vm.Alike.refl U.vm) qK, tPre.same rfl qT⟩, va_recv hK hP cb_3.1 hk, fun U hU hW => ⟨rfl, by rw [hU], by rw [hU]; exact hP.by (fun _ => k) (fun j q hj => by rcases j with _ | j <;> simp at hj; rw [← hj]; exact hk), va_K.moved hW.alike hk', by rw [hU]; exact hT.pass hS.2.1 hF hW⟩⟩ rfl rfl hl.1 rfl (lv_room (Nat.le_of_ble_eq_true rfl)) dX11_toss_26 ⟨Nat.le_of_ble_eq_true rfl, Nat.le_of_ble_eq_true rfl⟩) hS (fun q _ h => hF q h) hF (fun r u1 t H1 locs1 ht hvm hw hB hz1 hk1 hS1 => ?_)
    subst hw
    exact sh_iret hx hb hr hlk hK (ro_P hP hk1) hD hS1 ⟨Nat.le_refl _, Nat.le_refl _⟩ dX11_toss_29 ⟨hX, Or.inr ⟨d, rfl, hd8, by rw [if_neg t0, if_pos t1]; exact f5⟩⟩
  · have t3 : 3 ≤ (X d).1 := by have := hk8.2; omega
    obtain ⟨a0, g, f1, f2, f3, f4, f5, f6⟩ := s3 t3
    rw [f1]
    refine lv_astore_n (i := 2) (x := a0) hx hb dX11_toss_15 rfl hl (by decide) rfl (fun ls hl => ?_)
    have hl : lv_has ls 3 [(2, .ref a0), (0, .ref (ad 0)), (1, .int (nI d))] := hl
    refine lv_aload_n hx hb dX11_toss_16 rfl (lv_at hl 0 rfl) ?_
    refine lv_ifnonnull (tgt := 25) hx hb dX11_toss_17 (by decide) ?_
    refine lv_aload_n hx hb dX11_toss_25 rfl (lv_at hl 0 rfl) ?_
    refine w_heldCall (C := RX6) (T := TX6) (N := 2) (ty := tyX6) (ci := 4) (B0 := fun _ => True) (fun sz => c_X6_clockOfFailure l a0 sz) (fun U g mk a q => trivial) (fun U hU hW => trivial) (goodU kw_551 kw_552 kw_555 kw_556 kw_508 kw_160) hY.2.2.2.2.2.2 (by decide +kernel) cb_6 f2 f4 hx hb hml hown hg hK hP hS hA ⟨Nat.le_of_ble_eq_true rfl, Nat.le_of_ble_eq_true rfl⟩ ⟨Nat.zero_le _, Nat.zero_le _⟩ hl.1 (Nat.le_of_ble_eq_true rfl) dX11_toss_26 (fun H locs hP hS => ?_)
    exact sh_iret hx hb hr hlk hK hP hD hS ⟨Nat.zero_le _, Nat.zero_le _⟩ dX11_toss_29 ⟨hX, Or.inr ⟨d, rfl, hd8, by rw [if_neg t0, if_neg t1]⟩⟩
