theorem pm_mid {a b c : va_W} : ((a ++ c) ++ b).Perm ((a ++ b) ++ c) := by
  rw [List.append_assoc, List.append_assoc]; exact List.Perm.append_left a List.perm_append_comm
section SHK
variable {p : Program} {l : Launch} {e : Env} {R : Room} {s : State} {m : MethodId} {args : Array Value} {below : List Frame} {meth : Method} {c : Code} {H : Heap} {locs : List Loc} {cells slots : Nat} {Q : State → Prop}
variable {cc : ByteArray} {pc nL : Nat} {ls : Array Slot} {rest : List Value} {D : va_G} {cy : Nat → ClassId} {ad : Nat → Nat} {tL : Nat} {cH : ClassId} {σ : St} {u : SU} {A : Nat → Prop}
theorem w_rowCall {y : MethodName} {cc2 : ByteArray} {maxL idx n : Nat} {o : Int32} {vals : Nat → Int32} (hM : ∀ sz, Met l y (.code y cc2 maxL (some (.object "ClockCourt$Row")) :: gAll) { frames := 3, cells := 2, slots := n + 2, locals := 54 } (va_Pc [.ref (ad 0)] (fun U => U.heap.size = sz ∧ RwPre D cy ad tL σ sz U)) (va_Qr (fun u : Nat × (Nat → Int32) => ∀ j, j < n → u.2 j = vals j) (RwBk D cy ad σ sz o n) (va_A (wld cy ad dsC σ) sz)) 2 (n + 2) (va_A (wld cy ad dsC σ) sz)) (hV : VWd RX11 idx y cc2 maxL (some (.object "ClockCourt$Row")) 0) (hC : CBd 9 y.cls TX11 6 tyX11) (hx : p.tables.exec = Jvm.exec) (hb : c.code = cc) (hml : c.maxLocals = nL) (hown : s.vm.findClass RX11 = some m.cls) (hg : ∀ w ∈ gAll, w.before args s = true) (hK : va_K D vwCl (tyH cy cH) s) (hY : yPre s) (hP : va_P D vwCl (shW cy ad cH σ u) H) (hD : va_D A (shW cy ad cH σ u)) (hS : va_S A s.heap H locs) (hA : ∀ q : Nat, s.heap.size ≤ q → A q) (hLB : lowB tL A s s.heap) (hR : 4 ≤ R.frames ∧ 8 + (maxL + 11) + 54 ≤ R.locals) (hf : cells + 2 ≤ R.cells ∧ slots + (n + 2) ≤ R.slots) (hls : ls.size = nL) (hr : (rest.map fun v => v.category).sum ≤ 8) (hd : decode cc pc = .ok (.invokevirtual idx, 3))
    (kk : ∀ (q b : Nat) (g : Nat → Int32) (H1 : Heap) (locs1 : List Loc), (∀ j, j < n → g j = vals j) → va_P D vwCl (shW cy ad cH σ u ++ [(q, roC o b), (b, arC cy n g)]) H1 → va_D A (shW cy ad cH σ u ++ [(q, roC o b), (b, arC cy n g)]) → va_S A s.heap H1 locs1 → W p l e R s m args below meth c H1 locs1 (cells + 2) (slots + (n + 2)) Q (F0 m (pc + 3) ls (.ref q :: rest))) : W p l e R s m args below meth c H locs cells slots Q (F0 m pc ls (.ref (ad 0) :: rest)) := by
  have hF := gcall_free hD hS hA
  refine va_callr (va_runV (As := []) (rest := rest) ⟨hx, hb, hml, hown, hg⟩ (hM H.size) (cwV 0 hg (goodV hV) rfl rfl rfl ⟨rfl, hV.2.2.2.2.2⟩ hR) ⟨fun a U g mk q => by obtain ⟨q0, q1, qP, qK, qD, qL, qX⟩ := q; exact ⟨q0, q1, qP, va_K.moved (u := U) (U := U.calling g mk a) (Vm.Alike.refl U.vm) qK, qD, ⟨qL.1.moved (u := U) (U := U.calling g mk a) (Vm.Alike.refl U.vm), qL.2.moved (u := U) (U := U.calling g mk a) (Vm.Alike.refl U.vm)⟩, yPre.same rfl qX⟩, va_recv hK (vaP_l hP) (ci := 9) (q0 := 0) hC.1 (wld_at (ds := dsC) (k := 0) rfl), fun U hU hW => ⟨rfl, by rw [hU], by rw [hU]; exact vaP_l hP, va_K.moved hW.alike (K_tyl hK), (vaD_l hD).weaken (fun _ _ _ _ => trivial), by rw [hU]; exact hLB.pass hS.2.1 hF hW.alike, hY.warm hW⟩⟩ rfl rfl hls rfl (lv_room hr) hd hf) hS (fun q _ h => hF q h) hF (fun u1 ra t H1 locs1 ht hvm hw hB hz1 hk1 hS1 => ?_)
  obtain ⟨hP1, hK1, hD1⟩ := hB
  rw [ht] at hP1
  obtain ⟨j1, j2⟩ := w_join (vaP_r hP) hD hk1 hF hD1
  exact kk ra u1.1 u1.2 H1 locs1 hw (pm_P (va_P.app hP1 j1) pm_mid) (pm_D j2 pm_mid) hS1
theorem w_cellInit {q : Nat} {k : Int32} (hk24 : vp_in k 24) (hx : p.tables.exec = Jvm.exec) (hb : c.code = cc) (hml : c.maxLocals = nL) (hown : s.vm.findClass RX11 = some m.cls) (hg : ∀ w ∈ gAll, w.before args s = true) (hK : va_K D vwCl (tyH cy cH) s) (hY : yPre s) (hP : va_P D vwCl (shW cy ad cH σ u ++ [(q, heC 0 0 0 0)]) H) (hD : va_D A (shW cy ad cH σ u ++ [(q, heC 0 0 0 0)])) (hS : va_S A s.heap H locs) (hA : ∀ q : Nat, s.heap.size ≤ q → A q) (hR : 3 ≤ R.frames ∧ 54 ≤ R.locals) (hf : cells ≤ R.cells ∧ slots ≤ R.slots) (hls : ls.size = nL) (hr : (rest.map fun v => v.category).sum ≤ 8) (hd : decode cc pc = .ok (.invokespecial 257, 3))
    (kk : ∀ (H1 : Heap) (locs1 : List Loc), va_P D vwCl (shW cy ad cH σ u ++ [(q, heC k (σ.1 8 k.toNatClampNeg) (σ.1 9 k.toNatClampNeg) (σ.1 10 k.toNatClampNeg))]) H1 → va_D A (shW cy ad cH σ u ++ [(q, heC k (σ.1 8 k.toNatClampNeg) (σ.1 9 k.toNatClampNeg) (σ.1 10 k.toNatClampNeg))]) → va_S A s.heap H1 locs1 → W p l e R s m args below meth c H1 locs1 cells slots Q (F0 m (pc + 3) ls rest)) : W p l e R s m args below meth c H locs cells slots Q (F0 m pc ls (.int k :: .ref (ad 1) :: .ref q :: rest)) := by
  have hP' := pm_P hP pm_last
  have hD' := pm_D hD pm_last
  have hF : ∀ x, va_A ([(q, heC 0 0 0 0)] ++ wld cy ad dsC σ) H.size x → A x := by
    intro x h
    rcases h with ⟨k, e, h⟩ | h
    · exact (vaD_l hD').2 k (x, e) h
    · exact hA x (Nat.le_trans hS.1 h)
  refine va_callv (va_runI (As := [.ref (ad 1), .int k]) (rest := rest) ⟨hx, hb, hml, hown, hg⟩ (c_X3_init l D cy ad σ q H.size k hk24) (cwI 2 hg (gi_code kw_72) rfl rfl rfl (hg _ kw_89) (hg _ kw_523) (hg _ kw_524) rfl (by decide +kernel) hR) ⟨fun a U g mk q => by obtain ⟨q0, q1, qP, qK, qD, qX⟩ := q; exact ⟨q0, q1, qP, va_K.moved (u := U) (U := U.calling g mk a) (Vm.Alike.refl U.vm) qK, qD, yPre.same rfl qX⟩, fun U hU hW => ⟨rfl, by rw [hU], by rw [hU]; exact vaP_l hP', va_K.moved hW.alike (K_tyl hK), (vaD_l hD').weaken (fun _ _ _ _ => trivial), hY.warm hW⟩⟩ rfl rfl hls rfl (lv_room hr) hd hf) hS (fun q _ h => hF q h) hF (fun u1 t H1 locs1 ht hvm hw hB hz1 hk1 hS1 => ?_)
  obtain ⟨hP1, hK1, hD1⟩ := hB
  rw [ht] at hP1
  obtain ⟨j1, j2⟩ := w_join (vaP_r hP') hD' hk1 hF hD1
  have r1 := pm_P (va_P.app hP1 j1) pm_back
  have r2 := pm_D j2 pm_back
  rw [← List.append_assoc] at r1 r2
  exact kk H1 locs1 r1 r2 hS1
/-- a held cell comes to a shelf -/
theorem w_cellStore {nu ki kl so : Int32} {q d : Nat} (hd8 : d < 8) (hx : p.tables.exec = Jvm.exec) (hb : c.code = cc) (hK : va_K D vwCl (tyH cy cH) s) (hY : yPre s) (hP : va_P D vwCl (shW cy ad cH σ u ++ [(q, heC nu ki kl so)]) H) (hD : va_D A (shW cy ad cH σ u ++ [(q, heC nu ki kl so)])) (hS : va_S A s.heap H locs) (hd : decode cc pc = .ok (.aastore, 1))
    (kk : ∀ (u1 : SU) (H1 : Heap) (locs1 : List Loc), (∀ (X : Nat → Sf) (x : Sf), SHL cy u X → shk x → x.1 = 1 → hwg nu ki so = x.2.1 → hfl ki kl = x.2.2.1 → SHL cy u1 (fu X d x)) → va_P D vwCl (shW cy ad cH σ u1) H1 → va_D A (shW cy ad cH σ u1) → va_S A s.heap H1 locs1 → W p l e R s m args below meth c H1 locs1 cells slots Q (F0 m (pc + 1) ls rest)) : W p l e R s m args below meth c H locs cells slots Q (F0 m pc ls (.ref q :: .int (nI d) :: .ref (ad 37) :: rest)) := by
  have p1 := sh_push hD
  rw [p1.2] at hP hD
  have nq : q ∉ u.2.1 := p1.1
  obtain ⟨k, hk⟩ := sh_get (cy := cy) (ad := ad) (cH := cH) (σ := σ) (u := (u.1, u.2.1 ++ [q], va_up u.2.2.1 q (heC nu ki kl so), u.2.2.2)) (a := q) (List.mem_append_right _ (List.mem_singleton.mpr rfl))
  have hq : va_up u.2.2.1 q (heC nu ki kl so) q = heC nu ki kl so := va_up_self _ _ _
  refine va_astqO (E := "ClockCourt$Held") (ci := 1) (r := (RX3, TX3, 4)) hx hb hK hP hD hS ((wld cy ad dsC σ).length + 0) 3 k (ax_at 0) rfl hY.2.2.1 (by rw [hk]; exact congrArg (fun z => some (q, z)) hq) rfl (in_nI hd8 (by decide)) hd (fun H1 locs1 hP hD hS => ?_)
  rw [cl_nI (by omega)] at hP hD
  have es := sh_set (cy := cy) (ad := ad) (cH := cH) (σ := σ) (u := (u.1, u.2.1 ++ [q], va_up u.2.2.1 q (heC nu ki kl so), u.2.2.2)) (va_up u.1 d (some q))
  refine kk (va_up u.1 d (some q), u.2.1 ++ [q], va_up u.2.2.1 q (heC nu ki kl so), u.2.2.2) H1 locs1 (fun X x hX hk h1 hw hf => ?_) (by
    have h := hP
    rw [show ((ad 37, (.inl (cH, 8, .inr (.inr (.inr (.inr (va_up u.1 d (some q)))))) : va_E)) : Nat × va_E) = shC ad cH (va_up u.1 d (some q)) from rfl, es] at h
    exact h) (by
    have h := hD
    rw [show ((ad 37, (.inl (cH, 8, .inr (.inr (.inr (.inr (va_up u.1 d (some q)))))) : va_E)) : Nat × va_E) = shC ad cH (va_up u.1 d (some q)) from rfl, es] at h
    exact h) hS
  refine SHL_up hX hk (fun a ha => ⟨List.mem_append_left _ ha, va_up_ne _ _ (fun z => nq (by rw [← z]; exact ha))⟩) (fun e he => va_up_ne _ _ he) (fun e he => rfl) ⟨fun z => by omega, fun _ => ⟨q, nu, ki, kl, so, va_up_self _ _ _, List.mem_append_right _ (List.mem_singleton.mpr rfl), hq, hw, hf⟩, fun z => by omega⟩ (fun z => by omega)
/-- a shelf becomes empty -/
theorem w_noneStore {d : Nat} (hd8 : d < 8) (hx : p.tables.exec = Jvm.exec) (hb : c.code = cc) (hK : va_K D vwCl (tyH cy cH) s) (hP : va_P D vwCl (shW cy ad cH σ u) H) (hD : va_D A (shW cy ad cH σ u)) (hS : va_S A s.heap H locs) (hd : decode cc pc = .ok (.aastore, 1))
    (kk : ∀ (u1 : SU) (H1 : Heap) (locs1 : List Loc), (∀ (X : Nat → Sf) (x : Sf), SHL cy u X → shk x → x.1 = 0 → SHL cy u1 (fu X d x)) → va_P D vwCl (shW cy ad cH σ u1) H1 → va_D A (shW cy ad cH σ u1) → va_S A s.heap H1 locs1 → W p l e R s m args below meth c H1 locs1 cells slots Q (F0 m (pc + 1) ls rest)) : W p l e R s m args below meth c H locs cells slots Q (F0 m pc ls (.null :: .int (nI d) :: .ref (ad 37) :: rest)) := by
  refine va_astqN hx hb hK hP hD hS ((wld cy ad dsC σ).length + 0) 3 (ax_at 0) rfl (in_nI hd8 (by decide)) hd (fun H1 locs1 hP hD hS => ?_)
  rw [cl_nI (by omega)] at hP hD
  have es := sh_set (cy := cy) (ad := ad) (cH := cH) (σ := σ) (u := u) (va_up u.1 d none)
  refine kk (va_up u.1 d none, u.2) H1 locs1 (fun X x hX hk h0 => ?_) (by
    have h := hP
    rw [show ((ad 37, (.inl (cH, 8, .inr (.inr (.inr (.inr (va_up u.1 d none))))) : va_E)) : Nat × va_E) = shC ad cH (va_up u.1 d none) from rfl, es] at h
    exact h) (by
    have h := hD
    rw [show ((ad 37, (.inl (cH, 8, .inr (.inr (.inr (.inr (va_up u.1 d none))))) : va_E)) : Nat × va_E) = shC ad cH (va_up u.1 d none) from rfl, es] at h
    exact h) hS
  exact SHL_up hX hk (fun a ha => ⟨ha, rfl⟩) (fun e he => va_up_ne _ _ he) (fun e he => rfl) ⟨fun _ => va_up_self _ _ _, fun z => by omega, fun z => by omega⟩ (fun z => by omega)
end SHK
def makeP (cy : Nat → ClassId) (X : Nat → Sf) (a b c : Int32) (v : Int32) (u' : SU) : Prop :=
  (v = -1 ∧ (ixI a 8 = none ∨ (b ≠ 3 ∧ b ≠ 4) ∨ ¬ c ≤ 60) ∧ SHL cy u' X) ∨ (v = -14 ∧ (∃ d, a = nI d ∧ d < 8) ∧ (b = 3 ∨ b = 4) ∧ c < 0 ∧ SHL cy u' X) ∨ (v = 0 ∧ ∃ d q n, a = nI d ∧ d < 8 ∧ b = nI q ∧ (q = 3 ∨ q = 4) ∧ c = nI n ∧ n ≤ 60 ∧ SHL cy u' (fu X d (q, 0, 0, n, fun _ => 0)))
set_option maxHeartbeats 4000000 in
theorem c_X11_make (l : Launch) (D : va_G) (cy : Nat → ClassId) (ad : Nat → Nat) (tL : Nat) (cH : ClassId) (σ : St) (u : SU) (X : Nat → Sf) (hX : SHL cy u X) (a b k : Int32) (sz : Nat) : Met l yX11_make (.code yX11_make cX11_make 4 (some .int) :: gAll) { frames := 4, cells := 2, slots := 62, locals := 76 } (va_Pc [.ref (ad 0), .int a, .int b, .int k] (fun U => U.heap.size = sz ∧ ShPre D cy ad tL cH σ u sz U)) (va_Qi (makeP cy X a b k) (ShBk D cy ad cH σ (va_A (shW cy ad cH σ u) sz)) (va_A (shW cy ad cH σ u) sz)) 2 62 (va_A (shW cy ad cH σ u) sz) := by
  refine ent_met (by decide) (Nat.le_of_ble_eq_true rfl) ?_
  intro p e s m args below meth c hx hb hml hr hlk hg hown hnm hsz hB ls hl
  obtain ⟨hP, hK, hD0, hLB, hY⟩ := hB
  subst hsz
  have hown : s.vm.findClass RX11 = some m.cls := hown
  have hl : lv_has ls 4 [(0, .ref (ad 0)), (1, .int a), (2, .int b), (3, .int k)] := hl
  have hD := hD0.self (sz := s.heap.size)
  generalize hAe : va_A (shW cy ad cH σ u) s.heap.size = A at hD hLB ⊢
  have hA : ∀ q : Nat, s.heap.size ≤ q → A q := fun q h => by rw [← hAe]; exact Or.inr h
  have hS : va_S A s.heap s.heap [] := va_S.rf
  have hk' := K_tyl hK
  have no : (ixI a 8 = none ∨ (b ≠ 3 ∧ b ≠ 4) ∨ ¬ k ≤ 60) → ∀ (H : Heap) (locs : List Loc), va_P D vwCl (shW cy ad cH σ u) H → va_S A s.heap H locs → W p l e { frames := 4, cells := 2, slots := 62, locals := 76 } s m args below meth c H locs 0 0 (MQ below (va_Qi (makeP cy X a b k) (ShBk D cy ad cH σ A) A) args s 2 62 A) (F0 m 23 ls []) := fun z H locs hP hS => by
    refine lv_iconst (v := (-1 : Int32)) hx hb dX11_make_23 (by decide) ?_
    exact sh_iret hx hb hr hlk hK hP hD hS ⟨Nat.zero_le _, Nat.zero_le _⟩ dX11_make_24 (Or.inl ⟨rfl, z, hX⟩)
  refine lv_iload_n hx hb dX11_make_0 rfl (lv_at hl 1 rfl) ?_
  refine w_isShelf hx hb hml hown hg hK hP hD hS hA hLB ⟨Nat.le_of_ble_eq_true rfl, Nat.le_of_ble_eq_true rfl⟩ ⟨Nat.zero_le _, Nat.zero_le _⟩ hl.1 (Nat.le_of_ble_eq_true rfl) dX11_make_1 (fun z H locs hP hS => ?_) (fun d ed hd8 H locs hP hS => ?_)
  · exact lv_if_eq (tgt := 23) hx hb dX11_make_4 (by decide) (fun _ => no (Or.inl z) H locs hP hS) (fun z => absurd rfl z)
  refine lv_if_eq (tgt := 23) hx hb dX11_make_4 (by decide) (fun z => absurd z (by decide)) (fun _ => ?_)
  have go : (b = 3 ∨ b = 4) → W p l e { frames := 4, cells := 2, slots := 62, locals := 76 } s m args below meth c H locs 0 0 (MQ below (va_Qi (makeP cy X a b k) (ShBk D cy ad cH σ A) A) args s 2 62 A) (F0 m 17 ls []) := by
    intro hbq
    refine lv_iload_n hx hb dX11_make_17 rfl (lv_at hl 3 rfl) ?_
    refine lv_bipush (v := (60 : Int32)) hx hb dX11_make_18 (by decide) ?_
    refine lv_icmp_le (tgt := 25) hx hb dX11_make_20 (by decide) (fun c60 => ?_) (fun z => no (Or.inr (Or.inr z)) H locs hP hS)
    refine lv_iload_n hx hb dX11_make_25 rfl (lv_at hl 3 rfl) ?_
    refine lv_if_ge (tgt := 32) hx hb dX11_make_26 (by decide) (fun c0 => ?_) (fun z => ?_)
    · obtain ⟨n, en, hn⟩ : ∃ n, k = nI n ∧ n ≤ 60 := by
        rcases ix1 (a := k) (n := 61) (by decide) with z | ⟨n, en, hn, -⟩
        · rcases ixI_none (by decide) z with y | y
          · exact absurd c0 (Int32.not_le.mpr y)
          · exact absurd (Int32.le_trans y c60) (by decide)
        · exact ⟨n, en, by omega⟩
      obtain ⟨q, eq, hq⟩ : ∃ q, b = nI q ∧ (q = 3 ∨ q = 4) := by
        rcases hbq with rfl | rfl
        · exact ⟨3, rfl, Or.inl rfl⟩
        · exact ⟨4, rfl, Or.inr rfl⟩
      refine lv_aload_n hx hb dX11_make_32 rfl (lv_at hl 0 rfl) ?_
      refine wi_getr hx hb hg hown hk' (vaP_l hP) 0 5 37 rfl rfl cb_11 (by decide) kw_365 dX11_make_33 ?_
      refine lv_iload_n hx hb dX11_make_36 rfl (lv_at hl 1 rfl) ?_
      refine w_newRow hx hb hown hg hk' hP hD hS hA ⟨Nat.le_of_ble_eq_true rfl, Nat.le_of_ble_eq_true rfl⟩ dX11_make_37 (fun qq H hP hD hS => ?_)
      refine lv_dup hx hb dX11_make_40 rfl ?_
      refine lv_iload_n hx hb dX11_make_41 rfl (lv_at hl 2 rfl) ?_
      refine lv_iload_n hx hb dX11_make_42 rfl (lv_at hl 3 rfl) ?_
      refine w_rowInit (N' := n) (by rw [en]; exact nI_pos (by omega)) (by rw [en]; exact cl_nI (by omega)) hn hx hb hml hown hg hk' hY hP hD hS hA ⟨Nat.le_of_ble_eq_true rfl, Nat.le_of_ble_eq_true rfl⟩ ⟨Nat.le_of_ble_eq_true rfl, by show 0 + 2 + n ≤ 62; omega⟩ hl.1 (Nat.le_of_ble_eq_true rfl) dX11_make_43 (fun bb H locs hP hD hS => ?_)
      rw [ed]
      refine w_rowStore hd8 hx hb hK hY hP hD hS dX11_make_46 (fun u1 H locs hu hP hD hS => ?_)
      refine lv_iconst (v := (0 : Int32)) hx hb dX11_make_47 (by decide) ?_
      refine sh_iret hx hb hr hlk hK hP hD hS ⟨Nat.le_of_ble_eq_true rfl, by show 0 + 2 + n ≤ 62; omega⟩ dX11_make_48 (Or.inr (Or.inr ⟨rfl, d, q, n, rfl, hd8, eq, hq, en, hn, hu X (q, 0, 0, n, fun _ => 0) hX ⟨hn, by show q = 0 ∨ q = 1 ∨ q = 3 ∨ q = 4; omega⟩ (by show 3 ≤ q; omega) eq rfl (fun j hj => rfl)⟩))
    · refine lv_bipush (v := (-14 : Int32)) hx hb dX11_make_29 (by decide) ?_
      exact sh_iret hx hb hr hlk hK hP hD hS ⟨Nat.zero_le _, Nat.zero_le _⟩ dX11_make_31 (Or.inr (Or.inl ⟨rfl, ⟨d, ed, hd8⟩, hbq, Int32.not_le.mp z, hX⟩))
  refine lv_iload_n hx hb dX11_make_7 rfl (lv_at hl 2 rfl) ?_
  refine lv_iconst (v := (3 : Int32)) hx hb dX11_make_8 (by decide) ?_
  refine lv_icmp_eq (tgt := 17) hx hb dX11_make_9 (by decide) (fun z => go (Or.inl z)) (fun n3 => ?_)
  refine lv_iload_n hx hb dX11_make_12 rfl (lv_at hl 2 rfl) ?_
  refine lv_iconst (v := (4 : Int32)) hx hb dX11_make_13 (by decide) ?_
  exact lv_icmp_ne (tgt := 23) hx hb dX11_make_14 (by decide) (fun n4 => no (Or.inr (Or.inl ⟨n3, n4⟩)) H locs hP hS) (fun z => go (Or.inr z))
