theorem r_toss {cy : Nat → ClassId} {σ τ : St} {u' : SU} {X : Nat → Sf} {N : Ne} {fs sl : Nat → Bool} {bd : Nat → Nat} {P : Pr} {r : Ru} {bb : Bool} {a v : Int32} (hw : RW N bd P r) (hc : RC σ N fs sl bd P r bb) (hm : RM τ N fs sl bd P r bb) (hM : MSh τ X) (hP : tossP cy X a v u') : w_X12_toss τ a (SRS cy σ u' v) := by
  have rep0 : ∀ τ', fr0 τ τ' → REP σ τ' := fun τ' f => ⟨N, fs, sl, bd, P, r, bb, hw, hc, RM_0 f hm⟩
  obtain ⟨hS, hP⟩ := hP
  rcases hP with ⟨rfl, z⟩ | ⟨d, ed, hd, ev⟩
  · exact m_toss hM (fun _ τ' f => ⟨rfl, rep0 τ' f, X, MSh_ag (fr_ag f (by decide)) hM, hS⟩) (fun d ed hd => (no_ix (by decide) z ed hd).elim)
  · refine m_toss hM (fun z => (no_ix (by decide) z ed hd).elim) (fun d' ed' hd' τ' f => ⟨?_, rep0 τ' f, X, MSh_ag (fr_ag f (by decide)) hM, hS⟩)
    have e1 : d' = d := nI_one (by omega) (by omega) ed ed'
    rw [e1]; exact ev
/-- element of both sides: what was thrown, what came -/
def SRE (cy : Nat → ClassId) (σ : St) (k : Int32) (w : SU × (Nat → Int64)) (v' : Int64) (τ' : St) : Prop := τ'.1 0 0 = k ∧ (k = 0 → w.2 0 = v') ∧ REP σ τ' ∧ ∃ X', MSh τ' X' ∧ SHL cy w.1 X'
theorem r_element {cy : Nat → ClassId} {σ τ : St} {w : SU × (Nat → Int64)} {X : Nat → Sf} {N : Ne} {fs sl : Nat → Bool} {bd : Nat → Nat} {P : Pr} {r : Ru} {bb : Bool} {a b k : Int32} (hw : RW N bd P r) (hc : RC σ N fs sl bd P r bb) (hm : RM τ N fs sl bd P r bb) (hM : MSh τ X) (hP : lelP cy X a b k w) : w_X12_element τ a b (SRE cy σ k w) := by
  have rep0 : ∀ τ', fr0 τ τ' → REP σ τ' := fun τ' f => ⟨N, fs, sl, bd, P, r, bb, hw, hc, RM_0 f hm⟩
  obtain ⟨hS, hP⟩ := hP
  rcases hP with ⟨rfl, z⟩ | ⟨rfl, d, ed, hd, no⟩ | ⟨rfl, d, j, ed, hd, o, ev⟩
  · exact m_element hM (fun _ τ' f e => ⟨e, fun y => absurd y (by decide), rep0 τ' f, X, MSh_ag (fr_ag f (by decide)) hM, hS⟩) (fun d ed hd => (no_ix (by decide) z ed hd).elim) (fun d j ed hd => (no_ix (by decide) z ed hd).elim)
  · refine m_element hM (fun z => (no_ix (by decide) z ed hd).elim) (fun d' ed' hd' _ τ' f e => ⟨e, fun y => absurd y (by decide), rep0 τ' f, X, MSh_ag (fr_ag f (by decide)) hM, hS⟩) (fun d' j ed' hd' o => ?_)
    have e1 : d' = d := nI_one (by omega) (by omega) ed ed'
    rw [e1] at o
    exact (no j o).elim
  · refine m_element hM (fun z => (no_ix (by decide) z ed hd).elim) (fun d' ed' hd' no => ?_) (fun d' j' ed' hd' o' τ' f e => ⟨e, fun _ => ?_, rep0 τ' f, X, MSh_ag (fr_ag f (by decide)) hM, hS⟩)
    · have e1 : d' = d := nI_one (by omega) (by omega) ed ed'
      rw [e1] at no
      exact (no j o).elim
    · have e1 : d' = d := nI_one (by omega) (by omega) ed ed'
      subst e1
      have k60 := (hM d' hd).1.1
      have l1 := o.2.2
      have l2 := o'.2.2
      have e2 : j' = j := nI_one (by omega) (by omega) o.2.1 o'.2.1
      rw [e2]; exact ev
/-! THE LAW'S WORLD and its calls -/
def lawW (cy : Nat → ClassId) (ad : Nat → Nat) (cH : ClassId) (σ : St) (u : SU) (ad2 : Nat → Nat) (τ : St) (o : Nat) (g : Nat → Int64) : va_W := shW cy ad cH σ u ++ (wld cy ad2 dsM τ ++ ouC cy o g)
theorem pm_ref {a b c : va_W} : (a ++ (b ++ c)).Perm (b ++ (a ++ c)) := by
  rw [← List.append_assoc, ← List.append_assoc]
  exact List.Perm.append_right c List.perm_append_comm
section LAWC
variable {p : Program} {l : Launch} {e : Env} {R : Room} {s : State} {m : MethodId} {args : Array Value} {below : List Frame} {meth : Method} {c : Code} {H : Heap} {locs : List Loc} {cells slots : Nat} {Q : State → Prop}
variable {cc : ByteArray} {pc nL : Nat} {ls : Array Slot} {rest st0 As : List Value} {D : va_G} {cy : Nat → ClassId} {ad ad2 : Nat → Nat} {tL : Nat} {cH : ClassId} {σ τ : St} {u : SU} {o : Nat} {g : Nat → Int64} {A : Nat → Prop} {y : MethodName} {cc2 : ByteArray} {maxL idx n fr2 lo2 : Nat} {ret : Option FieldType}
theorem l_cls {post : Int32 → St → Prop} (hM : Cti l y cc2 maxL ret fr2 lo2 D cy ad tL dsC σ (.ref (ad 0) :: As) post) (hV : VWd RL idx y cc2 maxL ret n) (hC : CBd 9 y.cls TX11 6 tyX11) (hx : p.tables.exec = Jvm.exec) (hb : c.code = cc) (hml : c.maxLocals = nL) (hown : s.vm.findClass RL = some m.cls) (hg : ∀ w ∈ gAll, w.before args s = true) (hK : va_K D vwCl (tyH cy cH) s) (hP : va_P D vwCl (lawW cy ad cH σ u ad2 τ o g) H) (hD : va_D A (lawW cy ad cH σ u ad2 τ o g)) (hS : va_S A s.heap H locs) (hA : ∀ q : Nat, s.heap.size ≤ q → A q) (hLB : lowB tL A s s.heap) (hn : As.length = n) (hR : fr2 + 1 ≤ R.frames ∧ 8 + (maxL + 11) + lo2 ≤ R.locals) (hf : cells ≤ R.cells ∧ slots ≤ R.slots) (hls : ls.size = nL) (hst : st0 = As.reverse ++ .ref (ad 0) :: rest) (hr : (rest.map fun v => v.category).sum ≤ 8) (hd : decode cc pc = .ok (.invokevirtual idx, 3))
    (kk : ∀ (r : Int32) (σ' : St), post r σ' → ∀ (H1 : Heap) (locs1 : List Loc), va_P D vwCl (lawW cy ad cH σ' u ad2 τ o g) H1 → va_D A (lawW cy ad cH σ' u ad2 τ o g) → va_S A s.heap H1 locs1 → W p l e R s m args below meth c H1 locs1 cells slots Q (F0 m (pc + 3) ls (.int r :: rest))) : W p l e R s m args below meth c H locs cells slots Q (F0 m pc ls st0) := by
  have eq : ∀ σ : St, lawW cy ad cH σ u ad2 τ o g = wld cy ad dsC σ ++ ((shC ad cH u.1 :: va_pl u.2.1 u.2.2.1) ++ (wld cy ad2 dsM τ ++ ouC cy o g)) := fun σ => by unfold lawW shW; rw [List.append_assoc]
  rw [eq] at hP hD
  refine wg_callVi (k := 0) (ci := 9) hM hV rfl hC hx hb hml hown hg (K_tyl hK) (vaP_l hP) (vaP_r hP) hD hS hA hLB hn hR hf hls hst hr hd (fun r σ' hp H1 locs1 h1 h2 h3 h4 => ?_)
  exact kk r σ' hp H1 locs1 (by rw [eq]; exact va_P.app h1 h2) (by rw [eq]; exact h3) h4
theorem l_ref {post : Int32 → St → Prop} (hM : Cti l y cc2 maxL ret fr2 lo2 D cy ad2 tL dsM τ (.ref (ad2 0) :: As) post) (hV : VWd RL idx y cc2 maxL ret n) (hC : CBd 10 y.cls TX12 52 tyX12) (hx : p.tables.exec = Jvm.exec) (hb : c.code = cc) (hml : c.maxLocals = nL) (hown : s.vm.findClass RL = some m.cls) (hg : ∀ w ∈ gAll, w.before args s = true) (hK : va_K D vwCl (tyH cy cH) s) (hP : va_P D vwCl (lawW cy ad cH σ u ad2 τ o g) H) (hD : va_D A (lawW cy ad cH σ u ad2 τ o g)) (hS : va_S A s.heap H locs) (hA : ∀ q : Nat, s.heap.size ≤ q → A q) (hLB : lowB tL A s s.heap) (hn : As.length = n) (hR : fr2 + 1 ≤ R.frames ∧ 8 + (maxL + 11) + lo2 ≤ R.locals) (hf : cells ≤ R.cells ∧ slots ≤ R.slots) (hls : ls.size = nL) (hst : st0 = As.reverse ++ .ref (ad2 0) :: rest) (hr : (rest.map fun v => v.category).sum ≤ 8) (hd : decode cc pc = .ok (.invokevirtual idx, 3))
    (kk : ∀ (r : Int32) (τ' : St), post r τ' → ∀ (H1 : Heap) (locs1 : List Loc), va_P D vwCl (lawW cy ad cH σ u ad2 τ' o g) H1 → va_D A (lawW cy ad cH σ u ad2 τ' o g) → va_S A s.heap H1 locs1 → W p l e R s m args below meth c H1 locs1 cells slots Q (F0 m (pc + 3) ls (.int r :: rest))) : W p l e R s m args below meth c H locs cells slots Q (F0 m pc ls st0) := by
  have hP' := pm_P hP pm_ref
  have hD' := pm_D hD pm_ref
  refine wg_callVi (k := 0) (ci := 10) hM hV rfl hC hx hb hml hown hg (K_tyl hK) (vaP_l hP') (vaP_r hP') hD' hS hA hLB hn hR hf hls hst hr hd (fun r τ' hp H1 locs1 h1 h2 h3 h4 => ?_)
  exact kk r τ' hp H1 locs1 (pm_P (va_P.app h1 h2) pm_ref) (pm_D h3 pm_ref) h4
theorem l_refl {post : Int64 → St → Prop} (hM : Ctl l y cc2 maxL ret fr2 lo2 D cy ad2 tL dsM τ (.ref (ad2 0) :: As) post) (hV : VWd RL idx y cc2 maxL ret n) (hC : CBd 10 y.cls TX12 52 tyX12) (hx : p.tables.exec = Jvm.exec) (hb : c.code = cc) (hml : c.maxLocals = nL) (hown : s.vm.findClass RL = some m.cls) (hg : ∀ w ∈ gAll, w.before args s = true) (hK : va_K D vwCl (tyH cy cH) s) (hP : va_P D vwCl (lawW cy ad cH σ u ad2 τ o g) H) (hD : va_D A (lawW cy ad cH σ u ad2 τ o g)) (hS : va_S A s.heap H locs) (hA : ∀ q : Nat, s.heap.size ≤ q → A q) (hLB : lowB tL A s s.heap) (hn : As.length = n) (hR : fr2 + 1 ≤ R.frames ∧ 8 + (maxL + 11) + lo2 ≤ R.locals) (hf : cells ≤ R.cells ∧ slots ≤ R.slots) (hls : ls.size = nL) (hst : st0 = As.reverse ++ .ref (ad2 0) :: rest) (hr : (rest.map fun v => v.category).sum ≤ 8) (hd : decode cc pc = .ok (.invokevirtual idx, 3))
    (kk : ∀ (r : Int64) (τ' : St), post r τ' → ∀ (H1 : Heap) (locs1 : List Loc), va_P D vwCl (lawW cy ad cH σ u ad2 τ' o g) H1 → va_D A (lawW cy ad cH σ u ad2 τ' o g) → va_S A s.heap H1 locs1 → W p l e R s m args below meth c H1 locs1 cells slots Q (F0 m (pc + 3) ls (.long r :: rest))) : W p l e R s m args below meth c H locs cells slots Q (F0 m pc ls st0) := by
  have hP' := pm_P hP pm_ref
  have hD' := pm_D hD pm_ref
  refine wg_callVl (k := 0) (ci := 10) hM hV rfl hC hx hb hml hown hg (K_tyl hK) (vaP_l hP') (vaP_r hP') hD' hS hA hLB hn hR hf hls hst hr hd (fun r τ' hp H1 locs1 h1 h2 h3 h4 => ?_)
  exact kk r τ' hp H1 locs1 (pm_P (va_P.app h1 h2) pm_ref) (pm_D h3 pm_ref) h4
/-- a shelf call of the class -/
theorem l_shelf {post : Int32 → SU → Prop} {mc ms : Nat} (hM : ∀ sz, Met l y (.code y cc2 maxL (some .int) :: gAll) { frames := fr2, cells := mc, slots := ms, locals := lo2 } (va_Pc (.ref (ad 0) :: As) (fun U => U.heap.size = sz ∧ ShPre D cy ad tL cH σ u sz U)) (va_Qi post (ShBk D cy ad cH σ (va_A (shW cy ad cH σ u) sz)) (va_A (shW cy ad cH σ u) sz)) mc ms (va_A (shW cy ad cH σ u) sz)) (hV : VWd RL idx y cc2 maxL (some .int) n) (hC : CBd 9 y.cls TX11 6 tyX11) (hx : p.tables.exec = Jvm.exec) (hb : c.code = cc) (hml : c.maxLocals = nL) (hown : s.vm.findClass RL = some m.cls) (hg : ∀ w ∈ gAll, w.before args s = true) (hK : va_K D vwCl (tyH cy cH) s) (hY : yPre s) (hP : va_P D vwCl (lawW cy ad cH σ u ad2 τ o g) H) (hD : va_D A (lawW cy ad cH σ u ad2 τ o g)) (hS : va_S A s.heap H locs) (hA : ∀ q : Nat, s.heap.size ≤ q → A q) (hLB : lowB tL A s s.heap) (hn : As.length = n) (hR : fr2 + 1 ≤ R.frames ∧ 8 + (maxL + 11) + lo2 ≤ R.locals) (hf : cells + mc ≤ R.cells ∧ slots + ms ≤ R.slots) (hls : ls.size = nL) (hst : st0 = As.reverse ++ .ref (ad 0) :: rest) (hr : (rest.map fun v => v.category).sum ≤ 8) (hd : decode cc pc = .ok (.invokevirtual idx, 3))
    (kk : ∀ (r : Int32) (u' : SU), post r u' → ∀ (H1 : Heap) (locs1 : List Loc), va_P D vwCl (lawW cy ad cH σ u' ad2 τ o g) H1 → va_D A (lawW cy ad cH σ u' ad2 τ o g) → va_S A s.heap H1 locs1 → W p l e R s m args below meth c H1 locs1 (cells + mc) (slots + ms) Q (F0 m (pc + 3) ls (.int r :: rest))) : W p l e R s m args below meth c H locs cells slots Q (F0 m pc ls st0) := by
  have hF : ∀ x, va_A (shW cy ad cH σ u) H.size x → A x := by
    intro x h
    rcases h with ⟨k, e, h⟩ | h
    · exact (vaD_l hD).2 k (x, e) h
    · exact hA x (Nat.le_trans hS.1 h)
  refine va_calli (va_runV (As := As) (rest := rest) ⟨hx, hb, hml, hown, hg⟩ (hM H.size) (cwV n hg (goodV hV) rfl rfl rfl ⟨rfl, hV.2.2.2.2.2⟩ hR) ⟨fun a U g mk q => by obtain ⟨q0, q1, qP, qK, qD, qL, qX⟩ := q; exact ⟨q0, q1, qP, va_K.moved (u := U) (U := U.calling g mk a) (Vm.Alike.refl U.vm) qK, qD, ⟨qL.1.moved (u := U) (U := U.calling g mk a) (Vm.Alike.refl U.vm), qL.2.moved (u := U) (U := U.calling g mk a) (Vm.Alike.refl U.vm)⟩, yPre.same rfl qX⟩, va_recv hK (vaP_l (vaP_l hP)) (ci := 9) (q0 := 0) hC.1 (wld_at (ds := dsC) (k := 0) rfl), fun U hU hW => ⟨rfl, by rw [hU], by rw [hU]; exact vaP_l hP, va_K.moved hW.alike hK, (vaD_l hD).weaken (fun _ _ _ _ => trivial), by rw [hU]; exact hLB.pass hS.2.1 hF hW.alike, hY.warm hW⟩⟩ rfl hn hls hst (lv_room hr) hd hf) hS (fun q _ h => hF q h) hF (fun r u1 t H1 locs1 ht hvm hw hB hz1 hk1 hS1 => ?_)
  obtain ⟨hP1, hK1, hD1⟩ := hB
  rw [ht] at hP1
  obtain ⟨j1, j2⟩ := w_join (vaP_r hP) hD hk1 hF hD1
  exact kk r u1 hw H1 locs1 (va_P.app hP1 j1) j2 hS1
end LAWC
