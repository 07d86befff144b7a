theorem P_two {D : va_G} {cl : List vw_C} {ws : va_W} {H : Heap} {x y : Nat × va_E} {i j : Nat} (hP : va_P D cl ws H) (hi : ws[i]? = some x) (hj : ws[j]? = some y) : va_P D cl [x, y] H := fun k q hk => by
  rcases k with _ | _ | k
  · simp at hk; rw [← hk]; exact hP i x hi
  · simp at hk; rw [← hk]; exact hP j y hj
  · simp at hk
theorem vw_RX11_292 : VWd RX11 292 yX6_hasSpan cX6_hasSpan 3 (some .boolean) 2 := ⟨kw_540, kw_541, kw_542, kw_508, kw_158, by decide, by decide, by decide +kernel⟩
theorem SHL_cp {cy : Nat → ClassId} {u : SU} {X : Nat → Sf} {e : Nat} {x : Sf} {g' : Nat → Int32} (hX : SHL cy u X) (he : e < 8) (h3 : 3 ≤ (X e).1) (hx1 : x.1 = (X e).1) (hxn : x.2.2.2.1 = (X e).2.2.2.1) (hg : ∀ j, j < x.2.2.2.1 → g' j = x.2.2.2.2 j) : SHL cy (u.1, u.2.1, va_up u.2.2.1 (u.2.2.2 e) (arC cy x.2.2.2.1 g'), u.2.2.2) (fu X e x) := by
  obtain ⟨ke, se⟩ := hX.1 e he
  obtain ⟨ae, ge, e1, e2, e3, e4, e5, e6⟩ := se.2.2 h3
  have neq : ∀ a ci fs, u.2.2.1 a = .inr (ci, fs) → a ≠ u.2.2.2 e := fun a ci fs h z => by
    rw [z, e5] at h; cases h
  have hk : shk x := ⟨by rw [hxn]; exact ke.1, by rw [hx1]; exact ke.2⟩
  refine ⟨fun d hd => ?_, fun d1 d2 h1 h2 hne z1 z2 => ?_⟩
  · by_cases z : d = e
    · subst z
      rw [fu_s]
      refine ⟨hk, fun y => by omega, fun y => by omega, fun _ => ⟨ae, g', e1, e2, e3, ?_, va_up_self _ _ _, hg⟩⟩
      show va_up u.2.2.1 (u.2.2.2 d) (arC cy x.2.2.2.1 g') ae = _
      rw [va_up_ne _ _ (neq ae _ _ e4), e4, hx1]
    · rw [fu_n _ _ z]
      obtain ⟨kd, s0, s1, s3⟩ := hX.1 d hd
      refine ⟨kd, s0, fun y => ?_, fun y => ?_⟩
      · obtain ⟨a, nu, ki, kl, so, f1, f2, f3, f4⟩ := s1 y
        exact ⟨a, nu, ki, kl, so, f1, f2, by show va_up _ _ _ a = _; rw [va_up_ne _ _ (neq a _ _ f3)]; exact f3, f4⟩
      · obtain ⟨a, g, f1, f2, f3, f4, f5, f6⟩ := s3 y
        exact ⟨a, g, f1, f2, f3, by show va_up _ _ _ a = _; rw [va_up_ne _ _ (neq a _ _ f4)]; exact f4, by show va_up _ _ _ (u.2.2.2 d) = _; rw [va_up_ne _ _ (hX.2 d e hd he z y h3)]; exact f5, f6⟩
  · have y1 : 3 ≤ (X d1).1 := by
      by_cases y : d1 = e
      · rw [y]; exact h3
      · rw [fu_n _ _ y] at z1; exact z1
    have y2 : 3 ≤ (X d2).1 := by
      by_cases y : d2 = e
      · rw [y]; exact h3
      · rw [fu_n _ _ y] at z2; exact z2
    exact hX.2 d1 d2 h1 h2 hne y1 y2
def copyP (cy : Nat → ClassId) (X : Nat → Sf) (a1 a2 a3 a4 a5 : Int32) (v : Int32) (u' : SU) : Prop :=
  (v = -1 ∧ (ixI a1 8 = none ∨ ixI a3 8 = none) ∧ SHL cy u' X) ∨ ∃ d e, a1 = nI d ∧ d < 8 ∧ a3 = nI e ∧ e < 8 ∧
   ((v = -11 ∧ ((X d).1 = 0 ∨ (X e).1 = 0) ∧ SHL cy u' X) ∨ (v = -12 ∧ (X d).1 ≠ 0 ∧ (X e).1 ≠ 0 ∧ ((X d).1 < 3 ∨ (X d).1 ≠ (X e).1) ∧ SHL cy u' X) ∨
    (v = -13 ∧ 3 ≤ (X d).1 ∧ (X d).1 = (X e).1 ∧ ((∀ i0 n0, ¬ spn (X d).2.2.2.1 a2 a5 i0 n0) ∨ (∀ j0 n0, ¬ spn (X e).2.2.2.1 a4 a5 j0 n0)) ∧ SHL cy u' X) ∨
    (v = a5 ∧ ∃ i0 j0 n0, 3 ≤ (X d).1 ∧ (X d).1 = (X e).1 ∧ spn (X d).2.2.2.1 a2 a5 i0 n0 ∧ spn (X e).2.2.2.1 a4 a5 j0 n0 ∧ SHL cy u' (fu X e (cpS (X d) (X e) i0 j0 n0))))
section SHC
variable {p : Program} {l : Launch} {e : Env} {R : Room} {s : State} {m : MethodId} {args : Array Value} {below : List Frame} {meth : Method} {c : Code} {H : Heap} {locs : List Loc} {cells slots : Nat} {Q : State → Prop}
variable {cc : ByteArray} {pc nL : Nat} {ls : Array Slot} {rest : List Value} {D : va_G} {cy : Nat → ClassId} {ad : Nat → Nat} {tL : Nat} {cH : ClassId} {σ : St} {u : SU} {A : Nat → Prop}
theorem w_span {a b n : Nat} {o i k : Int32} {g : Nat → Int32} (ha : a ∈ u.2.1) (hbL : b ∈ u.2.1) (hFa : u.2.2.1 a = roC o b) (hFb : u.2.2.1 b = arC cy n g) (h60 : n ≤ 60) (hx : p.tables.exec = Jvm.exec) (hb : c.code = cc) (hml : c.maxLocals = nL) (hown : s.vm.findClass RX11 = some m.cls) (hg : ∀ w ∈ gAll, w.before args s = true) (hK : va_K D vwCl (tyH cy cH) s) (hP : va_P D vwCl (shW cy ad cH σ u) H) (hS : va_S A s.heap H locs) (hA : ∀ q : Nat, s.heap.size ≤ q → A q) (hR : 1 ≤ R.frames ∧ 22 ≤ R.locals) (hf : cells ≤ R.cells ∧ slots ≤ R.slots) (hls : ls.size = nL) (hr : (rest.map fun v => v.category).sum ≤ 8) (hd : decode cc pc = .ok (.invokevirtual 292, 3))
    (k0 : (∀ i0 n0, ¬ spn n i k i0 n0) → ∀ (H1 : Heap) (locs1 : List Loc), va_P D vwCl (shW cy ad cH σ u) H1 → va_S A s.heap H1 locs1 → W p l e R s m args below meth c H1 locs1 cells slots Q (F0 m (pc + 3) ls (.int 0 :: rest)))
    (k1 : ∀ i0 n0, spn n i k i0 n0 → ∀ (H1 : Heap) (locs1 : List Loc), va_P D vwCl (shW cy ad cH σ u) H1 → va_S A s.heap H1 locs1 → W p l e R s m args below meth c H1 locs1 cells slots Q (F0 m (pc + 3) ls (.int 1 :: rest))) : W p l e R s m args below meth c H locs cells slots Q (F0 m pc ls (.int k :: .int i :: .ref a :: rest)) := by
  have hFr := ro_F hS hA
  obtain ⟨q1, h1⟩ := sh_get (cy := cy) (ad := ad) (cH := cH) (σ := σ) (u := u) ha
  obtain ⟨q2, h2⟩ := sh_get (cy := cy) (ad := ad) (cH := cH) (σ := σ) (u := u) hbL
  rw [hFa] at h1
  rw [hFb] at h2
  refine va_calli (va_runV (As := [.int i, .int k]) (rest := rest) ⟨hx, hb, hml, hown, hg⟩ (c_X6_hasSpan l D cy a b H.size o i k n g) (cwV 2 hg (goodV vw_RX11_292) rfl rfl rfl ⟨rfl, vw_RX11_292.2.2.2.2.2⟩ hR) ⟨fun a U g mk q => by obtain ⟨q0, q1, qP, qK⟩ := q; exact ⟨q0, q1, qP, va_K.moved (u := U) (U := U.calling g mk a) (Vm.Alike.refl U.vm) qK⟩, va_recv hK hP cb_6.1 h1, fun U hU hW => ⟨rfl, by rw [hU], by rw [hU]; exact P_two hP h1 h2, va_K.moved hW.alike (K_tyl hK)⟩⟩ rfl rfl hls rfl (lv_room hr) hd hf) hS (fun q _ h => hFr q h) hFr (fun r u1 t H1 locs1 ht hvm hw hB hz1 hk1 hS1 => ?_)
  rcases hspn_or (a := i) (b := k) h60 with ⟨z, no⟩ | ⟨z, i0, n0, o⟩
  · rw [z] at hw; subst hw; exact k0 no H1 locs1 (ro_P hP hk1) hS1
  · rw [z] at hw; subst hw; exact k1 i0 n0 o H1 locs1 (ro_P hP hk1) hS1
theorem w_instRow {a b : Nat} {o : Int32} (ha : a ∈ u.2.1) (hFa : u.2.2.1 a = roC o b) (hx : p.tables.exec = Jvm.exec) (hb : c.code = cc) (hown : s.vm.findClass RX11 = some m.cls) (hg : ∀ w ∈ gAll, w.before args s = true) (hK : va_K D vwCl (tyH cy cH) s) (hP : va_P D vwCl (shW cy ad cH σ u) H) (hd : decode cc pc = .ok (.instanceof 267, 3))
    (kk : W p l e R s m args below meth c H locs cells slots Q (F0 m (pc + 3) ls (.int 1 :: rest))) : W p l e R s m args below meth c H locs cells slots Q (F0 m pc ls (.ref a :: rest)) := by
  obtain ⟨q1, h1⟩ := sh_get (cy := cy) (ad := ad) (cH := cH) (σ := σ) (u := u) ha
  rw [hFa] at h1
  exact va_instS hx hb hown (hg _ kw_537) (hK.1 4 (RX6, TX6, 2) rfl).2 (va_recv hK hP cb_6.1 h1) hd kk
theorem w_castRow {a b : Nat} {o : Int32} (ha : a ∈ u.2.1) (hFa : u.2.2.1 a = roC o b) (hx : p.tables.exec = Jvm.exec) (hb : c.code = cc) (hown : s.vm.findClass RX11 = some m.cls) (hg : ∀ w ∈ gAll, w.before args s = true) (hK : va_K D vwCl (tyH cy cH) s) (hP : va_P D vwCl (shW cy ad cH σ u) H) (hd : decode cc pc = .ok (.checkcast 267, 3))
    (kk : W p l e R s m args below meth c H locs cells slots Q (F0 m (pc + 3) ls (.ref a :: rest))) : W p l e R s m args below meth c H locs cells slots Q (F0 m pc ls (.ref a :: rest)) := by
  obtain ⟨q1, h1⟩ := sh_get (cy := cy) (ad := ad) (cH := cH) (σ := σ) (u := u) ha
  rw [hFa] at h1
  exact va_castS hx hb hown (hg _ kw_537) (hK.1 4 (RX6, TX6, 2) rfl).2 (va_recv hK hP cb_6.1 h1) hd kk
theorem w_instCell {a : Nat} {nu ki kl so : Int32} (ha : a ∈ u.2.1) (hFa : u.2.2.1 a = heC nu ki kl so) (hx : p.tables.exec = Jvm.exec) (hb : c.code = cc) (hown : s.vm.findClass RX11 = some m.cls) (hg : ∀ w ∈ gAll, w.before args s = true) (hK : va_K D vwCl (tyH cy cH) s) (hY : yPre s) (hP : va_P D vwCl (shW cy ad cH σ u) H) (hd : decode cc pc = .ok (.instanceof 267, 3))
    (kk : W p l e R s m args below meth c H locs cells slots Q (F0 m (pc + 3) ls (.int 0 :: rest))) : W p l e R s m args below meth c H locs cells slots Q (F0 m pc ls (.ref a :: rest)) := by
  obtain ⟨q1, h1⟩ := sh_get (cy := cy) (ad := ad) (cH := cH) (σ := σ) (u := u) ha
  rw [hFa] at h1
  exact va_instNo hx hb hown (hg _ kw_537) hY.2.2.2.2.1 (va_recv hK hP cb_3.1 h1) hd kk
theorem w_rowGet {a b j idx : Nat} {o : Int32} {v : Value} (ha : a ∈ u.2.1) (hFa : u.2.2.1 a = roC o b) (hj : j < 2) (hv : ([.int o, .ref b] : List Value)[j]? = some v) (hl : Cond.fieldLink RX11 idx (TX6 j).1 (TX6 j).2.1 (TX6 j).2.2.1 ∈ gAll) (hx : p.tables.exec = Jvm.exec) (hb : c.code = cc) (hown : s.vm.findClass RX11 = some m.cls) (hg : ∀ w ∈ gAll, w.before args s = true) (hK : va_K D vwCl (tyH cy cH) s) (hP : va_P D vwCl (shW cy ad cH σ u) H) (hd : decode cc pc = .ok (.getfield idx, 3))
    (kk : W p l e R s m args below meth c H locs cells slots Q (F0 m (pc + 3) ls (v :: rest))) : W p l e R s m args below meth c H locs cells slots Q (F0 m pc ls (.ref a :: rest)) := by
  obtain ⟨q1, h1⟩ := sh_get (cy := cy) (ad := ad) (cH := cH) (σ := σ) (u := u) ha
  rw [hFa] at h1
  exact va_get (C := RX6) (T := TX6) (N := 2) hx hb hg ku_X6 hown hK hP q1 h1 rfl j hj (hg _ hl) (fun _ h => h) hv hd kk
end SHC
