theorem hspn_or {n : Nat} {a b : Int32} (h60 : n ≤ 60) : (hspn n a b = 0 ∧ ∀ i0 n0, ¬ spn n a b i0 n0) ∨ (hspn n a b = 1 ∧ ∃ i0 n0, spn n a b i0 n0) := by
  unfold hspn
  by_cases c1 : a < 0
  · rw [if_pos c1]
    exact Or.inl ⟨rfl, fun i0 n0 o => by have := o.2.2; rw [o.1] at c1; exact nI_pos (by omega) c1⟩
  rw [if_neg c1]
  by_cases c2 : b < 0
  · rw [if_pos c2]
    exact Or.inl ⟨rfl, fun i0 n0 o => by have := o.2.2; rw [o.2.1] at c2; exact nI_pos (by omega) c2⟩
  rw [if_neg c2]
  obtain ⟨i0, hi, ei⟩ := nI_of c1
  obtain ⟨n0, hn, en⟩ := nI_of c2
  have one : ∀ i1 n1, spn n a b i1 n1 → i1 = i0 ∧ n1 = n0 ∧ i1 + n1 ≤ n := fun i1 n1 o => by
    have o3 := o.2.2
    exact ⟨(nI_eq (by omega) hi).mp (by rw [← ei, o.1]), (nI_eq (by omega) hn).mp (by rw [← en, o.2.1]), o3⟩
  by_cases c3 : Int32.ofNat n < a
  · rw [if_pos c3]
    refine Or.inl ⟨rfl, fun i1 n1 o => ?_⟩
    have o3 := one i1 n1 o
    rw [ei] at c3
    have := (nI_ltI (a := n) (b := i0) (by omega) hi).mp c3
    omega
  rw [if_neg c3]
  have y : ¬ n < i0 := fun z => c3 (by rw [ei]; exact (nI_ltI (by omega) hi).mpr z)
  have es : Int32.ofNat n - a = nI (n - i0) := by rw [ei]; exact pk_sub (by omega)
  by_cases c4 : Int32.ofNat n - a < b
  · rw [if_pos c4]
    refine Or.inl ⟨rfl, fun i1 n1 o => ?_⟩
    have o3 := one i1 n1 o
    rw [es, en] at c4
    have := (nI_ltI (a := n - i0) (b := n0) (by omega) hn).mp c4
    omega
  · rw [if_neg c4]
    refine Or.inr ⟨rfl, i0, n0, ei, en, ?_⟩
    have : ¬ n - i0 < n0 := fun z => c4 (by rw [es, en]; exact (nI_ltI (by omega) hn).mpr z)
    omega
theorem goodU {C : String} {idx : Nat} {x y : MethodName} {cc : ByteArray} {n : Nat} {r : Option FieldType} (h1 : Cond.methodLink RX11 idx x ∈ gAll) (h2 : Cond.sameMethod x.cls "ClockCourt$Held" x.name x.desc ∈ gAll) (h3 : Cond.selects C x y ∈ gAll) (h4 : Cond.instanceMethod y ∈ gAll) (h5 : Cond.initialized y.cls ∈ gAll) (h6 : Cond.code y cc n r ∈ gAll) : GoodIn gAll (va_wsU RX11 idx C "ClockCourt$Held" x y (.code y cc n r :: gAll)) := by
  intro w hw
  have : w ∈ gAll := by
    simp only [va_wsU, List.mem_append, List.mem_cons, List.not_mem_nil, or_false] at hw
    rcases hw with (rfl | rfl | rfl | rfl | rfl) | rfl | hw
    · exact h1
    · exact h2
    · exact h3
    · exact h4
    · exact h5
    · exact h6
    · exact hw
  exact gAll_good w this
section SHR
variable {p : Program} {l : Launch} {e : Env} {R : Room} {s : State} {m : MethodId} {args : Array Value} {below : List Frame} {meth : Method} {c : Code} {H : Heap} {locs : List Loc} {cells slots : Nat} {Q : State → Prop}
variable {cc : ByteArray} {pc nL : Nat} {ls : Array Slot} {rest : List Value} {D : va_G} {cy : Nat → ClassId} {ad : Nat → Nat} {tL : Nat} {cH : ClassId} {σ : St} {u : SU} {A : Nat → Prop}
/-- a call through Held that writes nothing -/
theorem w_heldCall {a idx ci N : Nat} {C : String} {T : u_T} {ty : Nat → FieldType} {fs : List Value} {x y : MethodName} {cc2 : ByteArray} {v : Int32} {B0 : State → Prop} (hM : ∀ sz, Met l y (.code y cc2 1 (some .int) :: gAll) { frames := 0, cells := 0, slots := 0, locals := 0 } (va_Pc [.ref a] (fun U => U.heap.size = sz ∧ B0 U)) (va_Qi (fun r (_ : Unit) => r = v) (fun _ _ => True) (va_A [] sz)) 0 0 (va_A [] sz)) (hbl : ∀ (U : State) (g : JFrame) (mk : MethodId) (a : Array Value), B0 U → B0 (U.calling g mk a)) (hpre : ∀ U : State, U.heap = H → s.WarmedH U.vm → B0 U) (hG : GoodIn gAll (va_wsU RX11 idx C "ClockCourt$Held" x y (.code y cc2 1 (some .int) :: gAll))) (hz : va_Nw (.declares ⟨"ClockCourt$Held", x.name, x.desc⟩) s) (hdc : (parseMethodDescriptor x.desc).map (fun d => d.parameters.length) = some 0) (hC : CBd ci C T N ty) (ha : a ∈ u.2.1) (hF : u.2.2.1 a = .inr (ci, fs)) (hx : p.tables.exec = Jvm.exec) (hb : c.code = cc) (hml : c.maxLocals = nL) (hown : s.vm.findClass RX11 = some m.cls) (hg : ∀ w ∈ gAll, w.before args s = true) (hK : va_K D vwCl (tyH cy cH) s) (hP : va_P D vwCl (shW cy ad cH σ u) H) (hS : va_S A s.heap H locs) (hA : ∀ q : Nat, s.heap.size ≤ q → A q) (hR : 1 ≤ R.frames ∧ 20 ≤ R.locals) (hf : cells ≤ R.cells ∧ slots ≤ R.slots) (hls : ls.size = nL) (hr : (rest.map fun v => v.category).sum ≤ 8) (hd : decode cc pc = .ok (.invokevirtual idx, 3))
    (kk : ∀ (H1 : Heap) (locs1 : List Loc), va_P D vwCl (shW cy ad cH σ u) H1 → va_S A s.heap H1 locs1 → W p l e R s m args below meth c H1 locs1 cells slots Q (F0 m (pc + 3) ls (.int v :: rest))) : W p l e R s m args below meth c H locs cells slots Q (F0 m pc ls (.ref a :: rest)) := by
  have hFr := ro_F hS hA
  obtain ⟨k, hk⟩ := sh_get (cy := cy) (ad := ad) (cH := cH) (σ := σ) (u := u) ha
  rw [hF] at hk
  refine va_calli (va_runU (As := []) (rest := rest) ⟨hx, hb, hml, hown, hg⟩ (hM H.size) (va_cwA 0 hg hG rfl rfl rfl hz ⟨by decide, by decide, hdc⟩ hR) ⟨fun a U g mk q => ⟨q.1, q.2.1, hbl U g mk a q.2.2⟩, va_recv hK hP hC.1 hk, fun U hU hW => ⟨rfl, by rw [hU], hpre U hU hW⟩⟩ rfl rfl hls rfl (lv_room hr) hd hf) hS (fun q _ h => hFr q h) hFr (fun r u1 t H1 locs1 ht hvm hw hB hz1 hk1 hS1 => ?_)
  subst hw
  exact kk H1 locs1 (ro_P hP hk1) hS1
/-- what a shelf holds -/
theorem w_shelfAt {d : Nat} (hd8 : d < 8) (hx : p.tables.exec = Jvm.exec) (hb : c.code = cc) (hK : va_K D vwCl (tyH cy cH) s) (hP : va_P D vwCl (shW cy ad cH σ u) H) (hd : decode cc pc = .ok (.aaload, 1))
    (kk : W p l e R s m args below meth c H locs cells slots Q (F0 m (pc + 1) ls (va_rf (u.1 d) :: rest))) : W p l e R s m args below meth c H locs cells slots Q (F0 m pc ls (.int (nI d) :: .ref (ad 37) :: rest)) := by
  refine va_aldq hx hb hK hP ((wld cy ad dsC σ).length + 0) 3 (ax_at 0) rfl (in_nI hd8 (by decide)) hd ?_
  rw [cl_nI (by omega)]
  exact kk
end SHR
def weighP (cy : Nat → ClassId) (X : Nat → Sf) (a : Int32) (v : Int32) (u' : SU) : Prop := SHL cy u' X ∧ ((v = -1 ∧ ixI a 8 = none) ∨ ∃ d, a = nI d ∧ d < 8 ∧ v = if (X d).1 = 0 then -11 else if (X d).1 = 1 then (X d).2.1 else -12)
set_option maxHeartbeats 4000000 in
theorem c_X11_weight (l : Launch) (D : va_G) (cy : Nat → ClassId) (ad : Nat → Nat) (tL : Nat) (cH : ClassId) (σ : St) (u : SU) (X : Nat → Sf) (hX : SHL cy u X) (a : Int32) (sz : Nat) : Met l yX11_weight (.code yX11_weight cX11_weight 3 (some .int) :: gAll) { frames := 4, cells := 0, slots := 0, locals := 76 } (va_Pc [.ref (ad 0), .int a] (fun U => U.heap.size = sz ∧ ShPre D cy ad tL cH σ u sz U)) (va_Qi (weighP cy X a) (ShBk D cy ad cH σ (va_A (shW cy ad cH σ u) sz)) (va_A (shW cy ad cH σ u) sz)) 0 0 (va_A (shW cy ad cH σ u) sz) := by
  refine ent_met (by decide) (Nat.le_of_ble_eq_true rfl) ?_
  intro p e s m args below meth c hx hb hml hr hlk hg hown hnm hsz hB ls hl
  obtain ⟨hP, hK, hD0, hLB, hY⟩ := hB
  subst hsz
  have hown : s.vm.findClass RX11 = some m.cls := hown
  have hl : lv_has ls 3 [(0, .ref (ad 0)), (1, .int a)] := hl
  have hD := hD0.self (sz := s.heap.size)
  generalize hAe : va_A (shW cy ad cH σ u) s.heap.size = A at hD hLB ⊢
  have hA : ∀ q : Nat, s.heap.size ≤ q → A q := fun q h => by rw [← hAe]; exact Or.inr h
  have hS : va_S A s.heap s.heap [] := va_S.rf
  have hk' := K_tyl hK
  refine lv_iload_n hx hb dX11_weight_0 rfl (lv_at hl 1 rfl) ?_
  refine w_isShelf hx hb hml hown hg hK hP hD hS hA hLB ⟨Nat.le_of_ble_eq_true rfl, Nat.le_of_ble_eq_true rfl⟩ ⟨Nat.zero_le _, Nat.zero_le _⟩ hl.1 (Nat.le_of_ble_eq_true rfl) dX11_weight_1 (fun z H locs hP hS => ?_) (fun d ed hd8 H locs hP hS => ?_)
  · refine lv_if_ne (tgt := 9) hx hb dX11_weight_4 (by decide) (fun z => absurd rfl z) (fun _ => ?_)
    refine lv_iconst (v := (-1 : Int32)) hx hb dX11_weight_7 (by decide) ?_
    exact sh_iret hx hb hr hlk hK hP hD hS ⟨Nat.zero_le _, Nat.zero_le _⟩ dX11_weight_8 ⟨hX, Or.inl ⟨rfl, z⟩⟩
  refine lv_if_ne (tgt := 9) hx hb dX11_weight_4 (by decide) (fun _ => ?_) (fun z => absurd z (by decide))
  refine lv_aload_n hx hb dX11_weight_9 rfl (lv_at hl 0 rfl) ?_
  refine wi_getr hx hb hg hown hk' (vaP_l hP) 0 5 37 rfl rfl cb_11 (by decide) kw_365 dX11_weight_10 ?_
  refine lv_iload_n hx hb dX11_weight_13 rfl (lv_at hl 1 rfl) ?_
  rw [ed]
  refine w_shelfAt hd8 hx hb hK hP dX11_weight_14 ?_
  obtain ⟨hk8, s0, s1, s3⟩ := hX.1 d hd8
  have fin : ∀ (v : Int32) (H : Heap) (locs : List Loc) (ls : Array Slot), (v = if (X d).1 = 0 then -11 else if (X d).1 = 1 then (X d).2.1 else -12) → va_P D vwCl (shW cy ad cH σ u) H → va_S A s.heap H locs → W p l e { frames := 4, cells := 0, slots := 0, locals := 76 } s m args below meth c H locs 0 0 (MQ below (va_Qi (weighP cy X (nI d)) (ShBk D cy ad cH σ A) A) args s 0 0 A) (F0 m 29 ls [.int v]) := fun v H locs ls hv hP hS => sh_iret hx hb hr hlk hK hP hD hS ⟨Nat.zero_le _, Nat.zero_le _⟩ dX11_weight_29 ⟨hX, Or.inr ⟨d, rfl, hd8, hv⟩⟩
  by_cases t0 : (X d).1 = 0
  · rw [s0 t0]
    refine lv_astore_nN (i := 2) hx hb dX11_weight_15 rfl hl (by decide) rfl (fun ls hl => ?_)
    have hl : lv_has ls 3 [(2, .null), (0, .ref (ad 0)), (1, .int a)] := hl
    refine lv_aload_nN hx hb dX11_weight_16 rfl (lv_at hl 0 rfl) ?_
    refine lv_ifnonnullN hx hb dX11_weight_17 ?_
    refine lv_bipush (v := (-11 : Int32)) hx hb dX11_weight_20 (by decide) ?_
    refine lv_goto (tgt := 29) hx hb dX11_weight_22 (by decide) ?_
    exact fin _ H locs ls (by rw [if_pos t0]) hP hS
  by_cases t1 : (X d).1 = 1
  · obtain ⟨a0, nu, ki, kl, so, f1, f2, f3, f4, f5⟩ := s1 t1
    rw [f1]
    refine lv_astore_n (i := 2) (x := a0) hx hb dX11_weight_15 rfl hl (by decide) rfl (fun ls hl => ?_)
    have hl : lv_has ls 3 [(2, .ref a0), (0, .ref (ad 0)), (1, .int a)] := hl
    refine lv_aload_n hx hb dX11_weight_16 rfl (lv_at hl 0 rfl) ?_
    refine lv_ifnonnull (tgt := 25) hx hb dX11_weight_17 (by decide) ?_
    refine lv_aload_n hx hb dX11_weight_25 rfl (lv_at hl 0 rfl) ?_
    obtain ⟨k, hk⟩ := sh_get (cy := cy) (ad := ad) (cH := cH) (σ := σ) (u := u) f2
    rw [f3] at hk
    refine w_heldCall (C := RX3) (T := TX3) (N := 4) (ty := tyX3) (ci := 1) (B0 := fun U => va_P D vwCl [(a0, heC nu ki kl so)] U.heap ∧ va_K D vwCl (tyl cy) U) (fun sz => c_X3_weigh l D cy a0 sz nu ki kl so) (fun U g mk a q => ⟨q.1, va_K.moved (u := U) (U := U.calling g mk a) (Vm.Alike.refl U.vm) q.2⟩) (fun U hU hW => ⟨by rw [hU]; exact hP.by (fun _ => k) (fun j q hj => by rcases j with _ | j <;> simp at hj; rw [← hj]; exact hk), va_K.moved hW.alike hk'⟩) (goodU kw_544 kw_545 kw_546 kw_547 kw_89 kw_82) hY.2.2.2.2.2.1 (by decide +kernel) cb_3 f2 f3 hx hb hml hown hg hK hP hS hA ⟨Nat.le_of_ble_eq_true rfl, Nat.le_of_ble_eq_true rfl⟩ ⟨Nat.zero_le _, Nat.zero_le _⟩ hl.1 (Nat.le_of_ble_eq_true rfl) dX11_weight_26 (fun H locs hP hS => ?_)
    exact fin _ H locs ls (by rw [if_neg t0, if_pos t1]; exact f4) hP hS
  · have t3 : 3 ≤ (X d).1 := by have := hk8.2; omega
    obtain ⟨a0, g, f1, f2, f3, f4, f5, f6⟩ := s3 t3
    rw [f1]
    refine lv_astore_n (i := 2) (x := a0) hx hb dX11_weight_15 rfl hl (by decide) rfl (fun ls hl => ?_)
    have hl : lv_has ls 3 [(2, .ref a0), (0, .ref (ad 0)), (1, .int a)] := hl
    refine lv_aload_n hx hb dX11_weight_16 rfl (lv_at hl 0 rfl) ?_
    refine lv_ifnonnull (tgt := 25) hx hb dX11_weight_17 (by decide) ?_
    refine lv_aload_n hx hb dX11_weight_25 rfl (lv_at hl 0 rfl) ?_
    refine w_heldCall (C := RX6) (T := TX6) (N := 2) (ty := tyX6) (ci := 4) (B0 := fun _ => True) (fun sz => c_X6_weigh l a0 sz) (fun U g mk a q => trivial) (fun U hU hW => trivial) (goodU kw_544 kw_545 kw_548 kw_549 kw_508 kw_159) hY.2.2.2.2.2.1 (by decide +kernel) cb_6 f2 f4 hx hb hml hown hg hK hP hS hA ⟨Nat.le_of_ble_eq_true rfl, Nat.le_of_ble_eq_true rfl⟩ ⟨Nat.zero_le _, Nat.zero_le _⟩ hl.1 (Nat.le_of_ble_eq_true rfl) dX11_weight_26 (fun H locs hP hS => ?_)
    exact fin _ H locs ls (by rw [if_neg t0, if_neg t1]) hP hS
