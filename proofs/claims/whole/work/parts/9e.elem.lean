theorem hatA {own : String} {ic : Nat} {args : Array Value} {s : State} {A : Nat → Prop} {H : Heap} (h1 : ∀ w ∈ (vx_atS own ic IAE nmT).filter goodWord, w.before args s = true) (h2 : ∀ w ∈ (vx_atS own ic IAE nmT).filter (fun w => !goodWord w), w ∈ ([.declares (iS "java/lang/RuntimeException"), .declares (iS "java/lang/Exception"), .declares (iS "java/lang/Throwable"), .castable IAE IAE] : List Cond)) (hT : tPre A s H) : ∀ w ∈ vx_atS own ic IAE nmT, w.before args s = true :=
  vx_hat h1 h2 (vx_c (va_Nw.use rfl hT.1.1) (vx_c (va_Nw.use rfl hT.1.2.1) (vx_c (va_Nw.use rfl hT.1.2.2.1) (vx_c (va_Nw.use rfl hT.1.2.2.2.2.1) vx_n))))
def elemR (cy : Nat → ClassId) (X : Nat → Sf) (a b : Int32) (v : Int64) (u' : SU) : Prop := SHL cy u' X ∧ ∃ d j, a = nI d ∧ d < 8 ∧ elO (X d) b j ∧ v = ((X d).2.2.2.2 j).toInt64
def elemX (D : va_G) (cy : Nat → ClassId) (ad : Nat → Nat) (cH : ClassId) (σ : St) (A : Nat → Prop) (X : Nat → Sf) (a b : Int32) (E : String) (u' : SU) (t : State) : Prop := ShBk D cy ad cH σ A u' t ∧ ((E = IAE ∧ ixI a 8 = none) ∨ (E = ISE ∧ ∃ d, a = nI d ∧ d < 8 ∧ ∀ j, ¬ elO (X d) b j))
set_option maxHeartbeats 8000000 in
theorem c_X11_element (l : Launch) (hl9 : l.stackTraces = false) (D : va_G) (cy : Nat → ClassId) (ad : Nat → Nat) (tL : Nat) (cH : ClassId) (σ : St) (u : SU) (X : Nat → Sf) (hX : SHL cy u X) (a b : Int32) (sz : Nat) : vx_Met l yX11_element (.code yX11_element cX11_element 5 (some .long) :: gThr) { frames := 6, cells := 1, slots := 6, locals := 82 } (va_Pc [.ref (ad 0), .int a, .int b] (fun U => U.heap.size = sz ∧ ShPre D cy ad tL cH σ u sz U ∧ tPre (va_A (shW cy ad cH σ u) sz) U U.heap)) (va_Ql (elemR cy X a b) (ShBk D cy ad cH σ (va_A (shW cy ad cH σ u) sz)) (va_A (shW cy ad cH σ u) sz)) (vx_X (fun u' : SU => SHL cy u' X) (elemX D cy ad cH σ (va_A (shW cy ad cH σ u) sz) X a b) (va_A (shW cy ad cH σ u) sz)) 1 6 (va_A (shW cy ad cH σ u) sz) := by
  refine vx_ofW (cc := cX11_element) (maxL := 5) (ret := some .long) (by decide) rfl ?_
  intro p e s m args below meth c s₁ B hml htab hv
  obtain ⟨rfl, hsz, ⟨hP, hK, hD0, hLB, hY⟩, hT⟩ := hv
  have hx := B.exec
  have hb := B.bytes
  have hr := B.returns
  have hlk := B.notSynchronized
  have hts := atoms_spec (ws := .code yX11_element cX11_element 5 (some .long) :: gThr) B.pre
  have hgT : ∀ w ∈ gThr, w.before [Value.ref (ad 0), .int a, .int b].toArray s = true := fun w hw => hts w (List.mem_cons_of_mem _ hw)
  have hg : ∀ w ∈ gAll, w.before [Value.ref (ad 0), .int a, .int b].toArray s = true := fun w hw => hgT w (gThr_l hw)
  have hown : s.vm.findClass RX11 = some m.cls := findClass_of_methodNamed B.named
  have hl := lv_entry ([.ref (ad 0), .int a, .int b]) (n := 5) (Nat.le_of_ble_eq_true rfl)
  rw [lg_entry_eq]
  generalize (lg_sl ([.ref (ad 0), .int a, .int b]) ++ List.replicate (5 - (lg_sl ([.ref (ad 0), .int a, .int b])).length) Slot.unset).toArray = ls at hl ⊢
  have hl : lv_has ls 5 [(0, .ref (ad 0)), (1, .int a), (2, .int b)] := hl
  subst hsz
  have hD := hD0.self (sz := s.heap.size)
  generalize hAe : va_A (shW cy ad cH σ u) s.heap.size = A at hD hLB hT ⊢
  have hA : ∀ q : Nat, s.heap.size ≤ q → A q := fun q h => by rw [← hAe]; exact Or.inr h
  have hS : va_S A s.heap s.heap [] := va_S.rf
  have hk' := K_tyl hK
  have hout : ∀ pc, ∀ x ∈ c.exceptionTable.toList, covers x pc = false := fun pc x hx => (htab x hx).elim
  show W p l e { frames := 6, cells := 1, slots := 6, locals := 82 } s m _ below meth c s.heap [] 0 0 _ _
  have gone : ∀ (E : String) (H : Heap) (locs : List Loc), va_P D vwCl (shW cy ad cH σ u) H → va_S A s.heap H locs → ((E = IAE ∧ ixI a 8 = none) ∨ (E = ISE ∧ ∃ d, a = nI d ∧ d < 8 ∧ ∀ j, ¬ elO (X d) b j)) → ∀ t : State, s.vm.Alike t.vm → H.size ≤ t.heap.size → (∀ q : Nat, q < H.size → t.heap[q]? = H[q]?) → vx_X (fun u' : SU => SHL cy u' X) (elemX D cy ad cH σ A X a b) A E s t := fun E H locs hP hS hE t hal hz hk => ⟨u, hX, ⟨⟨fun k q hq => (hP k q hq).kept (hk q.1 (hP k q hq).lt), va_K.moved hal hK, hD⟩, hE⟩, Nat.le_trans hS.1 hz, fun q hq hn => (hk q (Nat.lt_of_lt_of_le hq hS.1)).trans (hS.2.1 q hq hn)⟩
  refine lv_iload_n hx hb dX11_element_0 rfl (lv_at hl 1 rfl) ?_
  refine w_isShelf hx hb hml hown hg hK hP hD hS hA hLB ⟨Nat.le_of_ble_eq_true rfl, Nat.le_of_ble_eq_true rfl⟩ ⟨Nat.zero_le _, Nat.zero_le _⟩ hl.1 (Nat.le_of_ble_eq_true rfl) dX11_element_1 (fun z H locs hP hS => ?_) (fun d ed hd8 H locs hP hS => ?_)
  · refine lv_if_ne (tgt := 18) hx hb dX11_element_4 (by decide) (fun z => absurd rfl z) (fun _ => ?_)
    obtain ⟨sa, hsa⟩ := hT.2.1.2.1
    exact vx_throwSW (own := RX11) (cls := IAE) (text := "no such shelf") (names := nmT) (ik := 272) (is := 274) (ic := 276) (sa := sa) (A := A) hx hb hl9 hown (by decide) (by decide) (hg _ kw_534) (hg _ kw_535) hsa (hatA (fun w hw => hgT w (gThr_2 hw)) (by decide +kernel) hT) (by decide +kernel) hT.2.2.1 hT.2.2.2 hS (by rw [hml]; exact hl.1) dX11_element_7 dX11_element_10 dX11_element_11 dX11_element_14 dX11_element_17 (hout _) (by decide) (Nat.le_of_ble_eq_true rfl) (Nat.le_refl _) (Nat.le_refl _) hlk (gone IAE H locs hP hS (Or.inl ⟨rfl, z⟩)) hS.2.2 (Nat.le_refl _) (Nat.le_refl _)
  refine lv_if_ne (tgt := 18) hx hb dX11_element_4 (by decide) (fun _ => ?_) (fun z => absurd z (by decide))
  refine lv_aload_n hx hb dX11_element_18 rfl (lv_at hl 0 rfl) ?_
  refine wi_getr hx hb hg hown hk' (vaP_l hP) 0 5 37 rfl rfl cb_11 (by decide) kw_365 dX11_element_19 ?_
  refine lv_iload_n hx hb dX11_element_22 rfl (lv_at hl 1 rfl) ?_
  subst ed
  refine w_shelfAt hd8 hx hb hK hP dX11_element_23 ?_
  obtain ⟨hk8, s0, s1, s3⟩ := hX.1 d hd8
  have norow : (∀ j, ¬ elO (X d) b j) → ∀ (ls : Array Slot), ls.size = 5 → W p l e { frames := 6, cells := 1, slots := 6, locals := 82 } s m [Value.ref (ad 0), .int (nI d), .int b].toArray below meth c H locs 0 0 (vx_MQ below (va_Ql (elemR cy X (nI d) b) (ShBk D cy ad cH σ A) A) (vx_X (fun u' : SU => SHL cy u' X) (elemX D cy ad cH σ A X (nI d) b) A) [Value.ref (ad 0), .int (nI d), .int b].toArray s 1 6 A) (F0 m 72 ls []) := fun z ls h5 => by
    obtain ⟨sa, hsa⟩ := hT.2.1.2.2.2
    exact vx_throwSW (own := RX11) (cls := ISE) (text := "no row is held") (names := nmT) (ik := 282) (is := 287) (ic := 286) (sa := sa) (A := A) hx hb hl9 hown (by decide) (by decide) (hg _ kw_536) (hg _ kw_85) hsa (hatS (fun w hw => hgT w (gThr_3 hw)) (by decide +kernel) hT) (by decide +kernel) hT.2.2.1 hT.2.2.2 hS (by rw [hml]; exact h5) dX11_element_72 dX11_element_75 dX11_element_76 dX11_element_79 dX11_element_82 (hout _) (by decide) (Nat.le_of_ble_eq_true rfl) (Nat.le_refl _) (Nat.le_refl _) hlk (gone ISE H locs hP hS (Or.inr ⟨rfl, d, rfl, hd8, z⟩)) hS.2.2 (Nat.le_refl _) (Nat.le_refl _)
  by_cases t0 : (X d).1 = 0
  · rw [s0 t0]
    refine lv_astoreN (i := 4) hx hb dX11_element_24 hl (by decide) rfl (fun ls hl => ?_)
    have hl : lv_has ls 5 [(4, .null), (0, .ref (ad 0)), (1, .int (nI d)), (2, .int b)] := hl
    refine lv_aloadN hx hb dX11_element_26 (lv_at hl 0 rfl) ?_
    refine lv_instN hx hb dX11_element_28 ?_
    exact lv_if_eq (tgt := 72) hx hb dX11_element_31 (by decide) (fun _ => norow (fun j o => by have := o.1; omega) ls hl.1) (fun z => absurd rfl z)
  by_cases t1 : (X d).1 = 1
  · obtain ⟨a0, nu, ki, kl, so, f1, f2, f3, f4, f5⟩ := s1 t1
    rw [f1]
    refine lv_astore (i := 4) (x := a0) hx hb dX11_element_24 hl (by decide) rfl (fun ls hl => ?_)
    have hl : lv_has ls 5 [(4, .ref a0), (0, .ref (ad 0)), (1, .int (nI d)), (2, .int b)] := hl
    refine lv_aload hx hb dX11_element_26 (lv_at hl 0 rfl) ?_
    refine w_instCell f2 f3 hx hb hown hg hK hY hP dX11_element_28 ?_
    exact lv_if_eq (tgt := 72) hx hb dX11_element_31 (by decide) (fun _ => norow (fun j o => by have := o.1; omega) ls hl.1) (fun z => absurd rfl z)
  have t3 : 3 ≤ (X d).1 := by have := hk8.2; omega
  obtain ⟨a0, g, f1, f2, f3, f4, f5, f6⟩ := s3 t3
  rw [f1]
  refine lv_astore (i := 4) (x := a0) hx hb dX11_element_24 hl (by decide) rfl (fun ls hl => ?_)
  have hl : lv_has ls 5 [(4, .ref a0), (0, .ref (ad 0)), (1, .int (nI d)), (2, .int b)] := hl
  refine lv_aload hx hb dX11_element_26 (lv_at hl 0 rfl) ?_
  refine w_instRow f2 f4 hx hb hown hg hK hP dX11_element_28 ?_
  refine lv_if_eq (tgt := 72) hx hb dX11_element_31 (by decide) (fun z => absurd z (by decide)) (fun _ => ?_)
  refine lv_aload hx hb dX11_element_34 (lv_at hl 0 rfl) ?_
  refine w_castRow f2 f4 hx hb hown hg hK hP dX11_element_36 ?_
  refine lv_astore_n (i := 3) (x := a0) hx hb dX11_element_39 rfl hl (by decide) rfl (fun ls hl => ?_)
  have hl : lv_has ls 5 [(3, .ref a0), (4, .ref a0), (0, .ref (ad 0)), (1, .int (nI d)), (2, .int b)] := hl
  obtain ⟨q1, h1⟩ := sh_get (cy := cy) (ad := ad) (cH := cH) (σ := σ) (u := u) f3
  rw [f5] at h1
  have n60 := hk8.1
  have noplace : (∀ j, ¬ elO (X d) b j) → W p l e { frames := 6, cells := 1, slots := 6, locals := 82 } s m [Value.ref (ad 0), .int (nI d), .int b].toArray below meth c H locs 0 0 (vx_MQ below (va_Ql (elemR cy X (nI d) b) (ShBk D cy ad cH σ A) A) (vx_X (fun u' : SU => SHL cy u' X) (elemX D cy ad cH σ A X (nI d) b) A) [Value.ref (ad 0), .int (nI d), .int b].toArray s 1 6 A) (F0 m 61 ls []) := fun z => by
    obtain ⟨sa, hsa⟩ := hT.2.1.2.2.1
    exact vx_throwSW (own := RX11) (cls := ISE) (text := "the row has no such place") (names := nmT) (ik := 282) (is := 284) (ic := 286) (sa := sa) (A := A) hx hb hl9 hown (by decide) (by decide) (hg _ kw_536) (hg _ kw_85) hsa (hatS (fun w hw => hgT w (gThr_3 hw)) (by decide +kernel) hT) (by decide +kernel) hT.2.2.1 hT.2.2.2 hS (by rw [hml]; exact hl.1) dX11_element_61 dX11_element_64 dX11_element_65 dX11_element_68 dX11_element_71 (hout _) (by decide) (Nat.le_of_ble_eq_true rfl) (Nat.le_refl _) (Nat.le_refl _) hlk (gone ISE H locs hP hS (Or.inr ⟨rfl, d, rfl, hd8, z⟩)) hS.2.2 (Nat.le_refl _) (Nat.le_refl _)
  refine lv_iload_n hx hb dX11_element_40 rfl (lv_at hl 4 rfl) ?_
  refine lv_if_lt (tgt := 61) hx hb dX11_element_41 (by decide) (fun z => noplace (fun j o => by have := o.2.2; rw [o.2.1] at z; exact nI_pos (by omega) z)) (fun c0 => ?_)
  obtain ⟨j, hj31, ej⟩ := nI_of c0
  refine lv_iload_n hx hb dX11_element_44 rfl (lv_at hl 4 rfl) ?_
  refine lv_aload_n hx hb dX11_element_45 rfl (lv_at hl 0 rfl) ?_
  refine w_rowGet (j := 1) f2 f4 (by decide) rfl kw_509 hx hb hown hg hK hP dX11_element_46 ?_
  refine va_alen hx hb hK hP q1 0 h1 rfl rfl dX11_element_49 ?_
  have ge : (Int32.ofNat (X d).2.2.2.1 ≤ b) ↔ (X d).2.2.2.1 ≤ j := by rw [ej]; exact nI_leI (by omega) hj31
  refine lv_icmp_ge (tgt := 61) hx hb dX11_element_50 (by decide) (fun z => noplace (fun j' o => ?_)) (fun c1 => ?_)
  · have o3 := o.2.2
    have e1 : j' = j := nI_one hj31 (by omega) ej o.2.1
    have := ge.mp z
    omega
  have jlt : j < (X d).2.2.2.1 := Nat.lt_of_not_le (fun z => c1 (ge.mpr z))
  refine lv_aload_n hx hb dX11_element_53 rfl (lv_at hl 0 rfl) ?_
  refine w_rowGet (j := 1) f2 f4 (by decide) rfl kw_509 hx hb hown hg hK hP dX11_element_54 ?_
  refine lv_iload_n hx hb dX11_element_57 rfl (lv_at hl 4 rfl) ?_
  refine va_iald hx hb hK hP q1 0 h1 rfl (by rw [ej]; exact in_nI jlt (by omega)) dX11_element_58 ?_
  refine lv_i2l hx hb dX11_element_59 rfl ?_
  refine vx_ret ?_
  refine W.widen (k := 1) (n := 6) (Nat.zero_le _) (Nat.zero_le _) ?_
  exact W.lret hx hb hr (fun t ht hW => ⟨⟨_, u, rfl, ⟨hX, d, j, rfl, hd8, ⟨t3, ej, jlt⟩, by rw [ej, cl_nI hj31, f6 j jlt]⟩, by rw [ht]; exact hP, va_K.moved hW.alike hK, hD⟩, hS.F ht⟩) hS.2.2 dX11_element_60 hlk
