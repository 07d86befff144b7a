set_option maxHeartbeats 8000000 in
theorem c_X11_copy (l : Launch) (D : va_G) (cy : Nat → ClassId) (ad : Nat → Nat) (tL : Nat) (cH : ClassId) (σ : St) (u : SU) (X : Nat → Sf) (hX : SHL cy u X) (a1 a2 a3 a4 a5 : Int32) (sz : Nat) : Met l yX11_copy (.code yX11_copy cX11_copy 9 (some .int) :: gAll) { frames := 4, cells := 0, slots := 0, locals := 76 } (va_Pc [.ref (ad 0), .int a1, .int a2, .int a3, .int a4, .int a5] (fun U => U.heap.size = sz ∧ ShPre D cy ad tL cH σ u sz U)) (va_Qi (copyP cy X a1 a2 a3 a4 a5) (ShBk D cy ad cH σ (va_A (shW cy ad cH σ u) sz)) (va_A (shW cy ad cH σ u) sz)) 0 0 (va_A (shW cy ad cH σ u) sz) := by
  refine ent_met (by decide) (Nat.le_of_ble_eq_true rfl) ?_
  intro p e s m args below meth c hx hb hml hr hlk hg hown hnm hsz hB ls hl
  obtain ⟨hP, hK, hD0, hLB, hY⟩ := hB
  subst hsz
  have hown : s.vm.findClass RX11 = some m.cls := hown
  have hl : lv_has ls 9 [(0, .ref (ad 0)), (1, .int a1), (2, .int a2), (3, .int a3), (4, .int a4), (5, .int a5)] := hl
  have hD := hD0.self (sz := s.heap.size)
  generalize hAe : va_A (shW cy ad cH σ u) s.heap.size = A at hD hLB ⊢
  have hA : ∀ q : Nat, s.heap.size ≤ q → A q := fun q h => by rw [← hAe]; exact Or.inr h
  have hS : va_S A s.heap s.heap [] := va_S.rf
  have hk' := K_tyl hK
  have r1 : 1 ≤ ({ frames := 4, cells := 0, slots := 0, locals := 76 } : Room).frames ∧ 20 ≤ ({ frames := 4, cells := 0, slots := 0, locals := 76 } : Room).locals := ⟨Nat.le_of_ble_eq_true rfl, Nat.le_of_ble_eq_true rfl⟩
  have no : (ixI a1 8 = none ∨ ixI a3 8 = none) → ∀ (H : Heap) (locs : List Loc), va_P D vwCl (shW cy ad cH σ u) H → va_S A s.heap H locs → W p l e { frames := 4, cells := 0, slots := 0, locals := 76 } s m args below meth c H locs 0 0 (MQ below (va_Qi (copyP cy X a1 a2 a3 a4 a5) (ShBk D cy ad cH σ A) A) args s 0 0 A) (F0 m 14 ls []) := fun z H locs hP hS => by
    refine lv_iconst (v := (-1 : Int32)) hx hb dX11_copy_14 (by decide) ?_
    exact sh_iret hx hb hr hlk hK hP hD hS ⟨Nat.zero_le _, Nat.zero_le _⟩ dX11_copy_15 (Or.inl ⟨rfl, z, hX⟩)
  refine lv_iload_n hx hb dX11_copy_0 rfl (lv_at hl 1 rfl) ?_
  refine w_isShelf hx hb hml hown hg hK hP hD hS hA hLB r1 ⟨Nat.zero_le _, Nat.zero_le _⟩ hl.1 (Nat.le_of_ble_eq_true rfl) dX11_copy_1 (fun z H locs hP hS => ?_) (fun d ed hd8 H locs hP hS => ?_)
  · exact lv_if_eq (tgt := 14) hx hb dX11_copy_4 (by decide) (fun _ => no (Or.inl z) H locs hP hS) (fun z => absurd rfl z)
  refine lv_if_eq (tgt := 14) hx hb dX11_copy_4 (by decide) (fun z => absurd z (by decide)) (fun _ => ?_)
  refine lv_iload_n hx hb dX11_copy_7 rfl (lv_at hl 3 rfl) ?_
  refine w_isShelf hx hb hml hown hg hK hP hD hS hA hLB r1 ⟨Nat.zero_le _, Nat.zero_le _⟩ hl.1 (Nat.le_of_ble_eq_true rfl) dX11_copy_8 (fun z H locs hP hS => ?_) (fun e0 ee he8 H locs hP hS => ?_)
  · exact lv_if_ne (tgt := 16) hx hb dX11_copy_11 (by decide) (fun z => absurd rfl z) (fun _ => no (Or.inr z) H locs hP hS)
  refine lv_if_ne (tgt := 16) hx hb dX11_copy_11 (by decide) (fun _ => ?_) (fun z => absurd z (by decide))
  clear no
  subst ed
  subst ee
  have lp : copyP cy X (nI d) a2 (nI e0) a4 a5 = copyP cy X (nI d) a2 (nI e0) a4 a5 := rfl
  obtain ⟨kd, sd0, sd1, sd3⟩ := hX.1 d hd8
  obtain ⟨ke, se0, se1, se3⟩ := hX.1 e0 he8
  have empty : ((X d).1 = 0 ∨ (X e0).1 = 0) → ∀ (H : Heap) (locs : List Loc), va_P D vwCl (shW cy ad cH σ u) H → va_S A s.heap H locs → W p l e { frames := 4, cells := 0, slots := 0, locals := 76 } s m args below meth c H locs 0 0 (MQ below (va_Qi (copyP cy X (nI d) a2 (nI e0) a4 a5) (ShBk D cy ad cH σ A) A) args s 0 0 A) (F0 m 34 ls []) := fun z H locs hP hS => by
    refine lv_bipush (v := (-11 : Int32)) hx hb dX11_copy_34 (by decide) ?_
    exact sh_iret hx hb hr hlk hK hP hD hS ⟨Nat.zero_le _, Nat.zero_le _⟩ dX11_copy_36 (Or.inr ⟨d, e0, rfl, hd8, rfl, he8, Or.inl ⟨rfl, z, hX⟩⟩)
  have other : (X d).1 ≠ 0 → (X e0).1 ≠ 0 → ((X d).1 < 3 ∨ (X d).1 ≠ (X e0).1) → ∀ (H : Heap) (locs : List Loc) (ls : Array Slot), va_P D vwCl (shW cy ad cH σ u) H → va_S A s.heap H locs → W p l e { frames := 4, cells := 0, slots := 0, locals := 76 } s m args below meth c H locs 0 0 (MQ below (va_Qi (copyP cy X (nI d) a2 (nI e0) a4 a5) (ShBk D cy ad cH σ A) A) args s 0 0 A) (F0 m 143 ls []) := fun z1 z2 z3 H locs ls hP hS => by
    refine lv_bipush (v := (-12 : Int32)) hx hb dX11_copy_143 (by decide) ?_
    exact sh_iret hx hb hr hlk hK hP hD hS ⟨Nat.zero_le _, Nat.zero_le _⟩ dX11_copy_145 (Or.inr ⟨d, e0, rfl, hd8, rfl, he8, Or.inr (Or.inl ⟨rfl, z1, z2, z3, hX⟩)⟩)
  -- shelf d
  refine lv_aload_n hx hb dX11_copy_16 rfl (lv_at hl 0 rfl) ?_
  refine wi_getr hx hb hg hown hk' (vaP_l hP) 0 5 37 rfl rfl cb_11 (by decide) kw_365 dX11_copy_17 ?_
  refine lv_iload_n hx hb dX11_copy_20 rfl (lv_at hl 1 rfl) ?_
  refine w_shelfAt hd8 hx hb hK hP dX11_copy_21 ?_
  by_cases td0 : (X d).1 = 0
  · rw [sd0 td0]
    exact lv_ifnullN (tgt := 34) hx hb dX11_copy_22 (by decide) (empty (Or.inl td0) H locs hP hS)
  obtain ⟨ad0, had0⟩ : ∃ a0, u.1 d = some a0 := by
    by_cases t1 : (X d).1 = 1
    · obtain ⟨a0, nu, ki, kl, so, f1, -⟩ := sd1 t1; exact ⟨a0, f1⟩
    · obtain ⟨a0, g, f1, -⟩ := sd3 (by have := kd.2; omega); exact ⟨a0, f1⟩
  rw [had0]
  refine lv_ifnull (x := ad0) hx hb dX11_copy_22 ?_
  -- shelf e
  refine lv_aload_n hx hb dX11_copy_25 rfl (lv_at hl 0 rfl) ?_
  refine wi_getr hx hb hg hown hk' (vaP_l hP) 0 5 37 rfl rfl cb_11 (by decide) kw_365 dX11_copy_26 ?_
  refine lv_iload_n hx hb dX11_copy_29 rfl (lv_at hl 3 rfl) ?_
  refine w_shelfAt he8 hx hb hK hP dX11_copy_30 ?_
  by_cases te0 : (X e0).1 = 0
  · rw [se0 te0]
    exact lv_ifnonnullN hx hb dX11_copy_31 (empty (Or.inr te0) H locs hP hS)
  obtain ⟨ae0, hae0⟩ : ∃ a0, u.1 e0 = some a0 := by
    by_cases t1 : (X e0).1 = 1
    · obtain ⟨a0, nu, ki, kl, so, f1, -⟩ := se1 t1; exact ⟨a0, f1⟩
    · obtain ⟨a0, g, f1, -⟩ := se3 (by have := ke.2; omega); exact ⟨a0, f1⟩
  rw [hae0]
  refine lv_ifnonnull (x := ae0) (tgt := 37) hx hb dX11_copy_31 (by decide) ?_
  refine lv_aload_n hx hb dX11_copy_37 rfl (lv_at hl 0 rfl) ?_
  refine wi_getr hx hb hg hown hk' (vaP_l hP) 0 5 37 rfl rfl cb_11 (by decide) kw_365 dX11_copy_38 ?_
  refine lv_iload_n hx hb dX11_copy_41 rfl (lv_at hl 1 rfl) ?_
  refine w_shelfAt hd8 hx hb hK hP dX11_copy_42 ?_
  rw [had0]
  refine lv_astore (i := 8) (x := ad0) hx hb dX11_copy_43 hl (by decide) rfl (fun ls hl => ?_)
  have hl : lv_has ls 9 [(8, .ref ad0), (0, .ref (ad 0)), (1, .int (nI d)), (2, .int a2), (3, .int (nI e0)), (4, .int a4), (5, .int a5)] := hl
  refine lv_aload hx hb dX11_copy_45 (lv_at hl 0 rfl) ?_
  by_cases td1 : (X d).1 = 1
  · obtain ⟨a0, nu, ki, kl, so, f1, f2, f3, -⟩ := sd1 td1
    have ea : a0 = ad0 := Option.some.inj (f1.symm.trans had0)
    subst ea
    refine w_instCell f2 f3 hx hb hown hg hK hY hP dX11_copy_47 ?_
    exact lv_if_eq (tgt := 143) hx hb dX11_copy_50 (by decide) (fun _ => other td0 te0 (Or.inl (by omega)) H locs ls hP hS) (fun z => absurd rfl z)
  have td3 : 3 ≤ (X d).1 := by have := kd.2; omega
  obtain ⟨a0, gd, f1, f2, f3, f4, f5, f6⟩ := sd3 td3
  have ea : a0 = ad0 := Option.some.inj (f1.symm.trans had0)
  subst ea
  refine w_instRow f2 f4 hx hb hown hg hK hP dX11_copy_47 ?_
  refine lv_if_eq (tgt := 143) hx hb dX11_copy_50 (by decide) (fun z => absurd z (by decide)) (fun _ => ?_)
  refine lv_aload hx hb dX11_copy_53 (lv_at hl 0 rfl) ?_
  refine w_castRow f2 f4 hx hb hown hg hK hP dX11_copy_55 ?_
  refine lv_astore (i := 6) (x := a0) hx hb dX11_copy_58 hl (by decide) rfl (fun ls hl => ?_)
  have hl : lv_has ls 9 [(6, .ref a0), (8, .ref a0), (0, .ref (ad 0)), (1, .int (nI d)), (2, .int a2), (3, .int (nI e0)), (4, .int a4), (5, .int a5)] := hl
  refine lv_aload_n hx hb dX11_copy_60 rfl (lv_at hl 2 rfl) ?_
  refine wi_getr hx hb hg hown hk' (vaP_l hP) 0 5 37 rfl rfl cb_11 (by decide) kw_365 dX11_copy_61 ?_
  refine lv_iload_n hx hb dX11_copy_64 rfl (lv_at hl 5 rfl) ?_
  refine w_shelfAt he8 hx hb hK hP dX11_copy_65 ?_
  rw [hae0]
  refine lv_astore (i := 8) (x := ae0) hx hb dX11_copy_66 hl (by decide) rfl (fun ls hl => ?_)
  have hl : lv_has ls 9 [(8, .ref ae0), (6, .ref a0), (0, .ref (ad 0)), (1, .int (nI d)), (2, .int a2), (3, .int (nI e0)), (4, .int a4), (5, .int a5)] := hl
  refine lv_aload hx hb dX11_copy_68 (lv_at hl 0 rfl) ?_
  by_cases te1 : (X e0).1 = 1
  · obtain ⟨b0, nu, ki, kl, so, g1, g2, g3, -⟩ := se1 te1
    have eb : b0 = ae0 := Option.some.inj (g1.symm.trans hae0)
    subst eb
    refine w_instCell g2 g3 hx hb hown hg hK hY hP dX11_copy_70 ?_
    exact lv_if_eq (tgt := 143) hx hb dX11_copy_73 (by decide) (fun _ => other td0 te0 (Or.inr (by omega)) H locs ls hP hS) (fun z => absurd rfl z)
  have te3 : 3 ≤ (X e0).1 := by have := ke.2; omega
  obtain ⟨b0, ge, g1, g2, g3, g4, g5, g6⟩ := se3 te3
  have eb : b0 = ae0 := Option.some.inj (g1.symm.trans hae0)
  subst eb
  refine w_instRow g2 g4 hx hb hown hg hK hP dX11_copy_70 ?_
  refine lv_if_eq (tgt := 143) hx hb dX11_copy_73 (by decide) (fun z => absurd z (by decide)) (fun _ => ?_)
  refine lv_aload hx hb dX11_copy_76 (lv_at hl 0 rfl) ?_
  refine w_castRow g2 g4 hx hb hown hg hK hP dX11_copy_78 ?_
  refine lv_astore (i := 7) (x := b0) hx hb dX11_copy_81 hl (by decide) rfl (fun ls hl => ?_)
  have hl : lv_has ls 9 [(7, .ref b0), (8, .ref b0), (6, .ref a0), (0, .ref (ad 0)), (1, .int (nI d)), (2, .int a2), (3, .int (nI e0)), (4, .int a4), (5, .int a5)] := hl
  refine lv_aload hx hb dX11_copy_83 (lv_at hl 2 rfl) ?_
  refine w_rowGet (j := 0) f2 f4 (by decide) rfl kw_539 hx hb hown hg hK hP dX11_copy_85 ?_
  refine lv_aload hx hb dX11_copy_88 (lv_at hl 0 rfl) ?_
  refine w_rowGet (j := 0) g2 g4 (by decide) rfl kw_539 hx hb hown hg hK hP dX11_copy_90 ?_
  have kd2 := kd.2
  have ke2 := ke.2
  refine lv_icmp_ne (tgt := 143) hx hb dX11_copy_93 (by decide) (fun z => other td0 te0 (Or.inr (fun y => z (by rw [y]))) H locs ls hP hS) (fun z => ?_)
  have eq : (X d).1 = (X e0).1 := (nI_eq (by omega) (by omega)).mp z
  have place : ((∀ i0 n0, ¬ spn (X d).2.2.2.1 a2 a5 i0 n0) ∨ (∀ j0 n0, ¬ spn (X e0).2.2.2.1 a4 a5 j0 n0)) → ∀ (H : Heap) (locs : List Loc), va_P D vwCl (shW cy ad cH σ u) H → va_S A s.heap H locs → W p l e { frames := 4, cells := 0, slots := 0, locals := 76 } s m args below meth c H locs 0 0 (MQ below (va_Qi (copyP cy X (nI d) a2 (nI e0) a4 a5) (ShBk D cy ad cH σ A) A) args s 0 0 A) (F0 m 119 ls []) := fun z H locs hP hS => by
    refine lv_bipush (v := (-13 : Int32)) hx hb dX11_copy_119 (by decide) ?_
    exact sh_iret hx hb hr hlk hK hP hD hS ⟨Nat.zero_le _, Nat.zero_le _⟩ dX11_copy_121 (Or.inr ⟨d, e0, rfl, hd8, rfl, he8, Or.inr (Or.inr (Or.inl ⟨rfl, td3, eq, z, hX⟩))⟩)
  have r2 : 1 ≤ ({ frames := 4, cells := 0, slots := 0, locals := 76 } : Room).frames ∧ 22 ≤ ({ frames := 4, cells := 0, slots := 0, locals := 76 } : Room).locals := ⟨Nat.le_of_ble_eq_true rfl, Nat.le_of_ble_eq_true rfl⟩
  refine lv_aload hx hb dX11_copy_96 (lv_at hl 2 rfl) ?_
  refine lv_iload_n hx hb dX11_copy_98 rfl (lv_at hl 5 rfl) ?_
  refine lv_iload hx hb dX11_copy_99 (lv_at hl 8 rfl) ?_
  refine w_span f2 f3 f4 f5 kd.1 hx hb hml hown hg hK hP hS hA r2 ⟨Nat.zero_le _, Nat.zero_le _⟩ hl.1 (Nat.le_of_ble_eq_true rfl) dX11_copy_101 (fun z H locs hP hS => ?_) (fun i0 n0 o1 H locs hP hS => ?_)
  · exact lv_if_eq (tgt := 119) hx hb dX11_copy_104 (by decide) (fun _ => place (Or.inl z) H locs hP hS) (fun z => absurd rfl z)
  refine lv_if_eq (tgt := 119) hx hb dX11_copy_104 (by decide) (fun z => absurd z (by decide)) (fun _ => ?_)
  refine lv_aload hx hb dX11_copy_107 (lv_at hl 0 rfl) ?_
  refine lv_iload hx hb dX11_copy_109 (lv_at hl 7 rfl) ?_
  refine lv_iload hx hb dX11_copy_111 (lv_at hl 8 rfl) ?_
  refine w_span g2 g3 g4 g5 ke.1 hx hb hml hown hg hK hP hS hA r2 ⟨Nat.zero_le _, Nat.zero_le _⟩ hl.1 (Nat.le_of_ble_eq_true rfl) dX11_copy_113 (fun z H locs hP hS => ?_) (fun j0 n1 o2 H locs hP hS => ?_)
  · exact lv_if_ne (tgt := 122) hx hb dX11_copy_116 (by decide) (fun z => absurd rfl z) (fun _ => place (Or.inr z) H locs hP hS)
  refine lv_if_ne (tgt := 122) hx hb dX11_copy_116 (by decide) (fun _ => ?_) (fun z => absurd z (by decide))
  have kd1 := kd.1
  have ke1 := ke.1
  have o13 := o1.2.2
  have o23 := o2.2.2
  have en : n1 = n0 := (nI_eq (by omega) (by omega)).mp (by rw [← o2.2.1, o1.2.1])
  subst en
  refine lv_aload hx hb dX11_copy_122 (lv_at hl 2 rfl) ?_
  refine w_rowGet (j := 1) f2 f4 (by decide) rfl kw_509 hx hb hown hg hK hP dX11_copy_124 ?_
  refine lv_iload_n hx hb dX11_copy_127 rfl (lv_at hl 5 rfl) ?_
  refine lv_aload hx hb dX11_copy_128 (lv_at hl 0 rfl) ?_
  refine w_rowGet (j := 1) g2 g4 (by decide) rfl kw_509 hx hb hown hg hK hP dX11_copy_130 ?_
  refine lv_iload hx hb dX11_copy_133 (lv_at hl 7 rfl) ?_
  refine lv_iload hx hb dX11_copy_135 (lv_at hl 8 rfl) ?_
  obtain ⟨q0, h0⟩ := sh_get (cy := cy) (ad := ad) (cH := cH) (σ := σ) (u := u) f3
  obtain ⟨q1, h1⟩ := sh_get (cy := cy) (ad := ad) (cH := cH) (σ := σ) (u := u) g3
  have h0' := h0
  have h1' := h1
  rw [f5] at h0'
  rw [g5] at h1'
  have c2 : a2.toNatClampNeg = i0 := by rw [o1.1]; exact cl_nI (by omega)
  have c4 : a4.toNatClampNeg = j0 := by rw [o2.1]; exact cl_nI (by omega)
  have c5 : a5.toNatClampNeg = n1 := by rw [o2.2.1]; exact cl_nI (by omega)
  refine va_copyi hx hb (by rw [hml]; exact hl.1.symm) hown (hg _ kw_515) (hg _ kw_516) (hg _ kw_517) (hg _ kw_518) hK hP hD hS q0 q1 0 0 h0' h1' rfl rfl rfl (by rw [o1.1]; exact nI_pos (by omega)) (by rw [o2.1]; exact nI_pos (by omega)) (by rw [o2.2.1]; exact nI_pos (by omega)) (by rw [c2, c5]; exact o13) (by rw [c4, c5]; exact o23) (fun i _ => rfl) (Nat.le_of_ble_eq_true rfl) (Nat.le_of_ble_eq_true rfl) dX11_copy_137 (fun H locs hP hD hS => ?_)
  rw [sh_setp hD0 g3 h1, c2, c4, c5] at hP hD
  refine lv_iload hx hb dX11_copy_140 (lv_at hl 8 rfl) ?_
  refine sh_iret hx hb hr hlk hK hP hD hS ⟨Nat.zero_le _, Nat.zero_le _⟩ dX11_copy_142 (Or.inr ⟨d, e0, rfl, hd8, rfl, he8, Or.inr (Or.inr (Or.inr ⟨rfl, i0, j0, n1, td3, eq, o1, o2, SHL_cp (x := cpS (X d) (X e0) i0 j0 n1) hX he8 te3 rfl rfl (fun j hj => ?_)⟩))⟩)
  have hj : j < (X e0).2.2.2.1 := hj
  show (if j0 ≤ j ∧ j < j0 + n1 then gd (i0 + (j - j0)) else ge j) = if j0 ≤ j ∧ j < j0 + n1 then (X d).2.2.2.2 (i0 + (j - j0)) else (X e0).2.2.2.2 j
  by_cases y : j0 ≤ j ∧ j < j0 + n1
  · rw [if_pos y, if_pos y]; exact f6 _ (by omega)
  · rw [if_neg y, if_neg y]; exact g6 j hj
