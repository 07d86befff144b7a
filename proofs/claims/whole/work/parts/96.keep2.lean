def keepP (cy : Nat → ClassId) (X : Nat → Sf) (N : Ne) (r : Ru) (a b c : Int32) (v : Int32) (u' : SU) : Prop :=
  (v = -1 ∧ (ixI a 8 = none ∨ ∀ q k, ¬ kpO N b c q k) ∧ SHL cy u' X) ∨ (v = 0 ∧ ∃ d q k, a = nI d ∧ d < 8 ∧ kpO N b c q k ∧ SHL cy u' (fu X d (kpS N r q k)))
theorem vw_RX11_260 : VWd RX11 260 yX11_rowOfValues cX11_rowOfValues 3 (some (.object "ClockCourt$Row")) 0 := ⟨kw_525, kw_526, kw_527, kw_390, kw_512, by decide, by decide, by decide +kernel⟩
theorem vw_RX11_264 : VWd RX11 264 yX11_rowOfClocks cX11_rowOfClocks 2 (some (.object "ClockCourt$Row")) 0 := ⟨kw_528, kw_529, kw_530, kw_390, kw_513, by decide, by decide, by decide +kernel⟩
theorem hwg_N {σ : St} {N : Ne} {k : Nat} (hN : CN σ N) (hW : WN N) (hk : k < nn N) : hwg (nI k) (σ.1 8 k) (σ.1 10 k) = nI (wgt N k) ∧ hfl (σ.1 8 k) (σ.1 9 k) = flr N k := by
  have h24 := hW.1
  have k6 := hW.2.1 k hk
  have q1 : (nI k : Int32) + 1 = nI (k + 1) := nI_1 k
  rw [hN.2.2.1 k hk, hN.2.2.2.1 k hk, hN.2.2.2.2.1 k hk]
  have hne : ∀ x y : Nat, x < 7 → y < 7 → x ≠ y → (nI x : Int32) ≠ nI y := fun x y hx hy z e => z ((nI_eq (by omega) (by omega)).mp e)
  constructor
  · unfold hwg wgt
    by_cases z6 : nk N k = 6
    · rw [if_pos (by rw [z6]; rfl), if_neg (by omega), if_neg (by omega), if_neg (by omega), if_neg (by omega), q1, show (100 : Int32) = nI 100 from rfl, show (5 : Int32) = nI 5 from rfl, nI_add, nI_add, nI_add]
    · rw [if_neg (show ¬ (nI (nk N k) : Int32) = 6 from hne _ 6 (by omega) (by omega) z6)]
      by_cases z5 : nk N k = 5
      · rw [if_pos (by rw [z5]; rfl), if_neg (by omega), if_neg (by omega), if_pos z5, q1, show (100 : Int32) = nI 100 from rfl, nI_add]
      · rw [if_neg (show ¬ (nI (nk N k) : Int32) = 5 from hne _ 5 (by omega) (by omega) z5)]
        by_cases z4 : nk N k = 4
        · rw [if_pos (by rw [z4]; rfl), if_pos z4, q1, show (10 : Int32) = nI 10 from rfl, nI_add, show (3 : Int32) = nI 3 from rfl, pk_mul]
        · rw [if_neg (show ¬ (nI (nk N k) : Int32) = 4 from hne _ 4 (by omega) (by omega) z4), if_neg z4, if_pos (by omega), q1, show (10 : Int32) = nI 10 from rfl, nI_add]
  · unfold hfl flr
    by_cases z : 4 < nk N k
    · rw [if_neg (show ¬ (nI (nk N k) : Int32) < 5 from fun y => absurd ((nI_ltI (by omega) (by omega)).mp (show (nI (nk N k) : Int32) < nI 5 from y)) (by omega)), if_pos z, if_pos z]
    · rw [if_pos (show (nI (nk N k) : Int32) < 5 from (show (nI (nk N k) : Int32) < nI 5 from (nI_ltI (by omega) (by omega)).mpr (by omega))), if_neg z]
set_option maxHeartbeats 4000000 in
theorem c_X11_keep (l : Launch) (D : va_G) (cy : Nat → ClassId) (ad : Nat → Nat) (tL : Nat) (cH : ClassId) (σ : St) (u : SU) (X : Nat → Sf) (hX : SHL cy u X) (N : Ne) (bd : Nat → Nat) (r : Ru) (hN : CN σ N) (hW : WN N) (hR : CRu σ N bd r) (hR60 : r.1 ≤ 60) (a b k : Int32) (sz : Nat) : Met l yX11_keep (.code yX11_keep cX11_keep 4 (some .int) :: gAll) { frames := 4, cells := 2, slots := 62, locals := 76 } (va_Pc [.ref (ad 0), .int a, .int b, .int k] (fun U => U.heap.size = sz ∧ ShPre D cy ad tL cH σ u sz U)) (va_Qi (keepP cy X N r a b k) (ShBk D cy ad cH σ (va_A (shW cy ad cH σ u) sz)) (va_A (shW cy ad cH σ u) sz)) 2 62 (va_A (shW cy ad cH σ u) sz) := by
  refine ent_met (by decide) (Nat.le_of_ble_eq_true rfl) ?_
  intro p e s m args below meth c hx hb hml hr hlk hg hown hnm hsz hB ls hl
  obtain ⟨hP, hK, hD0, hLB, hY⟩ := hB
  subst hsz
  have h24 := hW.1
  have hown : s.vm.findClass RX11 = some m.cls := hown
  have hl : lv_has ls 4 [(0, .ref (ad 0)), (1, .int a), (2, .int b), (3, .int k)] := hl
  have hD := hD0.self (sz := s.heap.size)
  generalize hAe : va_A (shW cy ad cH σ u) s.heap.size = A at hD hLB ⊢
  have hA : ∀ q : Nat, s.heap.size ≤ q → A q := fun q h => by rw [← hAe]; exact Or.inr h
  have hS : va_S A s.heap s.heap [] := va_S.rf
  have hk' := K_tyl hK
  refine lv_iload_n hx hb dX11_keep_0 rfl (lv_at hl 1 rfl) ?_
  refine w_isShelf hx hb hml hown hg hK hP hD hS hA hLB ⟨Nat.le_of_ble_eq_true rfl, Nat.le_of_ble_eq_true rfl⟩ ⟨Nat.zero_le _, Nat.zero_le _⟩ hl.1 (Nat.le_of_ble_eq_true rfl) dX11_keep_1 (fun z H locs hP hS => ?_) (fun d ed hd8 H locs hP hS => ?_)
  · refine lv_if_ne (tgt := 9) hx hb dX11_keep_4 (by decide) (fun z => absurd rfl z) (fun _ => ?_)
    refine lv_iconst (v := (-1 : Int32)) hx hb dX11_keep_7 (by decide) ?_
    exact sh_iret hx hb hr hlk hK hP hD hS ⟨Nat.zero_le _, Nat.zero_le _⟩ dX11_keep_8 (Or.inl ⟨rfl, Or.inl z, hX⟩)
  refine lv_if_ne (tgt := 9) hx hb dX11_keep_4 (by decide) (fun _ => ?_) (fun z => absurd z (by decide))
  refine lv_iload_n hx hb dX11_keep_9 rfl (lv_at hl 2 rfl) ?_
  have yes : ∀ (q k0 : Nat), kpO N b k q k0 → ∀ (u1 : SU) (pc cells slots : Nat) (H : Heap) (locs : List Loc), cells ≤ 2 ∧ slots ≤ 62 → decode cX11_keep pc = .ok (.iconst 0, 1) → decode cX11_keep (pc + 1) = .ok (.ireturn, 1) → SHL cy u1 (fu X d (kpS N r q k0)) → va_P D vwCl (shW cy ad cH σ u1) H → va_D A (shW cy ad cH σ u1) → va_S A s.heap H locs → W p l e { frames := 4, cells := 2, slots := 62, locals := 76 } s m args below meth c H locs cells slots (MQ below (va_Qi (keepP cy X N r a b k) (ShBk D cy ad cH σ A) A) args s 2 62 A) (F0 m pc ls []) := by
    intro q k0 o u1 pc cells slots H locs hc d1 d2 hu hP hD hS
    refine lv_iconst (v := (0 : Int32)) hx hb d1 (by decide) ?_
    exact sh_iret hx hb hr hlk hK hP hD hS hc d2 (Or.inr ⟨rfl, d, q, k0, ed, hd8, o, hu⟩)
  have no : (∀ q k0, ¬ kpO N b k q k0) → ∀ (pc : Nat) (H : Heap) (locs : List Loc), decode cX11_keep pc = .ok (.iconst (-1), 1) → decode cX11_keep (pc + 1) = .ok (.ireturn, 1) → va_P D vwCl (shW cy ad cH σ u) H → va_S A s.heap H locs → W p l e { frames := 4, cells := 2, slots := 62, locals := 76 } s m args below meth c H locs 0 0 (MQ below (va_Qi (keepP cy X N r a b k) (ShBk D cy ad cH σ A) A) args s 2 62 A) (F0 m pc ls []) := by
    intro o pc H locs d1 d2 hP hS
    refine lv_iconst (v := (-1 : Int32)) hx hb d1 (by decide) ?_
    exact sh_iret hx hb hr hlk hK hP hD hS ⟨Nat.zero_le _, Nat.zero_le _⟩ d2 (Or.inl ⟨rfl, Or.inr o, hX⟩)
  have noq : b ≠ 0 → b ≠ 3 → b ≠ 4 → (b = 1 → ixI k (nn N) = none) → ∀ q k0, ¬ kpO N b k q k0 := by
    intro n0 n3 n4 n1 q k0 o
    obtain ⟨e, o⟩ := o
    rcases o with rfl | ⟨rfl, ek, hk⟩ | rfl | rfl
    · exact n0 e
    · have := n1 e
      rw [ek, ixI_nI (by omega) hk] at this; cases this
    · exact n3 e
    · exact n4 e
  by_cases b0 : b = 0
  · have eb := b0
    subst b0
    refine lv_tableIn (tgt := 44) hx hb dX11_keep_10 (by decide) (by decide) rfl (by decide) ?_
    refine lv_aload_n hx hb dX11_keep_44 rfl (lv_at hl 0 rfl) ?_
    refine wi_getr hx hb hg hown hk' (vaP_l hP) 0 5 37 rfl rfl cb_11 (by decide) kw_365 dX11_keep_45 ?_
    refine lv_iload_n hx hb dX11_keep_48 rfl (lv_at hl 1 rfl) ?_
    refine lv_null hx hb dX11_keep_49 ?_
    rw [ed]
    refine w_noneStore hd8 hx hb hK hP hD hS dX11_keep_50 (fun u1 H locs hu hP hD hS => ?_)
    rw [ed] at yes
    refine yes 0 0 ⟨rfl, Or.inl rfl⟩ u1 51 0 0 H locs ⟨Nat.zero_le _, Nat.zero_le _⟩ dX11_keep_51 dX11_keep_52 (hu X _ hX (shk_kp hW hR60) ?_) hP hD hS
    unfold kpS; rw [if_pos rfl]
  by_cases b1 : b = 1
  · subst b1
    refine lv_tableIn (tgt := 53) hx hb dX11_keep_10 (by decide) (by decide) rfl (by decide) ?_
    refine lv_aload_n hx hb dX11_keep_53 rfl (lv_at hl 0 rfl) ?_
    refine wi_getr hx hb hg hown hk' (vaP_l hP) 0 0 1 rfl rfl cb_11 (by decide) kw_349 dX11_keep_54 ?_
    refine lv_iload_n hx hb dX11_keep_57 rfl (lv_at hl 3 rfl) ?_
    refine wg_callVi (As := [.int k]) (k := 1) (rest := []) (c_X4_isCell l D cy ad tL σ k (fun v => (v = 0 ∧ ixI k (nn N) = none) ∨ (v = 1 ∧ ∃ k0, k = nI k0 ∧ k0 < nn N)) (c_isCell hN.1 hW (fun g => Or.inl ⟨rfl, g⟩) (fun k0 ek hk => Or.inr ⟨rfl, k0, ek, hk⟩))) vw_RX11_67 rfl cb_4 hx hb hml hown hg hk' (vaP_l hP) (vaP_r hP) hD hS hA hLB rfl ⟨Nat.le_of_ble_eq_true rfl, Nat.le_of_ble_eq_true rfl⟩ ⟨Nat.zero_le _, Nat.zero_le _⟩ hl.1 rfl (Nat.le_of_ble_eq_true rfl) dX11_keep_58 (fun v uu hvu H locs hP1 hP2 hD hS => ?_)
    obtain ⟨hv, rfl⟩ := hvu
    have hP : va_P D vwCl (shW cy ad cH σ u) H := va_P.app hP1 hP2
    rcases hv with ⟨rfl, z⟩ | ⟨rfl, k0, ek, hk⟩
    · refine lv_if_ne (tgt := 66) hx hb dX11_keep_61 (by decide) (fun z => absurd rfl z) (fun _ => ?_)
      exact no (noq (by decide) (by decide) (by decide) (fun _ => z)) 64 H locs dX11_keep_64 dX11_keep_65 hP hS
    refine lv_if_ne (tgt := 66) hx hb dX11_keep_61 (by decide) (fun _ => ?_) (fun z => absurd z (by decide))
    refine lv_aload_n hx hb dX11_keep_66 rfl (lv_at hl 0 rfl) ?_
    refine wi_getr hx hb hg hown hk' (vaP_l hP) 0 5 37 rfl rfl cb_11 (by decide) kw_365 dX11_keep_67 ?_
    refine lv_iload_n hx hb dX11_keep_70 rfl (lv_at hl 1 rfl) ?_
    refine va_new (ci := 1) (fs := [.int 0, .int 0, .int 0, .int 0]) (C := RX3) (T := TX3) (N := 4) hx hb hg ku_X3 tyX3 tyX3_ok hown (hg _ kw_519) (hg _ kw_520) (hg _ kw_89) hK hP hD hS hA rfl (fun j hj => by rcases (show j = 0 ∨ j = 1 ∨ j = 2 ∨ j = 3 by omega) with rfl | rfl | rfl | rfl <;> rfl) (Nat.le_of_ble_eq_true rfl) (Nat.le_of_ble_eq_true rfl) dX11_keep_71 (fun qq H hP hD hS => ?_)
    refine lv_dup hx hb dX11_keep_74 rfl ?_
    refine lv_aload_n hx hb dX11_keep_75 rfl (lv_at hl 0 rfl) ?_
    refine wi_getr hx hb hg hown hk' (vaP_l (vaP_l hP)) 0 0 1 rfl rfl cb_11 (by decide) kw_349 dX11_keep_76 ?_
    refine lv_iload_n hx hb dX11_keep_79 rfl (lv_at hl 3 rfl) ?_
    refine w_cellInit (by rw [ek]; exact in_nI (show k0 < 24 by omega) (by decide)) hx hb hml hown hg hK hY hP hD hS hA ⟨Nat.le_of_ble_eq_true rfl, Nat.le_of_ble_eq_true rfl⟩ ⟨Nat.le_of_ble_eq_true rfl, Nat.le_of_ble_eq_true rfl⟩ hl.1 (Nat.le_of_ble_eq_true rfl) dX11_keep_80 (fun H locs hP hD hS => ?_)
    have ck : k.toNatClampNeg = k0 := by rw [ek]; exact cl_nI (by omega)
    rw [ck] at hP hD
    obtain ⟨w1, w2⟩ := hwg_N hN hW hk
    rw [← ek] at w1
    rw [ed]
    refine w_cellStore hd8 hx hb hK hY hP hD hS dX11_keep_83 (fun u1 H locs hu hP hD hS => ?_)
    rw [ed] at yes
    refine yes 1 k0 ⟨rfl, Or.inr (Or.inl ⟨rfl, ek, hk⟩)⟩ u1 84 _ _ H locs ⟨Nat.le_of_ble_eq_true rfl, Nat.le_of_ble_eq_true rfl⟩ dX11_keep_84 dX11_keep_85 (hu X _ hX (shk_kp hW hR60) ?_ ?_ ?_) hP hD hS
    · unfold kpS; rw [if_neg (by decide), if_pos rfl]
    · unfold kpS; rw [if_neg (by decide), if_pos rfl]; exact w1
    · unfold kpS; rw [if_neg (by decide), if_pos rfl]; exact w2
  by_cases b3 : b = 3
  · subst b3
    refine lv_tableIn (tgt := 86) hx hb dX11_keep_10 (by decide) (by decide) rfl (by decide) ?_
    refine lv_aload_n hx hb dX11_keep_86 rfl (lv_at hl 0 rfl) ?_
    refine wi_getr hx hb hg hown hk' (vaP_l hP) 0 5 37 rfl rfl cb_11 (by decide) kw_365 dX11_keep_87 ?_
    refine lv_iload_n hx hb dX11_keep_90 rfl (lv_at hl 1 rfl) ?_
    refine lv_aload_n hx hb dX11_keep_91 rfl (lv_at hl 0 rfl) ?_
    refine w_rowCall (n := nn N) (o := 3) (vals := fun j => bI (EV N (r.2.1 r.1) j)) (fun sz => c_X11_rowOfValues l D cy ad tL σ sz (nn N) _ hN.1 (by omega) (fun j hj => ?_)) vw_RX11_260 cb_11 hx hb hml hown hg hK hY hP hD hS hA hLB ⟨Nat.le_of_ble_eq_true rfl, Nat.le_of_ble_eq_true rfl⟩ ⟨Nat.le_of_ble_eq_true rfl, by show 0 + (nn N + 2) ≤ 62; omega⟩ hl.1 (Nat.le_of_ble_eq_true rfl) dX11_keep_92 (fun qq bb g H locs hgv hP hD hS => ?_)
    · unfold w_X7_bitsNow
      refine rd_of r.1 hR.1 (by omega) (by decide) ?_
      exact c_valueOf hN hW rfl hj (hR.2.1 r.1 (Nat.le_refl _)) rfl
    rw [ed]
    refine w_rowStore hd8 hx hb hK hY hP hD hS dX11_keep_95 (fun u1 H locs hu hP hD hS => ?_)
    rw [ed] at yes
    refine yes 3 0 ⟨rfl, Or.inr (Or.inr (Or.inl rfl))⟩ u1 96 _ _ H locs ⟨Nat.le_of_ble_eq_true rfl, by show 0 + (nn N + 2) ≤ 62; omega⟩ dX11_keep_96 dX11_keep_97 (hu X _ hX (shk_kp hW hR60) ?_ ?_ ?_ ?_) hP hD hS
    · unfold kpS; rw [if_neg (by decide), if_neg (by decide), if_pos rfl]; exact Nat.le_refl _
    · unfold kpS; rw [if_neg (by decide), if_neg (by decide), if_pos rfl]; rfl
    · unfold kpS; rw [if_neg (by decide), if_neg (by decide), if_pos rfl]
    · unfold kpS; rw [if_neg (by decide), if_neg (by decide), if_pos rfl]; exact hgv
  by_cases b4 : b = 4
  · subst b4
    refine lv_tableIn (tgt := 98) hx hb dX11_keep_10 (by decide) (by decide) rfl (by decide) ?_
    refine lv_aload_n hx hb dX11_keep_98 rfl (lv_at hl 0 rfl) ?_
    refine wi_getr hx hb hg hown hk' (vaP_l hP) 0 5 37 rfl rfl cb_11 (by decide) kw_365 dX11_keep_99 ?_
    refine lv_iload_n hx hb dX11_keep_102 rfl (lv_at hl 1 rfl) ?_
    refine lv_aload_n hx hb dX11_keep_103 rfl (lv_at hl 0 rfl) ?_
    refine w_rowCall (n := r.1) (o := 4) (vals := σ.1 24) (fun sz => c_X11_rowOfClocks l D cy ad tL σ sz r.1 hR.1 hR60) vw_RX11_264 cb_11 hx hb hml hown hg hK hY hP hD hS hA hLB ⟨Nat.le_of_ble_eq_true rfl, Nat.le_of_ble_eq_true rfl⟩ ⟨Nat.le_of_ble_eq_true rfl, by show 0 + (r.1 + 2) ≤ 62; omega⟩ hl.1 (Nat.le_of_ble_eq_true rfl) dX11_keep_104 (fun qq bb g H locs hgv hP hD hS => ?_)
    rw [ed]
    refine w_rowStore hd8 hx hb hK hY hP hD hS dX11_keep_107 (fun u1 H locs hu hP hD hS => ?_)
    rw [ed] at yes
    refine yes 4 0 ⟨rfl, Or.inr (Or.inr (Or.inr rfl))⟩ u1 108 _ _ H locs ⟨Nat.le_of_ble_eq_true rfl, by show 0 + (r.1 + 2) ≤ 62; omega⟩ dX11_keep_108 dX11_keep_109 (hu X _ hX (shk_kp hW hR60) ?_ ?_ ?_ ?_) hP hD hS
    · unfold kpS; rw [if_neg (by decide), if_neg (by decide), if_neg (by decide)]; exact (by decide : 3 ≤ 4)
    · unfold kpS; rw [if_neg (by decide), if_neg (by decide), if_neg (by decide)]; rfl
    · unfold kpS; rw [if_neg (by decide), if_neg (by decide), if_neg (by decide)]
    · unfold kpS; rw [if_neg (by decide), if_neg (by decide), if_neg (by decide)]
      intro j hj
      rw [hgv j hj]; exact hR.2.2.1 j hj
  have fin := no (noq b0 b3 b4 (fun z => absurd z b1)) 110 H locs dX11_keep_110 dX11_keep_111 hP hS
  by_cases b2 : b = 2
  · subst b2
    exact lv_tableIn (tgt := 110) hx hb dX11_keep_10 (by decide) (by decide) rfl (by decide) fin
  have e0 : b.toInt ≠ 0 := fun z => b0 (Int32.toInt_inj.mp z)
  have e1 : b.toInt ≠ 1 := fun z => b1 (Int32.toInt_inj.mp z)
  have e2 : b.toInt ≠ 2 := fun z => b2 (Int32.toInt_inj.mp z)
  have e3 : b.toInt ≠ 3 := fun z => b3 (Int32.toInt_inj.mp z)
  have e4 : b.toInt ≠ 4 := fun z => b4 (Int32.toInt_inj.mp z)
  exact lv_tableOut (tgt := 110) hx hb dX11_keep_10 (by omega) (by decide) fin
