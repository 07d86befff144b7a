/-! HeldCell -/
abbrev heC (a b c d : Int32) : va_E := .inr (1, [.int a, .int b, .int c, .int d])
theorem c_X3_init (l : Launch) (D : va_G) (cy : Nat → ClassId) (ad : Nat → Nat) (σ : St) (h0 sz : Nat) (k : Int32) (hk : vp_in k 24) : Met l yX3_init (.code yX3_init cX3_init 3 none :: gAll) { frames := 2, cells := 0, slots := 0, locals := 32 } (va_Pc [.ref h0, .ref (ad 1), .int k] (fun U => U.heap.size = sz ∧ va_P D vwCl ([(h0, heC 0 0 0 0)] ++ wld cy ad dsC σ) U.heap ∧ va_K D vwCl (tyl cy) U ∧ va_D (fun _ => True) ([(h0, heC 0 0 0 0)] ++ wld cy ad dsC σ) ∧ yPre U)) (va_Qv (fun _ : Unit => True) (fun _ t => va_P D vwCl ([(h0, heC k (σ.1 8 k.toNatClampNeg) (σ.1 9 k.toNatClampNeg) (σ.1 10 k.toNatClampNeg))] ++ wld cy ad dsC σ) t.heap ∧ va_K D vwCl (tyl cy) t ∧ va_D (va_A ([(h0, heC 0 0 0 0)] ++ wld cy ad dsC σ) sz) ([(h0, heC k (σ.1 8 k.toNatClampNeg) (σ.1 9 k.toNatClampNeg) (σ.1 10 k.toNatClampNeg))] ++ wld cy ad dsC σ)) (va_A ([(h0, heC 0 0 0 0)] ++ wld cy ad dsC σ) sz)) 0 0 (va_A ([(h0, heC 0 0 0 0)] ++ wld cy ad dsC σ) sz) := by
  refine ent_met (by decide) (Nat.le_of_ble_eq_true rfl) ?_
  intro p e s m args below meth c hx hb hml hr hlk hg hown hnm hsz hB ls hl
  obtain ⟨hP, hK, hD0, hY⟩ := hB
  subst hsz
  have hown : s.vm.findClass RX3 = some m.cls := hown
  have hl : lv_has ls 3 [(0, .ref h0), (1, .ref (ad 1)), (2, .int k)] := hl
  have hD := hD0.self (sz := s.heap.size)
  generalize hAe : va_A ([(h0, heC 0 0 0 0)] ++ wld cy ad dsC σ) s.heap.size = A at hD ⊢
  have hA : ∀ q : Nat, s.heap.size ≤ q → A q := fun q h => by rw [← hAe]; exact Or.inr h
  have hS : va_S A s.heap s.heap [] := va_S.rf
  refine lv_aload_n hx hb dX3_init_0 rfl (lv_at hl 0 rfl) ?_
  refine w_heldInit hx hb hml hown hg hY.1 hP hS hA ⟨Nat.le_of_ble_eq_true rfl, Nat.le_of_ble_eq_true rfl, Nat.zero_le _, Nat.zero_le _⟩ hl.1 dX3_init_1 (fun H locs hP hS => ?_)
  refine lv_aload_n hx hb dX3_init_4 rfl (lv_at hl 0 rfl) ?_
  refine lv_iload_n hx hb dX3_init_5 rfl (lv_at hl 2 rfl) ?_
  refine va_putF (D := D) (ci := 1) (v := .int k) (ty := tyX3 0) (C := RX3) (T := TX3) (N := 4) hx hb hg ku_X3 tyX3 tyX3_ok nmX3 hown hK hP hD hS 0 rfl rfl 0 (by decide) (hg _ kw_73) (fun _ h9 => h9) rfl hnm rfl rfl rfl rfl (Nat.le_of_ble_eq_true rfl) dX3_init_6 (fun H locs hP hD hS => ?_)
  have hP : va_P D vwCl ([(h0, heC k 0 0 0)] ++ wld cy ad dsC σ) H := hP
  have hD : va_D A ([(h0, heC k 0 0 0)] ++ wld cy ad dsC σ) := hD
  refine lv_aload_n hx hb dX3_init_9 rfl (lv_at hl 0 rfl) ?_
  refine lv_aload_n hx hb dX3_init_10 rfl (lv_at hl 1 rfl) ?_
  refine wi_getr hx hb hg hown hK (vaP_r hP) 1 5 8 rfl rfl cb_4 (by decide) kw_74 dX3_init_11 ?_
  refine lv_iload_n hx hb dX3_init_14 rfl (lv_at hl 2 rfl) ?_
  refine wi_iald hx hb hK (vaP_r hP) 8 rfl hk dX3_init_15 (fun v1 e1 => ?_)
  refine va_putF (D := D) (ci := 1) (v := .int v1) (ty := tyX3 1) (C := RX3) (T := TX3) (N := 4) hx hb hg ku_X3 tyX3 tyX3_ok nmX3 hown hK hP hD hS 0 rfl rfl 1 (by decide) (hg _ kw_75) (fun _ h9 => h9) rfl hnm rfl rfl rfl rfl (Nat.le_of_ble_eq_true rfl) dX3_init_16 (fun H locs hP hD hS => ?_)
  have hP : va_P D vwCl ([(h0, heC k v1 0 0)] ++ wld cy ad dsC σ) H := hP
  have hD : va_D A ([(h0, heC k v1 0 0)] ++ wld cy ad dsC σ) := hD
  refine lv_aload_n hx hb dX3_init_19 rfl (lv_at hl 0 rfl) ?_
  refine lv_aload_n hx hb dX3_init_20 rfl (lv_at hl 1 rfl) ?_
  refine wi_getr hx hb hg hown hK (vaP_r hP) 1 6 9 rfl rfl cb_4 (by decide) kw_76 dX3_init_21 ?_
  refine lv_iload_n hx hb dX3_init_24 rfl (lv_at hl 2 rfl) ?_
  refine wi_iald hx hb hK (vaP_r hP) 9 rfl hk dX3_init_25 (fun v2 e2 => ?_)
  refine va_putF (D := D) (ci := 1) (v := .int v2) (ty := tyX3 2) (C := RX3) (T := TX3) (N := 4) hx hb hg ku_X3 tyX3 tyX3_ok nmX3 hown hK hP hD hS 0 rfl rfl 2 (by decide) (hg _ kw_77) (fun _ h9 => h9) rfl hnm rfl rfl rfl rfl (Nat.le_of_ble_eq_true rfl) dX3_init_26 (fun H locs hP hD hS => ?_)
  have hP : va_P D vwCl ([(h0, heC k v1 v2 0)] ++ wld cy ad dsC σ) H := hP
  have hD : va_D A ([(h0, heC k v1 v2 0)] ++ wld cy ad dsC σ) := hD
  refine lv_aload_n hx hb dX3_init_29 rfl (lv_at hl 0 rfl) ?_
  refine lv_aload_n hx hb dX3_init_30 rfl (lv_at hl 1 rfl) ?_
  refine wi_getr hx hb hg hown hK (vaP_r hP) 1 7 10 rfl rfl cb_4 (by decide) kw_78 dX3_init_31 ?_
  refine lv_iload_n hx hb dX3_init_34 rfl (lv_at hl 2 rfl) ?_
  refine wi_iald hx hb hK (vaP_r hP) 10 rfl hk dX3_init_35 (fun v3 e3 => ?_)
  refine va_putF (D := D) (ci := 1) (v := .int v3) (ty := tyX3 3) (C := RX3) (T := TX3) (N := 4) hx hb hg ku_X3 tyX3 tyX3_ok nmX3 hown hK hP hD hS 0 rfl rfl 3 (by decide) (hg _ kw_79) (fun _ h9 => h9) rfl hnm rfl rfl rfl rfl (Nat.le_of_ble_eq_true rfl) dX3_init_36 (fun H locs hP hD hS => ?_)
  have hP : va_P D vwCl ([(h0, heC k v1 v2 v3)] ++ wld cy ad dsC σ) H := hP
  have hD : va_D A ([(h0, heC k v1 v2 v3)] ++ wld cy ad dsC σ) := hD
  subst e1 e2 e3
  exact W.vret hx hb hr (fun t ht hW => ⟨⟨(), rfl, trivial, by rw [ht]; exact hP, va_K.moved hW.alike hK, hD⟩, hS.F ht⟩) hS.2.2 dX3_init_39 hlk
/-- the weight of a held cell by its kind -/
def hwg (nu ki so : Int32) : Int32 := if ki = 6 then nu + 1 + 100 + 5 + so else if ki = 5 then nu + 1 + 100 else if ki = 4 then 3 * (nu + 1 + 10) else nu + 1 + 10
theorem c_X3_weigh (l : Launch) (D : va_G) (cy : Nat → ClassId) (h0 sz : Nat) (nu ki kl so : Int32) : Met l yX3_weigh (.code yX3_weigh cX3_weigh 1 (some .int) :: gAll) { frames := 0, cells := 0, slots := 0, locals := 0 } (va_Pc [.ref h0] (fun U => U.heap.size = sz ∧ va_P D vwCl [(h0, heC nu ki kl so)] U.heap ∧ va_K D vwCl (tyl cy) U)) (va_Qi (fun r (_ : Unit) => r = hwg nu ki so) (fun _ _ => True) (va_A [] sz)) 0 0 (va_A [] sz) := by
  refine ent_met (by decide) (Nat.le_of_ble_eq_true rfl) ?_
  intro p e s m args below meth c hx hb hml hr hlk hg hown hnm hsz hB ls hl
  obtain ⟨hP, hK⟩ := hB
  have hown : s.vm.findClass RX3 = some m.cls := hown
  have hl : lv_has ls 1 [(0, .ref h0)] := hl
  have hS : va_S (va_A [] sz) s.heap s.heap [] := va_S.rf
  refine lv_aload_n hx hb dX3_weigh_0 rfl (lv_at hl 0 rfl) ?_
  refine va_get (C := RX3) (T := TX3) (N := 4) hx hb hg ku_X3 hown hK hP 0 rfl rfl 1 (by decide) (hg _ kw_75) (fun _ h => h) (v := .int ki) rfl dX3_weigh_1 ?_
  have getn : ∀ (pc : Nat) (rest : List Value), decode cX3_weigh pc = .ok (.getfield 9, 3) → W p l e { frames := 0, cells := 0, slots := 0, locals := 0 } s m args below meth c s.heap [] 0 0 (MQ below (va_Qi (fun r (_ : Unit) => r = hwg nu ki so) (fun _ _ => True) (va_A [] sz)) args s 0 0 (va_A [] sz)) (F0 m (pc + 3) ls (.int nu :: rest)) → W p l e { frames := 0, cells := 0, slots := 0, locals := 0 } s m args below meth c s.heap [] 0 0 (MQ below (va_Qi (fun r (_ : Unit) => r = hwg nu ki so) (fun _ _ => True) (va_A [] sz)) args s 0 0 (va_A [] sz)) (F0 m pc ls (.ref h0 :: rest)) := fun pc rest hd k => va_get (C := RX3) (T := TX3) (N := 4) hx hb hg ku_X3 hown hK hP 0 rfl rfl 0 (by decide) (hg _ kw_73) (fun _ h => h) (v := .int nu) rfl hd k
  have fin : ∀ (pc : Nat) (v : Int32), decode cX3_weigh pc = .ok (.ireturn, 1) → v = hwg nu ki so → W p l e { frames := 0, cells := 0, slots := 0, locals := 0 } s m args below meth c s.heap [] 0 0 (MQ below (va_Qi (fun r (_ : Unit) => r = hwg nu ki so) (fun _ _ => True) (va_A [] sz)) args s 0 0 (va_A [] sz)) (F0 m pc ls [.int v]) := fun pc v hd h => W.iret (v := v) hx hb hr (fun t ht hW => ⟨⟨v, (), rfl, h, trivial⟩, hS.F ht⟩) hS.2.2 hd hlk
  by_cases k6 : ki = 6
  · subst k6
    refine lv_tableIn (tgt := 32) hx hb dX3_weigh_4 (by decide) (by decide) rfl (by decide) ?_
    refine lv_aload_n hx hb dX3_weigh_32 rfl (lv_at hl 0 rfl) ?_
    refine getn 33 [] dX3_weigh_33 ?_
    refine lv_iconst (v := (1 : Int32)) hx hb dX3_weigh_36 (by decide) ?_
    refine lv_iadd hx hb dX3_weigh_37 ?_
    refine lv_bipush (v := (100 : Int32)) hx hb dX3_weigh_38 (by decide) ?_
    refine lv_iadd hx hb dX3_weigh_40 ?_
    refine lv_iconst (v := (5 : Int32)) hx hb dX3_weigh_41 (by decide) ?_
    refine lv_iadd hx hb dX3_weigh_42 ?_
    refine lv_aload_n hx hb dX3_weigh_43 rfl (lv_at hl 0 rfl) ?_
    refine va_get (C := RX3) (T := TX3) (N := 4) hx hb hg ku_X3 hown hK hP 0 rfl rfl 3 (by decide) (hg _ kw_79) (fun _ h => h) (v := .int so) rfl dX3_weigh_44 ?_
    refine lv_iadd hx hb dX3_weigh_47 ?_
    exact fin 48 _ dX3_weigh_48 (by unfold hwg; rw [if_pos rfl])
  · by_cases k5 : ki = 5
    · subst k5
      refine lv_tableIn (tgt := 49) hx hb dX3_weigh_4 (by decide) (by decide) rfl (by decide) ?_
      refine lv_aload_n hx hb dX3_weigh_49 rfl (lv_at hl 0 rfl) ?_
      refine getn 50 [] dX3_weigh_50 ?_
      refine lv_iconst (v := (1 : Int32)) hx hb dX3_weigh_53 (by decide) ?_
      refine lv_iadd hx hb dX3_weigh_54 ?_
      refine lv_bipush (v := (100 : Int32)) hx hb dX3_weigh_55 (by decide) ?_
      refine lv_iadd hx hb dX3_weigh_57 ?_
      exact fin 58 _ dX3_weigh_58 (by unfold hwg; rw [if_neg k6, if_pos rfl])
    · by_cases k4 : ki = 4
      · subst k4
        refine lv_tableIn (tgt := 59) hx hb dX3_weigh_4 (by decide) (by decide) rfl (by decide) ?_
        refine lv_iconst (v := (3 : Int32)) hx hb dX3_weigh_59 (by decide) ?_
        refine lv_aload_n hx hb dX3_weigh_60 rfl (lv_at hl 0 rfl) ?_
        refine getn 61 [.int 3] dX3_weigh_61 ?_
        refine lv_iconst (v := (1 : Int32)) hx hb dX3_weigh_64 (by decide) ?_
        refine lv_iadd hx hb dX3_weigh_65 ?_
        refine lv_bipush (v := (10 : Int32)) hx hb dX3_weigh_66 (by decide) ?_
        refine lv_iadd hx hb dX3_weigh_68 ?_
        refine lv_imul hx hb dX3_weigh_69 ?_
        exact fin 70 _ dX3_weigh_70 (by unfold hwg; rw [if_neg k6, if_neg k5, if_pos rfl])
      · have e4 : ki.toInt ≠ 4 := fun z => k4 (Int32.toInt_inj.mp z)
        have e5 : ki.toInt ≠ 5 := fun z => k5 (Int32.toInt_inj.mp z)
        have e6 : ki.toInt ≠ 6 := fun z => k6 (Int32.toInt_inj.mp z)
        refine lv_tableOut (tgt := 71) hx hb dX3_weigh_4 (by omega) (by decide) ?_
        refine lv_aload_n hx hb dX3_weigh_71 rfl (lv_at hl 0 rfl) ?_
        refine getn 72 [] dX3_weigh_72 ?_
        refine lv_iconst (v := (1 : Int32)) hx hb dX3_weigh_75 (by decide) ?_
        refine lv_iadd hx hb dX3_weigh_76 ?_
        refine lv_bipush (v := (10 : Int32)) hx hb dX3_weigh_77 (by decide) ?_
        refine lv_iadd hx hb dX3_weigh_79 ?_
        exact fin 80 _ dX3_weigh_80 (by unfold hwg; rw [if_neg k6, if_neg k5, if_neg k4])
