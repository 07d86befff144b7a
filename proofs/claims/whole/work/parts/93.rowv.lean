set_option maxHeartbeats 4000000 in
theorem c_X11_rowOfValues (l : Launch) (D : va_G) (cy : Nat → ClassId) (ad : Nat → Nat) (tL : Nat) (σ : St) (sz n : Nat) (vals : Nat → Int32) (hm : σ.1 1 0 = nI n) (h60 : n ≤ 60) (hv : ∀ j, j < n → w_X7_bitsNow σ (fun x => w_X4_valueOf σ (nI j) x (fun v => v = vals j))) : Met l yX11_rowOfValues (.code yX11_rowOfValues cX11_rowOfValues 3 (some (.object "ClockCourt$Row")) :: gAll) { frames := 3, cells := 2, slots := n + 2, locals := 54 } (va_Pc [.ref (ad 0)] (fun U => U.heap.size = sz ∧ RwPre D cy ad tL σ sz U)) (va_Qr (fun u : Nat × (Nat → Int32) => ∀ j, j < n → u.2 j = vals j) (RwBk D cy ad σ sz 3 n) (va_A (wld cy ad dsC σ) sz)) 2 (n + 2) (va_A (wld cy ad dsC σ) sz) := by
  refine ent_met (by decide) (Nat.le_of_ble_eq_true rfl) ?_
  intro p e s m args below meth c hx hb hml hr hlk hg hown hnm hsz hB ls hl
  obtain ⟨hP, hK, hD0, hLB, hY⟩ := hB
  subst hsz
  have hown : s.vm.findClass RX11 = some m.cls := hown
  have hl : lv_has ls 3 [(0, .ref (ad 0))] := hl
  have hD := hD0.self (sz := s.heap.size)
  generalize hAe : va_A (wld cy ad dsC σ) s.heap.size = A at hD hLB ⊢
  have hA : ∀ q : Nat, s.heap.size ≤ q → A q := fun q h => by rw [← hAe]; exact Or.inr h
  have hS : va_S A s.heap s.heap [] := va_S.rf
  have n31 : n < 2 ^ 31 := by omega
  refine w_newRow hx hb hown hg hK hP hD hS hA ⟨Nat.le_of_ble_eq_true rfl, by show 0 + 2 ≤ n + 2; omega⟩ dX11_rowOfValues_0 (fun q H hP hD hS => ?_)
  refine lv_dup hx hb dX11_rowOfValues_3 rfl ?_
  refine lv_iconst (v := (3 : Int32)) hx hb dX11_rowOfValues_4 (by decide) ?_
  refine lv_aload_n hx hb dX11_rowOfValues_5 rfl (lv_at hl 0 rfl) ?_
  refine wi_getr hx hb hg hown hK (vaP_l hP) 0 0 1 rfl rfl cb_11 (by decide) kw_349 dX11_rowOfValues_6 ?_
  refine wi_geti hx hb hg hown hK (vaP_l hP) 1 0 rfl rfl cb_4 (by decide) kw_399 dX11_rowOfValues_9 ?_
  rw [hm]
  refine w_rowInit (N' := n) (nI_pos n31) (cl_nI n31) h60 hx hb hml hown hg hK hY hP hD hS hA ⟨Nat.le_of_ble_eq_true rfl, Nat.le_of_ble_eq_true rfl⟩ ⟨Nat.le_of_ble_eq_true rfl, by show 0 + 2 + n ≤ n + 2; omega⟩ hl.1 (Nat.le_of_ble_eq_true rfl) dX11_rowOfValues_12 (fun b H locs hP hD hS => ?_)
  refine lv_astore_n (i := 1) hx hb dX11_rowOfValues_15 rfl hl (by decide) rfl (fun ls hl => ?_)
  have hl : lv_has ls 3 [(1, .ref q), (0, .ref (ad 0))] := hl
  refine lv_iconst (v := (0 : Int32)) hx hb dX11_rowOfValues_16 (by decide) ?_
  refine lv_istore_n (i := 2) hx hb dX11_rowOfValues_17 rfl hl (by decide) rfl (fun ls hl => ?_)
  have hl : lv_has ls 3 [(2, .int (nI 0)), (1, .ref q), (0, .ref (ad 0))] := hl
  refine W.widen (k := 2) (n := n + 2) (Nat.le_of_ble_eq_true rfl) (by omega) ?_
  have loop : ∀ (μ i : Nat), μ = n - i → i ≤ n → ∀ (g : Nat → Int32), (∀ j, j < i → g j = vals j) → ∀ (H : Heap) (locs : List Loc) (ls : Array Slot), va_P D vwCl (wld cy ad dsC σ ++ [(q, roC 3 b), (b, arC cy n g)]) H → va_D A (wld cy ad dsC σ ++ [(q, roC 3 b), (b, arC cy n g)]) → va_S A s.heap H locs → lv_has ls 3 [(2, .int (nI i)), (1, .ref q), (0, .ref (ad 0))] → W p l e { frames := 3, cells := 2, slots := n + 2, locals := 54 } s m args below meth c H locs 2 (n + 2) (MQ below (va_Qr (fun u : Nat × (Nat → Int32) => ∀ j, j < n → u.2 j = vals j) (RwBk D cy ad σ s.heap.size 3 n) A) args s 2 (n + 2) A) (F0 m 18 ls []) := by
    intro μ
    induction μ with
    | zero =>
      intro i hμ hi g hgv H locs ls hP hD hS hl
      have ei : i = n := by omega
      subst ei
      refine lv_iload_n hx hb dX11_rowOfValues_18 rfl (lv_at hl 0 rfl) ?_
      refine lv_aload_n hx hb dX11_rowOfValues_19 rfl (lv_at hl 2 rfl) ?_
      refine wi_getr hx hb hg hown hK (vaP_l hP) 0 0 1 rfl rfl cb_11 (by decide) kw_349 dX11_rowOfValues_20 ?_
      refine wi_geti hx hb hg hown hK (vaP_l hP) 1 0 rfl rfl cb_4 (by decide) kw_399 dX11_rowOfValues_23 ?_
      rw [hm]
      refine lv_icmp_ge (tgt := 56) hx hb dX11_rowOfValues_26 (by decide) (fun _ => ?_) (fun z => absurd (Int32.le_refl _) z)
      refine lv_aload_n hx hb dX11_rowOfValues_56 rfl (lv_at hl 1 rfl) ?_
      exact W.aret (v := .ref q) hx hb hr (Or.inl ⟨_, rfl⟩) (Or.inr ⟨q, rfl⟩) (fun t ht hW => ⟨⟨(b, g), q, rfl, hgv, by rw [ht]; exact hP, va_K.moved hW.alike hK, by rw [hAe]; exact hD⟩, hS.F ht⟩) hS.2.2 dX11_rowOfValues_57 hlk
    | succ μ ih =>
      intro i hμ hi g hgv H locs ls hP hD hS hl
      have hin : i < n := by omega
      refine lv_iload_n hx hb dX11_rowOfValues_18 rfl (lv_at hl 0 rfl) ?_
      refine lv_aload_n hx hb dX11_rowOfValues_19 rfl (lv_at hl 2 rfl) ?_
      refine wi_getr hx hb hg hown hK (vaP_l hP) 0 0 1 rfl rfl cb_11 (by decide) kw_349 dX11_rowOfValues_20 ?_
      refine wi_geti hx hb hg hown hK (vaP_l hP) 1 0 rfl rfl cb_4 (by decide) kw_399 dX11_rowOfValues_23 ?_
      rw [hm]
      refine lv_icmp_ge (tgt := 56) hx hb dX11_rowOfValues_26 (by decide) (fun z => absurd ((nI_leI (by omega) (by omega)).mp z) (by omega)) (fun _ => ?_)
      refine lv_aload_n hx hb dX11_rowOfValues_29 rfl (lv_at hl 1 rfl) ?_
      refine va_get (C := RX6) (T := TX6) (N := 2) hx hb hg ku_X6 hown hK hP _ (ax_at 0) rfl 1 (by decide) (hg _ kw_509) (fun _ h => h) (v := .ref b) rfl dX11_rowOfValues_30 ?_
      refine lv_iload_n hx hb dX11_rowOfValues_33 rfl (lv_at hl 0 rfl) ?_
      refine lv_aload_n hx hb dX11_rowOfValues_34 rfl (lv_at hl 2 rfl) ?_
      refine wi_getr hx hb hg hown hK (vaP_l hP) 0 0 1 rfl rfl cb_11 (by decide) kw_349 dX11_rowOfValues_35 ?_
      refine lv_iload_n hx hb dX11_rowOfValues_38 rfl (lv_at hl 0 rfl) ?_
      refine lv_aload_n hx hb dX11_rowOfValues_39 rfl (lv_at hl 2 rfl) ?_
      refine wi_getr hx hb hg hown hK (vaP_l hP) 0 3 5 rfl rfl cb_11 (by decide) kw_360 dX11_rowOfValues_40 ?_
      refine wg_callVi (As := []) (k := 5) (rest := [.int (nI i), .ref (ad 1), .int (nI i), .ref b]) (c_X7_bitsNow l D cy ad tL σ _ (hv i hin)) vw_RX11_123 rfl cb_7 hx hb hml hown hg hK (vaP_l hP) (vaP_r hP) hD hS hA hLB rfl ⟨Nat.le_of_ble_eq_true rfl, Nat.le_of_ble_eq_true rfl⟩ ⟨Nat.le_refl _, Nat.le_refl _⟩ hl.1 rfl (Nat.le_of_ble_eq_true rfl) dX11_rowOfValues_43 (fun x u hxu H locs hP1 hP2 hD hS => ?_)
      obtain ⟨hx1, rfl⟩ := hxu
      refine wg_callVi (As := [.int (nI i), .int x]) (k := 1) (rest := [.int (nI i), .ref b]) (c_X4_valueOf l D cy ad tL σ (nI i) x _ hx1) vw_RX11_127 rfl cb_4 hx hb hml hown hg hK hP1 hP2 hD hS hA hLB rfl ⟨Nat.le_of_ble_eq_true rfl, Nat.le_of_ble_eq_true rfl⟩ ⟨Nat.le_refl _, Nat.le_refl _⟩ hl.1 rfl (Nat.le_of_ble_eq_true rfl) dX11_rowOfValues_46 (fun v u hvu H locs hP1 hP2 hD hS => ?_)
      obtain ⟨hv1, rfl⟩ := hvu
      have hP := va_P.app hP1 hP2
      refine va_iast hx hb hK hP hD hS ((wld cy ad dsC σ).length + 1) 0 (ax_at 1) rfl (in_nI hin n31) dX11_rowOfValues_49 (fun H locs hP hD hS => ?_)
      rw [ax_set, cl_nI (by omega)] at hP hD
      refine lv_iinc (k := 0) hx hb dX11_rowOfValues_50 hl rfl rfl (by decide) rfl (fun ls hl => ?_)
      have hl : lv_has ls 3 [(2, .int (nI i + 1)), (1, .ref q), (0, .ref (ad 0))] := hl
      rw [nI_1] at hl
      refine lv_goto (tgt := 18) hx hb dX11_rowOfValues_53 (by decide) ?_
      refine ih (i + 1) (by omega) (by omega) (upd g i v) (fun j hj => ?_) H locs ls hP hD hS hl
      unfold upd
      by_cases z : j = i
      · rw [if_pos z, z]; exact hv1
      · rw [if_neg z]; exact hgv j (by omega)
  exact loop n 0 rfl (Nat.zero_le _) (fun _ => 0) (fun j hj => absurd hj (Nat.not_lt_zero j)) H locs ls hP hD hS hl
