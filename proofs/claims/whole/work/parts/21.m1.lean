def w_X12_connect (σ : St) (a1 : Int32) (a2 : Int32) (post : Int32 → St → Prop) : Prop := nm (upI σ 0 0 (0 : Int32)) (fun σ1 => w_X12_isKeeper σ1 a1 (fun r2 => br (r2 = (0 : Int32)) (post (-1 : Int32) σ1) (w_X12_isCell σ1 a2 (fun r5 => br (r5 = (0 : Int32)) (post (-1 : Int32) σ1) (rd (σ1.1 4) 24 a1 (fun v8 => ck a1 24 (nm (upI σ1 4 (a1).toNatClampNeg a2) (fun σ9 => w_X12_changed σ9 (fun σ11 => post v8 σ11)))))))))
set_option maxHeartbeats 4000000 in
set_option maxRecDepth 100000 in
theorem c_X12_connect (l : Launch) (D : va_G) (cy : Nat → ClassId) (ad : Nat → Nat) (tL : Nat) (σ : St) (a1 : Int32) (a2 : Int32) (post : Int32 → St → Prop) (hF : w_X12_connect σ a1 a2 post) : Cti l yX12_connect cX12_connect 4 (some .int) 5 110 D cy ad tL dsM σ [.ref (ad 0), .int a1, .int a2] post := by
  refine cti_of (by decide) (Nat.le_of_ble_eq_true rfl) ?_
  intro p e s m args below meth c A hx hb hml hr hlk hg hown hA hK H locs hP hD hS hLB ls hl
  have hown : s.vm.findClass RX12 = some m.cls := hown
  have hl : lv_has ls 4 [(0, .ref (ad 0)), (1, .int a1), (2, .int a2)] := hl
  refine lv_aload_n hx hb dX12_connect_0 rfl (lv_at hl 0 rfl) ?_
  refine lv_iconst (v := (0 : Int32)) hx hb dX12_connect_1 (by decide) ?_
  refine wi_puti hx hb hg hown hK hP hD hS 0 0 rfl rfl cb_12 (by decide) kw_615 rfl rfl rfl dX12_connect_2 (fun σ1 eσ1 H locs hP hD hS => ?_)
  have hF := hF σ1 eσ1
  refine lv_aload_n hx hb dX12_connect_5 rfl (lv_at hl 0 rfl) ?_
  refine lv_iload_n hx hb dX12_connect_6 rfl (lv_at hl 1 rfl) ?_
  refine wi_callVi (k := 0) (As := [.int a1]) (c_X12_isKeeper l D cy ad tL σ1 a1 _ hF) vw_RX12_172 rfl cb_12 hx hb hml hown hg hK hP hD hS hA hLB rfl ⟨Nat.le_of_ble_eq_true rfl, Nat.le_of_ble_eq_true rfl⟩ hl.1 rfl (Nat.le_of_ble_eq_true rfl) dX12_connect_7 (fun r2 σ3 hw H locs hP hD hS => ?_)
  obtain ⟨hF, rfl⟩ := hw
  refine lv_if_eq (tgt := 21) hx hb dX12_connect_10 (by decide) (fun c4 => ?_) (fun c4 => ?_)
  · have hF := brT hF c4
    refine lv_iconst (v := (-1 : Int32)) hx hb dX12_connect_21 (by decide) ?_
    exact wi_iret hx hb hr hlk hK hP hD hS dX12_connect_22 hF
  · have hF := brF hF c4
    refine lv_aload_n hx hb dX12_connect_13 rfl (lv_at hl 0 rfl) ?_
    refine lv_iload_n hx hb dX12_connect_14 rfl (lv_at hl 2 rfl) ?_
    refine wi_callVi (k := 0) (As := [.int a2]) (c_X12_isCell l D cy ad tL σ1 a2 _ hF) vw_RX12_129 rfl cb_12 hx hb hml hown hg hK hP hD hS hA hLB rfl ⟨Nat.le_of_ble_eq_true rfl, Nat.le_of_ble_eq_true rfl⟩ hl.1 rfl (Nat.le_of_ble_eq_true rfl) dX12_connect_15 (fun r5 σ6 hw H locs hP hD hS => ?_)
    obtain ⟨hF, rfl⟩ := hw
    refine lv_if_ne (tgt := 23) hx hb dX12_connect_18 (by decide) (fun c7 => ?_) (fun c7 => ?_)
    · have hF := brF hF c7
      refine lv_aload_n hx hb dX12_connect_23 rfl (lv_at hl 0 rfl) ?_
      refine wi_getr hx hb hg hown hK hP 0 6 4 rfl rfl cb_12 (by decide) kw_561 dX12_connect_24 ?_
      refine lv_iload_n hx hb dX12_connect_27 rfl (lv_at hl 1 rfl) ?_
      obtain ⟨hin, hF⟩ := hF
      refine wi_iald hx hb hK hP 4 rfl hin dX12_connect_28 (fun v8 ev8 => ?_)
      have hF := hF v8 ev8
      refine lv_istore_n (lv' := [(3, .int v8), (0, .ref (ad 0)), (1, .int a1), (2, .int a2)]) hx hb dX12_connect_29 rfl hl (by decide) rfl (fun ls hl => ?_)
      refine lv_aload_n hx hb dX12_connect_30 rfl (lv_at hl 1 rfl) ?_
      refine wi_getr hx hb hg hown hK hP 0 6 4 rfl rfl cb_12 (by decide) kw_561 dX12_connect_31 ?_
      refine lv_iload_n hx hb dX12_connect_34 rfl (lv_at hl 2 rfl) ?_
      refine lv_iload_n hx hb dX12_connect_35 rfl (lv_at hl 3 rfl) ?_
      obtain ⟨hin, hF⟩ := hF
      refine wi_iast hx hb hK hP hD hS 4 rfl hin dX12_connect_36 (fun σ9 eσ9 H locs hP hD hS => ?_)
      have hF := hF σ9 eσ9
      refine lv_aload_n hx hb dX12_connect_37 rfl (lv_at hl 1 rfl) ?_
      refine wi_callVv (k := 0) (As := []) (c_X12_changed l D cy ad tL σ9 _ hF) vw_RX12_167 rfl cb_12 hx hb hml hown hg hK hP hD hS hA hLB rfl ⟨Nat.le_of_ble_eq_true rfl, Nat.le_of_ble_eq_true rfl⟩ hl.1 rfl (Nat.le_of_ble_eq_true rfl) dX12_connect_38 (fun σ11 hw H locs hP hD hS => ?_)
      have hF := hw
      refine lv_iload_n hx hb dX12_connect_41 rfl (lv_at hl 0 rfl) ?_
      exact wi_iret hx hb hr hlk hK hP hD hS dX12_connect_42 hF
    · have hF := brT hF c7
      refine lv_iconst (v := (-1 : Int32)) hx hb dX12_connect_21 (by decide) ?_
      exact wi_iret hx hb hr hlk hK hP hD hS dX12_connect_22 hF
def w_X12_bound (σ : St) (a1 : Int32) (a2 : Int32) (a3 : Int32) (post : Int32 → St → Prop) : Prop := nm (upI σ 0 0 (0 : Int32)) (fun σ1 => w_X12_isIn ((a1 : Int32).toInt64) (0 : Int64) (3 : Int64) (fun r2 => br (r2 = (0 : Int32)) (post (-1 : Int32) σ1) (w_X12_isIn ((a2 : Int32).toInt64) (0 : Int64) (3 : Int64) (fun r5 => br (r5 = (0 : Int32)) (post (-1 : Int32) σ1) (br (a1 = a2) (post (-1 : Int32) σ1) (w_X12_isIn ((a3 : Int32).toInt64) (0 : Int64) (9 : Int64) (fun r9 => br (r9 = (0 : Int32)) (post (-1 : Int32) σ1) (rd (σ1.1 8) 16 (((4 : Int32) * a1) + a2) (fun v12 => ck (((4 : Int32) * a1) + a2) 16 (nm (upI σ1 8 ((((4 : Int32) * a1) + a2)).toNatClampNeg a3) (fun σ13 => w_X12_changed σ13 (fun σ15 => post v12 σ15))))))))))))
set_option maxHeartbeats 4000000 in
set_option maxRecDepth 100000 in
theorem c_X12_bound (l : Launch) (D : va_G) (cy : Nat → ClassId) (ad : Nat → Nat) (tL : Nat) (σ : St) (a1 : Int32) (a2 : Int32) (a3 : Int32) (post : Int32 → St → Prop) (hF : w_X12_bound σ a1 a2 a3 post) : Cti l yX12_bound cX12_bound 5 (some .int) 5 110 D cy ad tL dsM σ [.ref (ad 0), .int a1, .int a2, .int a3] post := by
  refine cti_of (by decide) (Nat.le_of_ble_eq_true rfl) ?_
  intro p e s m args below meth c A hx hb hml hr hlk hg hown hA hK H locs hP hD hS hLB ls hl
  have hown : s.vm.findClass RX12 = some m.cls := hown
  have hl : lv_has ls 5 [(0, .ref (ad 0)), (1, .int a1), (2, .int a2), (3, .int a3)] := hl
  refine lv_aload_n hx hb dX12_bound_0 rfl (lv_at hl 0 rfl) ?_
  refine lv_iconst (v := (0 : Int32)) hx hb dX12_bound_1 (by decide) ?_
  refine wi_puti hx hb hg hown hK hP hD hS 0 0 rfl rfl cb_12 (by decide) kw_615 rfl rfl rfl dX12_bound_2 (fun σ1 eσ1 H locs hP hD hS => ?_)
  have hF := hF σ1 eσ1
  refine lv_iload_n hx hb dX12_bound_5 rfl (lv_at hl 1 rfl) ?_
  refine lv_i2l hx hb dX12_bound_6 rfl ?_
  refine lv_lconst (v := (0 : Int64)) hx hb dX12_bound_7 (by decide) ?_
  refine lv_ldc2 (v := (3 : Int64)) hx hb hown (hg _ kw_639) dX12_bound_8 ?_
  refine wi_callSi (As := [.long ((a1 : Int32).toInt64), .long (0 : Int64), .long (3 : Int64)]) (c_X12_isIn l D cy ad tL σ1 ((a1 : Int32).toInt64) (0 : Int64) (3 : Int64) _ hF) sw_RX12_156 hx hb hml hown hg hK hP hD hS hA hLB rfl ⟨Nat.le_of_ble_eq_true rfl, Nat.le_of_ble_eq_true rfl⟩ hl.1 rfl (Nat.le_of_ble_eq_true rfl) dX12_bound_11 (fun r2 σ3 hw H locs hP hD hS => ?_)
  obtain ⟨hF, rfl⟩ := hw
  refine lv_if_eq (tgt := 46) hx hb dX12_bound_14 (by decide) (fun c4 => ?_) (fun c4 => ?_)
  · have hF := brT hF c4
    refine lv_iconst (v := (-1 : Int32)) hx hb dX12_bound_46 (by decide) ?_
    exact wi_iret hx hb hr hlk hK hP hD hS dX12_bound_47 hF
  · have hF := brF hF c4
    refine lv_iload_n hx hb dX12_bound_17 rfl (lv_at hl 2 rfl) ?_
    refine lv_i2l hx hb dX12_bound_18 rfl ?_
    refine lv_lconst (v := (0 : Int64)) hx hb dX12_bound_19 (by decide) ?_
    refine lv_ldc2 (v := (3 : Int64)) hx hb hown (hg _ kw_639) dX12_bound_20 ?_
    refine wi_callSi (As := [.long ((a2 : Int32).toInt64), .long (0 : Int64), .long (3 : Int64)]) (c_X12_isIn l D cy ad tL σ1 ((a2 : Int32).toInt64) (0 : Int64) (3 : Int64) _ hF) sw_RX12_156 hx hb hml hown hg hK hP hD hS hA hLB rfl ⟨Nat.le_of_ble_eq_true rfl, Nat.le_of_ble_eq_true rfl⟩ hl.1 rfl (Nat.le_of_ble_eq_true rfl) dX12_bound_23 (fun r5 σ6 hw H locs hP hD hS => ?_)
    obtain ⟨hF, rfl⟩ := hw
    refine lv_if_eq (tgt := 46) hx hb dX12_bound_26 (by decide) (fun c7 => ?_) (fun c7 => ?_)
    · have hF := brT hF c7
      refine lv_iconst (v := (-1 : Int32)) hx hb dX12_bound_46 (by decide) ?_
      exact wi_iret hx hb hr hlk hK hP hD hS dX12_bound_47 hF
    · have hF := brF hF c7
      refine lv_iload_n hx hb dX12_bound_29 rfl (lv_at hl 1 rfl) ?_
      refine lv_iload_n hx hb dX12_bound_30 rfl (lv_at hl 2 rfl) ?_
      refine lv_icmp_eq (tgt := 46) hx hb dX12_bound_31 (by decide) (fun c8 => ?_) (fun c8 => ?_)
      · have hF := brT hF c8
        refine lv_iconst (v := (-1 : Int32)) hx hb dX12_bound_46 (by decide) ?_
        exact wi_iret hx hb hr hlk hK hP hD hS dX12_bound_47 hF
      · have hF := brF hF c8
        refine lv_iload_n hx hb dX12_bound_34 rfl (lv_at hl 3 rfl) ?_
        refine lv_i2l hx hb dX12_bound_35 rfl ?_
        refine lv_lconst (v := (0 : Int64)) hx hb dX12_bound_36 (by decide) ?_
        refine lv_ldc2 (v := (9 : Int64)) hx hb hown (hg _ kw_653) dX12_bound_37 ?_
        refine wi_callSi (As := [.long ((a3 : Int32).toInt64), .long (0 : Int64), .long (9 : Int64)]) (c_X12_isIn l D cy ad tL σ1 ((a3 : Int32).toInt64) (0 : Int64) (9 : Int64) _ hF) sw_RX12_156 hx hb hml hown hg hK hP hD hS hA hLB rfl ⟨Nat.le_of_ble_eq_true rfl, Nat.le_of_ble_eq_true rfl⟩ hl.1 rfl (Nat.le_of_ble_eq_true rfl) dX12_bound_40 (fun r9 σ10 hw H locs hP hD hS => ?_)
        obtain ⟨hF, rfl⟩ := hw
        refine lv_if_ne (tgt := 48) hx hb dX12_bound_43 (by decide) (fun c11 => ?_) (fun c11 => ?_)
        · have hF := brF hF c11
          refine lv_aload_n hx hb dX12_bound_48 rfl (lv_at hl 0 rfl) ?_
          refine wi_getr hx hb hg hown hK hP 0 10 8 rfl rfl cb_12 (by decide) kw_583 dX12_bound_49 ?_
          refine lv_iconst (v := (4 : Int32)) hx hb dX12_bound_52 (by decide) ?_
          refine lv_iload_n hx hb dX12_bound_53 rfl (lv_at hl 1 rfl) ?_
          refine lv_imul hx hb dX12_bound_54 ?_
          refine lv_iload_n hx hb dX12_bound_55 rfl (lv_at hl 2 rfl) ?_
          refine lv_iadd hx hb dX12_bound_56 ?_
          obtain ⟨hin, hF⟩ := hF
          refine wi_iald hx hb hK hP 8 rfl hin dX12_bound_57 (fun v12 ev12 => ?_)
          have hF := hF v12 ev12
          refine lv_istore (lv' := [(4, .int v12), (0, .ref (ad 0)), (1, .int a1), (2, .int a2), (3, .int a3)]) hx hb dX12_bound_58 hl (by decide) rfl (fun ls hl => ?_)
          refine lv_aload_n hx hb dX12_bound_60 rfl (lv_at hl 1 rfl) ?_
          refine wi_getr hx hb hg hown hK hP 0 10 8 rfl rfl cb_12 (by decide) kw_583 dX12_bound_61 ?_
          refine lv_iconst (v := (4 : Int32)) hx hb dX12_bound_64 (by decide) ?_
          refine lv_iload_n hx hb dX12_bound_65 rfl (lv_at hl 2 rfl) ?_
          refine lv_imul hx hb dX12_bound_66 ?_
          refine lv_iload_n hx hb dX12_bound_67 rfl (lv_at hl 3 rfl) ?_
          refine lv_iadd hx hb dX12_bound_68 ?_
          refine lv_iload_n hx hb dX12_bound_69 rfl (lv_at hl 4 rfl) ?_
          obtain ⟨hin, hF⟩ := hF
          refine wi_iast hx hb hK hP hD hS 8 rfl hin dX12_bound_70 (fun σ13 eσ13 H locs hP hD hS => ?_)
          have hF := hF σ13 eσ13
          refine lv_aload_n hx hb dX12_bound_71 rfl (lv_at hl 1 rfl) ?_
          refine wi_callVv (k := 0) (As := []) (c_X12_changed l D cy ad tL σ13 _ hF) vw_RX12_167 rfl cb_12 hx hb hml hown hg hK hP hD hS hA hLB rfl ⟨Nat.le_of_ble_eq_true rfl, Nat.le_of_ble_eq_true rfl⟩ hl.1 rfl (Nat.le_of_ble_eq_true rfl) dX12_bound_72 (fun σ15 hw H locs hP hD hS => ?_)
          have hF := hw
          refine lv_iload hx hb dX12_bound_75 (lv_at hl 0 rfl) ?_
          exact wi_iret hx hb hr hlk hK hP hD hS dX12_bound_77 hF
        · have hF := brT hF c11
          refine lv_iconst (v := (-1 : Int32)) hx hb dX12_bound_46 (by decide) ?_
          exact wi_iret hx hb hr hlk hK hP hD hS dX12_bound_47 hF
def w_X12_still (σ : St) (a1 : Int32) (a2 : Int32) (post : Int32 → St → Prop) : Prop := nm (upI σ 0 0 (0 : Int32)) (fun σ1 => w_X12_isBit σ1 a1 (fun r2 => br (r2 = (0 : Int32)) (post (-1 : Int32) σ1) (rd (σ1.1 7) 24 a1 (fun v5 => ck a1 24 (nm (upI σ1 7 (a1).toNatClampNeg (vp_nar .boolean a2)) (fun σ6 => br (v5 = (0 : Int32)) (post (0 : Int32) σ6) (post (1 : Int32) σ6)))))))
set_option maxHeartbeats 4000000 in
set_option maxRecDepth 100000 in
theorem c_X12_still (l : Launch) (D : va_G) (cy : Nat → ClassId) (ad : Nat → Nat) (tL : Nat) (σ : St) (a1 : Int32) (a2 : Int32) (post : Int32 → St → Prop) (hF : w_X12_still σ a1 a2 post) : Cti l yX12_still cX12_still 4 (some .int) 2 42 D cy ad tL dsM σ [.ref (ad 0), .int a1, .int a2] post := by
  refine cti_of (by decide) (Nat.le_of_ble_eq_true rfl) ?_
  intro p e s m args below meth c A hx hb hml hr hlk hg hown hA hK H locs hP hD hS hLB ls hl
  have hown : s.vm.findClass RX12 = some m.cls := hown
  have hl : lv_has ls 4 [(0, .ref (ad 0)), (1, .int a1), (2, .int a2)] := hl
  refine lv_aload_n hx hb dX12_still_0 rfl (lv_at hl 0 rfl) ?_
  refine lv_iconst (v := (0 : Int32)) hx hb dX12_still_1 (by decide) ?_
  refine wi_puti hx hb hg hown hK hP hD hS 0 0 rfl rfl cb_12 (by decide) kw_615 rfl rfl rfl dX12_still_2 (fun σ1 eσ1 H locs hP hD hS => ?_)
  have hF := hF σ1 eσ1
  refine lv_aload_n hx hb dX12_still_5 rfl (lv_at hl 0 rfl) ?_
  refine lv_iload_n hx hb dX12_still_6 rfl (lv_at hl 1 rfl) ?_
  refine wi_callVi (k := 0) (As := [.int a1]) (c_X12_isBit l D cy ad tL σ1 a1 _ hF) vw_RX12_177 rfl cb_12 hx hb hml hown hg hK hP hD hS hA hLB rfl ⟨Nat.le_of_ble_eq_true rfl, Nat.le_of_ble_eq_true rfl⟩ hl.1 rfl (Nat.le_of_ble_eq_true rfl) dX12_still_7 (fun r2 σ3 hw H locs hP hD hS => ?_)
  obtain ⟨hF, rfl⟩ := hw
  refine lv_if_ne (tgt := 15) hx hb dX12_still_10 (by decide) (fun c4 => ?_) (fun c4 => ?_)
  · have hF := brF hF c4
    refine lv_aload_n hx hb dX12_still_15 rfl (lv_at hl 0 rfl) ?_
    refine wi_getr hx hb hg hown hK hP 0 9 7 rfl rfl cb_12 (by decide) kw_582 dX12_still_16 ?_
    refine lv_iload_n hx hb dX12_still_19 rfl (lv_at hl 1 rfl) ?_
    obtain ⟨hin, hF⟩ := hF
    refine wi_zald hx hb hK hP 7 rfl hin dX12_still_20 (fun v5 ev5 => ?_)
    have hF := hF v5 ev5
    refine lv_istore_n (lv' := [(3, .int v5), (0, .ref (ad 0)), (1, .int a1), (2, .int a2)]) hx hb dX12_still_21 rfl hl (by decide) rfl (fun ls hl => ?_)
    refine lv_aload_n hx hb dX12_still_22 rfl (lv_at hl 1 rfl) ?_
    refine wi_getr hx hb hg hown hK hP 0 9 7 rfl rfl cb_12 (by decide) kw_582 dX12_still_23 ?_
    refine lv_iload_n hx hb dX12_still_26 rfl (lv_at hl 2 rfl) ?_
    refine lv_iload_n hx hb dX12_still_27 rfl (lv_at hl 3 rfl) ?_
    obtain ⟨hin, hF⟩ := hF
    refine wi_zast hx hb hK hP hD hS 7 rfl hin dX12_still_28 (fun σ6 eσ6 H locs hP hD hS => ?_)
    have hF := hF σ6 eσ6
    refine lv_iload_n hx hb dX12_still_29 rfl (lv_at hl 0 rfl) ?_
    refine lv_if_eq (tgt := 37) hx hb dX12_still_30 (by decide) (fun c7 => ?_) (fun c7 => ?_)
    · have hF := brT hF c7
      refine lv_iconst (v := (0 : Int32)) hx hb dX12_still_37 (by decide) ?_
      exact wi_iret hx hb hr hlk hK hP hD hS dX12_still_38 hF
    · have hF := brF hF c7
      refine lv_iconst (v := (1 : Int32)) hx hb dX12_still_33 (by decide) ?_
      refine lv_goto (tgt := 38) hx hb dX12_still_34 (by decide) ?_
      exact wi_iret hx hb hr hlk hK hP hD hS dX12_still_38 hF
  · have hF := brT hF c4
    refine lv_iconst (v := (-1 : Int32)) hx hb dX12_still_13 (by decide) ?_
    exact wi_iret hx hb hr hlk hK hP hD hS dX12_still_14 hF
def w_X12_promise (σ : St) (a1 : Int32) (a2 : Int32) (a3 : Int32) (post : Int32 → St → Prop) : Prop := nm (upI σ 0 0 (0 : Int32)) (fun σ1 => w_X12_isIn ((a1 : Int32).toInt64) (0 : Int64) (3 : Int64) (fun r2 => br (r2 = (0 : Int32)) (post (-1 : Int32) σ1) (w_X12_isCell σ1 a2 (fun r5 => br (r5 = (0 : Int32)) (post (-1 : Int32) σ1) (jn (α := Prop) (jn (α := Prop) (br ((σ1.1 0 11) = (8 : Int32)) (post (-2 : Int32) σ1) (ck (σ1.1 0 11) 8 (nm (upI σ1 9 ((σ1.1 0 11)).toNatClampNeg a1) (fun σ11 => ck (σ11.1 0 11) 8 (nm (upI σ11 10 ((σ11.1 0 11)).toNatClampNeg a2) (fun σ12 => ck (σ12.1 0 11) 8 (nm (upI σ12 11 ((σ12.1 0 11)).toNatClampNeg a3) (fun σ13 => nm (upI σ13 0 11 ((σ13.1 0 11) + (1 : Int32))) (fun σ14 => w_X12_unwalk σ14 (fun σ16 => post ((σ16.1 0 11) - (1 : Int32)) σ16)))))))))) (fun J9 => br (a1 = (3 : Int32)) (br (a2 ≤ a3) (J9) (post (-1 : Int32) σ1)) (J9))) (fun J8 => br (a1 ≤ (0 : Int32)) (J8) (w_X12_isCell σ1 a3 (fun r20 => br (r20 = (0 : Int32)) (post (-1 : Int32) σ1) (J8)))))))))
set_option maxHeartbeats 4000000 in
set_option maxRecDepth 100000 in
theorem c_X12_promise (l : Launch) (D : va_G) (cy : Nat → ClassId) (ad : Nat → Nat) (tL : Nat) (σ : St) (a1 : Int32) (a2 : Int32) (a3 : Int32) (post : Int32 → St → Prop) (hF : w_X12_promise σ a1 a2 a3 post) : Cti l yX12_promise cX12_promise 4 (some .int) 1 25 D cy ad tL dsM σ [.ref (ad 0), .int a1, .int a2, .int a3] post := by
  refine cti_of (by decide) (Nat.le_of_ble_eq_true rfl) ?_
  intro p e s m args below meth c A hx hb hml hr hlk hg hown hA hK H locs hP hD hS hLB ls hl
  have hown : s.vm.findClass RX12 = some m.cls := hown
  have hl : lv_has ls 4 [(0, .ref (ad 0)), (1, .int a1), (2, .int a2), (3, .int a3)] := hl
  refine lv_aload_n hx hb dX12_promise_0 rfl (lv_at hl 0 rfl) ?_
  refine lv_iconst (v := (0 : Int32)) hx hb dX12_promise_1 (by decide) ?_
  refine wi_puti hx hb hg hown hK hP hD hS 0 0 rfl rfl cb_12 (by decide) kw_615 rfl rfl rfl dX12_promise_2 (fun σ1 eσ1 H locs hP hD hS => ?_)
  have hF := hF σ1 eσ1
  refine lv_iload_n hx hb dX12_promise_5 rfl (lv_at hl 1 rfl) ?_
  refine lv_i2l hx hb dX12_promise_6 rfl ?_
  refine lv_lconst (v := (0 : Int64)) hx hb dX12_promise_7 (by decide) ?_
  refine lv_ldc2 (v := (3 : Int64)) hx hb hown (hg _ kw_639) dX12_promise_8 ?_
  refine wi_callSi (As := [.long ((a1 : Int32).toInt64), .long (0 : Int64), .long (3 : Int64)]) (c_X12_isIn l D cy ad tL σ1 ((a1 : Int32).toInt64) (0 : Int64) (3 : Int64) _ hF) sw_RX12_156 hx hb hml hown hg hK hP hD hS hA hLB rfl ⟨Nat.le_of_ble_eq_true rfl, Nat.le_of_ble_eq_true rfl⟩ hl.1 rfl (Nat.le_of_ble_eq_true rfl) dX12_promise_11 (fun r2 σ3 hw H locs hP hD hS => ?_)
  obtain ⟨hF, rfl⟩ := hw
  refine lv_if_eq (tgt := 47) hx hb dX12_promise_14 (by decide) (fun c4 => ?_) (fun c4 => ?_)
  · have hF := brT hF c4
    refine lv_iconst (v := (-1 : Int32)) hx hb dX12_promise_47 (by decide) ?_
    exact wi_iret hx hb hr hlk hK hP hD hS dX12_promise_48 hF
  · have hF := brF hF c4
    refine lv_aload_n hx hb dX12_promise_17 rfl (lv_at hl 0 rfl) ?_
    refine lv_iload_n hx hb dX12_promise_18 rfl (lv_at hl 2 rfl) ?_
    refine wi_callVi (k := 0) (As := [.int a2]) (c_X12_isCell l D cy ad tL σ1 a2 _ hF) vw_RX12_129 rfl cb_12 hx hb hml hown hg hK hP hD hS hA hLB rfl ⟨Nat.le_of_ble_eq_true rfl, Nat.le_of_ble_eq_true rfl⟩ hl.1 rfl (Nat.le_of_ble_eq_true rfl) dX12_promise_19 (fun r5 σ6 hw H locs hP hD hS => ?_)
    obtain ⟨hF, rfl⟩ := hw
    refine lv_if_eq (tgt := 47) hx hb dX12_promise_22 (by decide) (fun c7 => ?_) (fun c7 => ?_)
    · have hF := brT hF c7
      refine lv_iconst (v := (-1 : Int32)) hx hb dX12_promise_47 (by decide) ?_
      exact wi_iret hx hb hr hlk hK hP hD hS dX12_promise_48 hF
    · have hF := brF hF c7
      refine lv_iload_n hx hb dX12_promise_25 rfl (lv_at hl 1 rfl) ?_
      refine jn_use hF (fun K => ∀ (H : Heap) (locs : List Loc) (ls : Array Slot), K → va_P D vwCl (wld cy ad dsM σ1) H → va_D A (wld cy ad dsM σ1) → va_S A s.heap H locs → lv_has ls 4 [(0, .ref (ad 0)), (1, .int a1), (2, .int a2), (3, .int a3)] → W p l e (rmO 1 25) s m args below meth c H locs 0 0 (MQ below (va_Qi post (cBk D cy ad dsM A) A) args s 0 0 A) (F0 m 37 ls [])) (fun H locs ls hF hP hD hS hl => ?_) (fun J8 hJ8 hF => ?_)
      · refine lv_iload_n hx hb dX12_promise_37 rfl (lv_at hl 1 rfl) ?_
        refine lv_iconst (v := (3 : Int32)) hx hb dX12_promise_38 (by decide) ?_
        refine jn_use hF (fun K => ∀ (H : Heap) (locs : List Loc) (ls : Array Slot), K → va_P D vwCl (wld cy ad dsM σ1) H → va_D A (wld cy ad dsM σ1) → va_S A s.heap H locs → lv_has ls 4 [(0, .ref (ad 0)), (1, .int a1), (2, .int a2), (3, .int a3)] → W p l e (rmO 1 25) s m args below meth c H locs 0 0 (MQ below (va_Qi post (cBk D cy ad dsM A) A) args s 0 0 A) (F0 m 49 ls [])) (fun H locs ls hF hP hD hS hl => ?_) (fun J9 hJ9 hF => ?_)
        · refine lv_aload_n hx hb dX12_promise_49 rfl (lv_at hl 0 rfl) ?_
          refine wi_geti hx hb hg hown hK hP 0 11 rfl rfl cb_12 (by decide) kw_659 dX12_promise_50 ?_
          refine lv_bipush (v := (8 : Int32)) hx hb dX12_promise_53 (by decide) ?_
          refine lv_icmp_ne (tgt := 61) hx hb dX12_promise_55 (by decide) (fun c10 => ?_) (fun c10 => ?_)
          · have hF := brF hF c10
            refine lv_aload_n hx hb dX12_promise_61 rfl (lv_at hl 0 rfl) ?_
            refine wi_getr hx hb hg hown hK hP 0 12 9 rfl rfl cb_12 (by decide) kw_584 dX12_promise_62 ?_
            refine lv_aload_n hx hb dX12_promise_65 rfl (lv_at hl 0 rfl) ?_
            refine wi_geti hx hb hg hown hK hP 0 11 rfl rfl cb_12 (by decide) kw_659 dX12_promise_66 ?_
            refine lv_iload_n hx hb dX12_promise_69 rfl (lv_at hl 1 rfl) ?_
            obtain ⟨hin, hF⟩ := hF
            refine wi_iast hx hb hK hP hD hS 9 rfl hin dX12_promise_70 (fun σ11 eσ11 H locs hP hD hS => ?_)
            have hF := hF σ11 eσ11
            refine lv_aload_n hx hb dX12_promise_71 rfl (lv_at hl 0 rfl) ?_
            refine wi_getr hx hb hg hown hK hP 0 13 10 rfl rfl cb_12 (by decide) kw_585 dX12_promise_72 ?_
            refine lv_aload_n hx hb dX12_promise_75 rfl (lv_at hl 0 rfl) ?_
            refine wi_geti hx hb hg hown hK hP 0 11 rfl rfl cb_12 (by decide) kw_659 dX12_promise_76 ?_
            refine lv_iload_n hx hb dX12_promise_79 rfl (lv_at hl 2 rfl) ?_
            obtain ⟨hin, hF⟩ := hF
            refine wi_iast hx hb hK hP hD hS 10 rfl hin dX12_promise_80 (fun σ12 eσ12 H locs hP hD hS => ?_)
            have hF := hF σ12 eσ12
            refine lv_aload_n hx hb dX12_promise_81 rfl (lv_at hl 0 rfl) ?_
            refine wi_getr hx hb hg hown hK hP 0 14 11 rfl rfl cb_12 (by decide) kw_586 dX12_promise_82 ?_
            refine lv_aload_n hx hb dX12_promise_85 rfl (lv_at hl 0 rfl) ?_
            refine wi_geti hx hb hg hown hK hP 0 11 rfl rfl cb_12 (by decide) kw_659 dX12_promise_86 ?_
            refine lv_iload_n hx hb dX12_promise_89 rfl (lv_at hl 3 rfl) ?_
            obtain ⟨hin, hF⟩ := hF
            refine wi_iast hx hb hK hP hD hS 11 rfl hin dX12_promise_90 (fun σ13 eσ13 H locs hP hD hS => ?_)
            have hF := hF σ13 eσ13
            refine lv_aload_n hx hb dX12_promise_91 rfl (lv_at hl 0 rfl) ?_
            refine lv_dup hx hb dX12_promise_92 rfl ?_
            refine wi_geti hx hb hg hown hK hP 0 11 rfl rfl cb_12 (by decide) kw_659 dX12_promise_93 ?_
            refine lv_iconst (v := (1 : Int32)) hx hb dX12_promise_96 (by decide) ?_
            refine lv_iadd hx hb dX12_promise_97 ?_
            refine wi_puti hx hb hg hown hK hP hD hS 0 11 rfl rfl cb_12 (by decide) kw_659 rfl rfl rfl dX12_promise_98 (fun σ14 eσ14 H locs hP hD hS => ?_)
            have hF := hF σ14 eσ14
            refine lv_aload_n hx hb dX12_promise_101 rfl (lv_at hl 0 rfl) ?_
            refine wi_callVv (k := 0) (As := []) (c_X12_unwalk l D cy ad tL σ14 _ hF) vw_RX12_151 rfl cb_12 hx hb hml hown hg hK hP hD hS hA hLB rfl ⟨Nat.le_of_ble_eq_true rfl, Nat.le_of_ble_eq_true rfl⟩ hl.1 rfl (Nat.le_of_ble_eq_true rfl) dX12_promise_102 (fun σ16 hw H locs hP hD hS => ?_)
            have hF := hw
            refine lv_aload_n hx hb dX12_promise_105 rfl (lv_at hl 0 rfl) ?_
            refine wi_geti hx hb hg hown hK hP 0 11 rfl rfl cb_12 (by decide) kw_659 dX12_promise_106 ?_
            refine lv_iconst (v := (1 : Int32)) hx hb dX12_promise_109 (by decide) ?_
            refine lv_isub hx hb dX12_promise_110 ?_
            exact wi_iret hx hb hr hlk hK hP hD hS dX12_promise_111 hF
          · have hF := brT hF c10
            refine lv_bipush (v := (-2 : Int32)) hx hb dX12_promise_58 (by decide) ?_
            exact wi_iret hx hb hr hlk hK hP hD hS dX12_promise_60 hF
        · refine lv_icmp_ne (tgt := 49) hx hb dX12_promise_39 (by decide) (fun c17 => ?_) (fun c17 => ?_)
          · have hF := brF hF c17
            exact hJ9  H locs ls hF hP hD hS (lv_sub hl [0, 1, 2, 3] rfl)
          · have hF := brT hF c17
            refine lv_iload_n hx hb dX12_promise_42 rfl (lv_at hl 2 rfl) ?_
            refine lv_iload_n hx hb dX12_promise_43 rfl (lv_at hl 3 rfl) ?_
            refine lv_icmp_le (tgt := 49) hx hb dX12_promise_44 (by decide) (fun c18 => ?_) (fun c18 => ?_)
            · have hF := brT hF c18
              exact hJ9  H locs ls hF hP hD hS (lv_sub hl [0, 1, 2, 3] rfl)
            · have hF := brF hF c18
              refine lv_iconst (v := (-1 : Int32)) hx hb dX12_promise_47 (by decide) ?_
              exact wi_iret hx hb hr hlk hK hP hD hS dX12_promise_48 hF
      · refine lv_if_le (tgt := 37) hx hb dX12_promise_26 (by decide) (fun c19 => ?_) (fun c19 => ?_)
        · have hF := brT hF c19
          exact hJ8  H locs ls hF hP hD hS (lv_sub hl [0, 1, 2, 3] rfl)
        · have hF := brF hF c19
          refine lv_aload_n hx hb dX12_promise_29 rfl (lv_at hl 0 rfl) ?_
          refine lv_iload_n hx hb dX12_promise_30 rfl (lv_at hl 3 rfl) ?_
          refine wi_callVi (k := 0) (As := [.int a3]) (c_X12_isCell l D cy ad tL σ1 a3 _ hF) vw_RX12_129 rfl cb_12 hx hb hml hown hg hK hP hD hS hA hLB rfl ⟨Nat.le_of_ble_eq_true rfl, Nat.le_of_ble_eq_true rfl⟩ hl.1 rfl (Nat.le_of_ble_eq_true rfl) dX12_promise_31 (fun r20 σ21 hw H locs hP hD hS => ?_)
          obtain ⟨hF, rfl⟩ := hw
          refine lv_if_eq (tgt := 47) hx hb dX12_promise_34 (by decide) (fun c22 => ?_) (fun c22 => ?_)
          · have hF := brT hF c22
            refine lv_iconst (v := (-1 : Int32)) hx hb dX12_promise_47 (by decide) ?_
            exact wi_iret hx hb hr hlk hK hP hD hS dX12_promise_48 hF
          · have hF := brF hF c22
            exact hJ8  H locs ls hF hP hD hS (lv_sub hl [0, 1, 2, 3] rfl)
def w_X12_isTicking (σ : St) (a1 : Int32) (a2 : Int32) (post : Int32 → Prop) : Prop := rd (σ.1 1) 24 a2 (fun v1 => br (v1 ≤ (4 : Int32)) (post (0 : Int32)) (rd (σ.1 2) 24 a2 (fun v3 => br (((a1 >>> (v3 &&& 31)) &&& (1 : Int32)) = (1 : Int32)) (post (1 : Int32)) (post (0 : Int32)))))
set_option maxHeartbeats 4000000 in
set_option maxRecDepth 100000 in
theorem c_X12_isTicking (l : Launch) (D : va_G) (cy : Nat → ClassId) (ad : Nat → Nat) (tL : Nat) (σ : St) (a1 : Int32) (a2 : Int32) (post : Int32 → Prop) (hF : w_X12_isTicking σ a1 a2 post) : Cti l yX12_isTicking cX12_isTicking 3 (some .boolean) 0 0 D cy ad tL dsM σ [.ref (ad 0), .int a1, .int a2] (fun r u => post r ∧ σ = u) := by
  refine cti_of (by decide) (Nat.le_of_ble_eq_true rfl) ?_
  intro p e s m args below meth c A hx hb hml hr hlk hg hown hA hK H locs hP hD hS hLB ls hl
  have hown : s.vm.findClass RX12 = some m.cls := hown
  have hl : lv_has ls 3 [(0, .ref (ad 0)), (1, .int a1), (2, .int a2)] := hl
  refine lv_aload_n hx hb dX12_isTicking_0 rfl (lv_at hl 0 rfl) ?_
  refine wi_getr hx hb hg hown hK hP 0 3 1 rfl rfl cb_12 (by decide) kw_560 dX12_isTicking_1 ?_
  refine lv_iload_n hx hb dX12_isTicking_4 rfl (lv_at hl 2 rfl) ?_
  obtain ⟨hin, hF⟩ := hF
  refine wi_iald hx hb hK hP 1 rfl hin dX12_isTicking_5 (fun v1 ev1 => ?_)
  have hF := hF v1 ev1
  refine lv_iconst (v := (4 : Int32)) hx hb dX12_isTicking_6 (by decide) ?_
  refine lv_icmp_le (tgt := 28) hx hb dX12_isTicking_7 (by decide) (fun c2 => ?_) (fun c2 => ?_)
  · have hF := brT hF c2
    refine lv_iconst (v := (0 : Int32)) hx hb dX12_isTicking_28 (by decide) ?_
    exact wi_zret hx hb hr hlk hK hP hD hS dX12_isTicking_29 (by decide) ⟨hF, rfl⟩
  · have hF := brF hF c2
    refine lv_iload_n hx hb dX12_isTicking_10 rfl (lv_at hl 1 rfl) ?_
    refine lv_aload_n hx hb dX12_isTicking_11 rfl (lv_at hl 0 rfl) ?_
    refine wi_getr hx hb hg hown hK hP 0 4 2 rfl rfl cb_12 (by decide) kw_581 dX12_isTicking_12 ?_
    refine lv_iload_n hx hb dX12_isTicking_15 rfl (lv_at hl 2 rfl) ?_
    obtain ⟨hin, hF⟩ := hF
    refine wi_iald hx hb hK hP 2 rfl hin dX12_isTicking_16 (fun v3 ev3 => ?_)
    have hF := hF v3 ev3
    refine lv_ishr hx hb dX12_isTicking_17 ?_
    refine lv_iconst (v := (1 : Int32)) hx hb dX12_isTicking_18 (by decide) ?_
    refine lv_iand hx hb dX12_isTicking_19 ?_
    refine lv_iconst (v := (1 : Int32)) hx hb dX12_isTicking_20 (by decide) ?_
    refine lv_icmp_ne (tgt := 28) hx hb dX12_isTicking_21 (by decide) (fun c4 => ?_) (fun c4 => ?_)
    · have hF := brF hF c4
      refine lv_iconst (v := (0 : Int32)) hx hb dX12_isTicking_28 (by decide) ?_
      exact wi_zret hx hb hr hlk hK hP hD hS dX12_isTicking_29 (by decide) ⟨hF, rfl⟩
    · have hF := brT hF c4
      refine lv_iconst (v := (1 : Int32)) hx hb dX12_isTicking_24 (by decide) ?_
      refine lv_goto (tgt := 29) hx hb dX12_isTicking_25 (by decide) ?_
      exact wi_zret hx hb hr hlk hK hP hD hS dX12_isTicking_29 (by decide) ⟨hF, rfl⟩
def w_X12_then (a1 : Int32) (a2 : Int32) (a3 : Int32) (post : Int32 → Prop) : Prop := br (((a2 >>> ((a3 - a3 / (4 : Int32) * (4 : Int32)) &&& 31)) &&& (1 : Int32)) = (1 : Int32)) (post (0 : Int32)) (br (((a2 >>> ((a3 / (4 : Int32)) &&& 31)) &&& (1 : Int32)) = (1 : Int32)) (post (a1 + (1 : Int32))) (post a1))
set_option maxHeartbeats 4000000 in
set_option maxRecDepth 100000 in
theorem c_X12_then (l : Launch) (D : va_G) (cy : Nat → ClassId) (ad : Nat → Nat) (tL : Nat) (σ : St) (a1 : Int32) (a2 : Int32) (a3 : Int32) (post : Int32 → Prop) (hF : w_X12_then a1 a2 a3 post) : Cti l yX12_then cX12_then 4 (some .int) 0 0 D cy ad tL dsM σ [.ref (ad 0), .int a1, .int a2, .int a3] (fun r u => post r ∧ σ = u) := by
  refine cti_of (by decide) (Nat.le_of_ble_eq_true rfl) ?_
  intro p e s m args below meth c A hx hb hml hr hlk hg hown hA hK H locs hP hD hS hLB ls hl
  have hown : s.vm.findClass RX12 = some m.cls := hown
  have hl : lv_has ls 4 [(0, .ref (ad 0)), (1, .int a1), (2, .int a2), (3, .int a3)] := hl
  refine lv_iload_n hx hb dX12_then_0 rfl (lv_at hl 2 rfl) ?_
  refine lv_iload_n hx hb dX12_then_1 rfl (lv_at hl 3 rfl) ?_
  refine lv_iconst (v := (4 : Int32)) hx hb dX12_then_2 (by decide) ?_
  refine lv_irem hx hb dX12_then_3 (by decide) ?_
  refine lv_ishr hx hb dX12_then_4 ?_
  refine lv_iconst (v := (1 : Int32)) hx hb dX12_then_5 (by decide) ?_
  refine lv_iand hx hb dX12_then_6 ?_
  refine lv_iconst (v := (1 : Int32)) hx hb dX12_then_7 (by decide) ?_
  refine lv_icmp_ne (tgt := 15) hx hb dX12_then_8 (by decide) (fun c1 => ?_) (fun c1 => ?_)
  · have hF := brF hF c1
    refine lv_iload_n hx hb dX12_then_15 rfl (lv_at hl 2 rfl) ?_
    refine lv_iload_n hx hb dX12_then_16 rfl (lv_at hl 3 rfl) ?_
    refine lv_iconst (v := (4 : Int32)) hx hb dX12_then_17 (by decide) ?_
    refine lv_idiv hx hb dX12_then_18 (by decide) ?_
    refine lv_ishr hx hb dX12_then_19 ?_
    refine lv_iconst (v := (1 : Int32)) hx hb dX12_then_20 (by decide) ?_
    refine lv_iand hx hb dX12_then_21 ?_
    refine lv_iconst (v := (1 : Int32)) hx hb dX12_then_22 (by decide) ?_
    refine lv_icmp_ne (tgt := 32) hx hb dX12_then_23 (by decide) (fun c2 => ?_) (fun c2 => ?_)
    · have hF := brF hF c2
      refine lv_iload_n hx hb dX12_then_32 rfl (lv_at hl 1 rfl) ?_
      exact wi_iret hx hb hr hlk hK hP hD hS dX12_then_33 ⟨hF, rfl⟩
    · have hF := brT hF c2
      refine lv_iload_n hx hb dX12_then_26 rfl (lv_at hl 1 rfl) ?_
      refine lv_iconst (v := (1 : Int32)) hx hb dX12_then_27 (by decide) ?_
      refine lv_iadd hx hb dX12_then_28 ?_
      refine lv_goto (tgt := 33) hx hb dX12_then_29 (by decide) ?_
      exact wi_iret hx hb hr hlk hK hP hD hS dX12_then_33 ⟨hF, rfl⟩
  · have hF := brT hF c1
    refine lv_iconst (v := (0 : Int32)) hx hb dX12_then_11 (by decide) ?_
    refine lv_goto (tgt := 33) hx hb dX12_then_12 (by decide) ?_
    exact wi_iret hx hb hr hlk hK hP hD hS dX12_then_33 ⟨hF, rfl⟩
def w_X12_fits (σ : St) (a1 : Int32) (a2 : Int32) (post : Int32 → Prop) : Prop := rd (σ.1 8) 16 a1 (fun v1 => br (v1 = (0 : Int32)) (post (1 : Int32)) (rd (σ.1 8) 16 a1 (fun v3 => br (v3 < a2) (post (0 : Int32)) (post (1 : Int32)))))
set_option maxHeartbeats 4000000 in
set_option maxRecDepth 100000 in
theorem c_X12_fits (l : Launch) (D : va_G) (cy : Nat → ClassId) (ad : Nat → Nat) (tL : Nat) (σ : St) (a1 : Int32) (a2 : Int32) (post : Int32 → Prop) (hF : w_X12_fits σ a1 a2 post) : Cti l yX12_fits cX12_fits 3 (some .boolean) 0 0 D cy ad tL dsM σ [.ref (ad 0), .int a1, .int a2] (fun r u => post r ∧ σ = u) := by
  refine cti_of (by decide) (Nat.le_of_ble_eq_true rfl) ?_
  intro p e s m args below meth c A hx hb hml hr hlk hg hown hA hK H locs hP hD hS hLB ls hl
  have hown : s.vm.findClass RX12 = some m.cls := hown
  have hl : lv_has ls 3 [(0, .ref (ad 0)), (1, .int a1), (2, .int a2)] := hl
  refine lv_aload_n hx hb dX12_fits_0 rfl (lv_at hl 0 rfl) ?_
  refine wi_getr hx hb hg hown hK hP 0 10 8 rfl rfl cb_12 (by decide) kw_583 dX12_fits_1 ?_
  refine lv_iload_n hx hb dX12_fits_4 rfl (lv_at hl 1 rfl) ?_
  obtain ⟨hin, hF⟩ := hF
  refine wi_iald hx hb hK hP 8 rfl hin dX12_fits_5 (fun v1 ev1 => ?_)
  have hF := hF v1 ev1
  refine lv_if_eq (tgt := 19) hx hb dX12_fits_6 (by decide) (fun c2 => ?_) (fun c2 => ?_)
  · have hF := brT hF c2
    refine lv_iconst (v := (1 : Int32)) hx hb dX12_fits_19 (by decide) ?_
    refine lv_goto (tgt := 24) hx hb dX12_fits_20 (by decide) ?_
    exact wi_zret hx hb hr hlk hK hP hD hS dX12_fits_24 (by decide) ⟨hF, rfl⟩
  · have hF := brF hF c2
    refine lv_iload_n hx hb dX12_fits_9 rfl (lv_at hl 2 rfl) ?_
    refine lv_aload_n hx hb dX12_fits_10 rfl (lv_at hl 0 rfl) ?_
    refine wi_getr hx hb hg hown hK hP 0 10 8 rfl rfl cb_12 (by decide) kw_583 dX12_fits_11 ?_
    refine lv_iload_n hx hb dX12_fits_14 rfl (lv_at hl 1 rfl) ?_
    obtain ⟨hin, hF⟩ := hF
    refine wi_iald hx hb hK hP 8 rfl hin dX12_fits_15 (fun v3 ev3 => ?_)
    have hF := hF v3 ev3
    refine lv_icmp_gt (tgt := 23) hx hb dX12_fits_16 (by decide) (fun c4 => ?_) (fun c4 => ?_)
    · have hF := brT hF c4
      refine lv_iconst (v := (0 : Int32)) hx hb dX12_fits_23 (by decide) ?_
      exact wi_zret hx hb hr hlk hK hP hD hS dX12_fits_24 (by decide) ⟨hF, rfl⟩
    · have hF := brF hF c4
      refine lv_iconst (v := (1 : Int32)) hx hb dX12_fits_19 (by decide) ?_
      refine lv_goto (tgt := 24) hx hb dX12_fits_20 (by decide) ?_
      exact wi_zret hx hb hr hlk hK hP hD hS dX12_fits_24 (by decide) ⟨hF, rfl⟩
def w_X12_mixed (σ : St) (a1 : Int32) (post : Int32 → Prop) : Prop := w_X12_settle σ (((σ.1 0 21) &&& (a1 ^^^ (-1 : Int32))) ||| ((σ.1 0 22) &&& a1)) (fun r1 => post r1)
set_option maxHeartbeats 4000000 in
set_option maxRecDepth 100000 in
theorem c_X12_mixed (l : Launch) (D : va_G) (cy : Nat → ClassId) (ad : Nat → Nat) (tL : Nat) (σ : St) (a1 : Int32) (post : Int32 → Prop) (hF : w_X12_mixed σ a1 post) : Cti l yX12_mixed cX12_mixed 2 (some .int) 2 47 D cy ad tL dsM σ [.ref (ad 0), .int a1] (fun r u => post r ∧ σ = u) := by
  refine cti_of (by decide) (Nat.le_of_ble_eq_true rfl) ?_
  intro p e s m args below meth c A hx hb hml hr hlk hg hown hA hK H locs hP hD hS hLB ls hl
  have hown : s.vm.findClass RX12 = some m.cls := hown
  have hl : lv_has ls 2 [(0, .ref (ad 0)), (1, .int a1)] := hl
  refine lv_aload_n hx hb dX12_mixed_0 rfl (lv_at hl 0 rfl) ?_
  refine lv_aload_n hx hb dX12_mixed_1 rfl (lv_at hl 0 rfl) ?_
  refine wi_geti hx hb hg hown hK hP 0 21 rfl rfl cb_12 (by decide) kw_665 dX12_mixed_2 ?_
  refine lv_iload_n hx hb dX12_mixed_5 rfl (lv_at hl 1 rfl) ?_
  refine lv_iconst (v := (-1 : Int32)) hx hb dX12_mixed_6 (by decide) ?_
  refine lv_ixor hx hb dX12_mixed_7 ?_
  refine lv_iand hx hb dX12_mixed_8 ?_
  refine lv_aload_n hx hb dX12_mixed_9 rfl (lv_at hl 0 rfl) ?_
  refine wi_geti hx hb hg hown hK hP 0 22 rfl rfl cb_12 (by decide) kw_666 dX12_mixed_10 ?_
  refine lv_iload_n hx hb dX12_mixed_13 rfl (lv_at hl 1 rfl) ?_
  refine lv_iand hx hb dX12_mixed_14 ?_
  refine lv_ior hx hb dX12_mixed_15 ?_
  refine wi_callVi (k := 0) (As := [.int (((σ.1 0 21) &&& (a1 ^^^ (-1 : Int32))) ||| ((σ.1 0 22) &&& a1))]) (c_X12_settle l D cy ad tL σ (((σ.1 0 21) &&& (a1 ^^^ (-1 : Int32))) ||| ((σ.1 0 22) &&& a1)) _ hF) vw_RX12_137 rfl cb_12 hx hb hml hown hg hK hP hD hS hA hLB rfl ⟨Nat.le_of_ble_eq_true rfl, Nat.le_of_ble_eq_true rfl⟩ hl.1 rfl (Nat.le_of_ble_eq_true rfl) dX12_mixed_16 (fun r1 σ2 hw H locs hP hD hS => ?_)
  obtain ⟨hF, rfl⟩ := hw
  exact wi_iret hx hb hr hlk hK hP hD hS dX12_mixed_19 ⟨hF, rfl⟩
def w_X12_isEither_L72 (a1 : Int32) (y2 : Int32) (r4 : Int32) (σ : St) (post : Int32 → Prop) (J6 : Prop) (rec8 : Int32 → Prop) (y7 : Int32) : Prop := br (y7 ≤ (0 : Int32)) (J6) (w_X12_mixed σ y7 (fun r10 => rd (σ.1 4) 24 a1 (fun v12 => w_X12_bitOf r10 v12 (fun r13 => br (r13 = r4) (nm ((y7 - (1 : Int32)) &&& y2) (fun x16 => rec8 x16)) (post (1 : Int32))))))
def w_X12_isEither_L4 (a1 : Int32) (σ : St) (J1 : Int32 → Prop) (rec19 : Int32 → Int32 → Prop) (y17 : Int32) (y18 : Int32) : Prop := br ((σ.1 0 1) ≤ y18) (J1 y17) (jn (α := Int32 → Prop) (fun (y22 : Int32) => nm (y17 ||| y22) (fun x23 => nm (y18 + (1 : Int32)) (fun x24 => rec19 x23 x24))) (fun J21 => jn (α := Prop) (J21 (0 : Int32)) (fun J25 => br ((((σ.1 0 23) >>> (y18 &&& 31)) &&& (1 : Int32)) = (1 : Int32)) (rd (σ.1 2) 24 y18 (fun v27 => rd (σ.1 2) 24 a1 (fun v28 => br (v27 = v28) (J25) (J21 ((1 : Int32) <<< (y18 &&& 31)))))) (J25))))
def w_X12_isEither (σ : St) (a1 : Int32) (post : Int32 → Prop) : Prop := jn (α := Int32 → Prop) (fun (y2 : Int32) => rd (σ.1 4) 24 a1 (fun v3 => w_X12_bitOf (σ.1 0 21) v3 (fun r4 => jn (α := Prop) (post (0 : Int32)) (fun J6 => lpE1 (w_X12_isEither_L72 a1 y2 r4 σ post J6) y2)))) (fun J1 => lpE2 (w_X12_isEither_L4 a1 σ J1) (0 : Int32) (0 : Int32))
set_option maxHeartbeats 4000000 in
set_option maxRecDepth 100000 in
theorem c_X12_isEither (l : Launch) (D : va_G) (cy : Nat → ClassId) (ad : Nat → Nat) (tL : Nat) (σ : St) (a1 : Int32) (post : Int32 → Prop) (hF : w_X12_isEither σ a1 post) : Cti l yX12_isEither cX12_isEither 5 (some .boolean) 3 68 D cy ad tL dsM σ [.ref (ad 0), .int a1] (fun r u => post r ∧ σ = u) := by
  refine cti_of (by decide) (Nat.le_of_ble_eq_true rfl) ?_
  intro p e s m args below meth c A hx hb hml hr hlk hg hown hA hK H locs hP hD hS hLB ls hl
  have hown : s.vm.findClass RX12 = some m.cls := hown
  have hl : lv_has ls 5 [(0, .ref (ad 0)), (1, .int a1)] := hl
  refine lv_iconst (v := (0 : Int32)) hx hb dX12_isEither_0 (by decide) ?_
  refine lv_istore_n (lv' := [(2, .int (0 : Int32)), (0, .ref (ad 0)), (1, .int a1)]) hx hb dX12_isEither_1 rfl hl (by decide) rfl (fun ls hl => ?_)
  refine lv_iconst (v := (0 : Int32)) hx hb dX12_isEither_2 (by decide) ?_
  refine lv_istore_n (lv' := [(3, .int (0 : Int32)), (2, .int (0 : Int32)), (0, .ref (ad 0)), (1, .int a1)]) hx hb dX12_isEither_3 rfl hl (by decide) rfl (fun ls hl => ?_)
  refine jn_use hF (fun K => ∀ (y2 : Int32) (H : Heap) (locs : List Loc) (ls : Array Slot), K y2 → va_P D vwCl (wld cy ad dsM σ) H → va_D A (wld cy ad dsM σ) → va_S A s.heap H locs → lv_has ls 5 [(0, .ref (ad 0)), (1, .int a1), (2, .int y2)] → W p l e (rmO 3 68) s m args below meth c H locs 0 0 (MQ below (va_Qi (fun r u => post r ∧ σ = u) (cBk D cy ad dsM A) A) args s 0 0 A) (F0 m 55 ls [])) (fun y2 H locs ls hF hP hD hS hl => ?_) (fun J1 hJ1 hF => ?_)
  · refine lv_aload_n hx hb dX12_isEither_55 rfl (lv_at hl 0 rfl) ?_
    refine wi_geti hx hb hg hown hK hP 0 21 rfl rfl cb_12 (by decide) kw_665 dX12_isEither_56 ?_
    refine lv_aload_n hx hb dX12_isEither_59 rfl (lv_at hl 0 rfl) ?_
    refine wi_getr hx hb hg hown hK hP 0 6 4 rfl rfl cb_12 (by decide) kw_561 dX12_isEither_60 ?_
    refine lv_iload_n hx hb dX12_isEither_63 rfl (lv_at hl 1 rfl) ?_
    obtain ⟨hin, hF⟩ := hF
    refine wi_iald hx hb hK hP 4 rfl hin dX12_isEither_64 (fun v3 ev3 => ?_)
    have hF := hF v3 ev3
    refine wi_callSi (As := [.int (σ.1 0 21), .int v3]) (c_X12_bitOf l D cy ad tL σ (σ.1 0 21) v3 _ hF) sw_RX12_133 hx hb hml hown hg hK hP hD hS hA hLB rfl ⟨Nat.le_of_ble_eq_true rfl, Nat.le_of_ble_eq_true rfl⟩ hl.1 rfl (Nat.le_of_ble_eq_true rfl) dX12_isEither_65 (fun r4 σ5 hw H locs hP hD hS => ?_)
    obtain ⟨hF, rfl⟩ := hw
    refine lv_istore_n (lv' := [(3, .int r4), (0, .ref (ad 0)), (1, .int a1), (2, .int y2)]) hx hb dX12_isEither_68 rfl hl (by decide) rfl (fun ls hl => ?_)
    refine lv_iload_n hx hb dX12_isEither_69 rfl (lv_at hl 3 rfl) ?_
    refine lv_istore (lv' := [(4, .int y2), (3, .int r4), (0, .ref (ad 0)), (1, .int a1), (2, .int y2)]) hx hb dX12_isEither_70 hl (by decide) rfl (fun ls hl => ?_)
    refine jn_use hF (fun K => ∀ (H : Heap) (locs : List Loc) (ls : Array Slot), K → va_P D vwCl (wld cy ad dsM σ) H → va_D A (wld cy ad dsM σ) → va_S A s.heap H locs → lv_has ls 5 [] → W p l e (rmO 3 68) s m args below meth c H locs 0 0 (MQ below (va_Qi (fun r u => post r ∧ σ = u) (cBk D cy ad dsM A) A) args s 0 0 A) (F0 m 109 ls [])) (fun H locs ls hF hP hD hS hl => ?_) (fun J6 hJ6 hF => ?_)
    · refine lv_iconst (v := (0 : Int32)) hx hb dX12_isEither_109 (by decide) ?_
      exact wi_zret hx hb hr hlk hK hP hD hS dX12_isEither_110 (by decide) ⟨hF, rfl⟩
    · refine lpE1_use hF (fun (y7 : Int32) => ∀ (H : Heap) (locs : List Loc) (ls : Array Slot), va_P D vwCl (wld cy ad dsM σ) H → va_D A (wld cy ad dsM σ) → va_S A s.heap H locs → lv_has ls 5 [(0, .ref (ad 0)), (1, .int a1), (2, .int y2), (3, .int r4), (4, .int y7)] → W p l e (rmO 3 68) s m args below meth c H locs 0 0 (MQ below (va_Qi (fun r u => post r ∧ σ = u) (cBk D cy ad dsM A) A) args s 0 0 A) (F0 m 72 ls [])) (fun rec8 hrec8 y7 hF H locs ls hP hD hS hl => ?_) H locs ls hP hD hS (lv_sub hl [2, 3, 4, 1, 0] rfl)
      refine lv_iload hx hb dX12_isEither_72 (lv_at hl 4 rfl) ?_
      refine lv_if_le (tgt := 109) hx hb dX12_isEither_74 (by decide) (fun c9 => ?_) (fun c9 => ?_)
      · have hF := brT hF c9
        exact hJ6  H locs ls hF hP hD hS (lv_sub hl [] rfl)
      · have hF := brF hF c9
        refine lv_aload_n hx hb dX12_isEither_77 rfl (lv_at hl 0 rfl) ?_
        refine lv_iload hx hb dX12_isEither_78 (lv_at hl 4 rfl) ?_
        refine wi_callVi (k := 0) (As := [.int y7]) (c_X12_mixed l D cy ad tL σ y7 _ hF) vw_RX12_192 rfl cb_12 hx hb hml hown hg hK hP hD hS hA hLB rfl ⟨Nat.le_of_ble_eq_true rfl, Nat.le_of_ble_eq_true rfl⟩ hl.1 rfl (Nat.le_of_ble_eq_true rfl) dX12_isEither_80 (fun r10 σ11 hw H locs hP hD hS => ?_)
        obtain ⟨hF, rfl⟩ := hw
        refine lv_aload_n hx hb dX12_isEither_83 rfl (lv_at hl 0 rfl) ?_
        refine wi_getr hx hb hg hown hK hP 0 6 4 rfl rfl cb_12 (by decide) kw_561 dX12_isEither_84 ?_
        refine lv_iload_n hx hb dX12_isEither_87 rfl (lv_at hl 1 rfl) ?_
        obtain ⟨hin, hF⟩ := hF
        refine wi_iald hx hb hK hP 4 rfl hin dX12_isEither_88 (fun v12 ev12 => ?_)
        have hF := hF v12 ev12
        refine wi_callSi (As := [.int r10, .int v12]) (c_X12_bitOf l D cy ad tL σ r10 v12 _ hF) sw_RX12_133 hx hb hml hown hg hK hP hD hS hA hLB rfl ⟨Nat.le_of_ble_eq_true rfl, Nat.le_of_ble_eq_true rfl⟩ hl.1 rfl (Nat.le_of_ble_eq_true rfl) dX12_isEither_89 (fun r13 σ14 hw H locs hP hD hS => ?_)
        obtain ⟨hF, rfl⟩ := hw
        refine lv_iload_n hx hb dX12_isEither_92 rfl (lv_at hl 3 rfl) ?_
        refine lv_icmp_eq (tgt := 98) hx hb dX12_isEither_93 (by decide) (fun c15 => ?_) (fun c15 => ?_)
        · have hF := brT hF c15
          refine lv_iload hx hb dX12_isEither_98 (lv_at hl 4 rfl) ?_
          refine lv_iconst (v := (1 : Int32)) hx hb dX12_isEither_100 (by decide) ?_
          refine lv_isub hx hb dX12_isEither_101 ?_
          refine lv_iload_n hx hb dX12_isEither_102 rfl (lv_at hl 2 rfl) ?_
          refine lv_iand hx hb dX12_isEither_103 ?_
          refine lv_topi (fun x16 ex16 => ?_)
          have hF := hF x16 ex16
          refine lv_istore (lv' := [(4, .int x16), (0, .ref (ad 0)), (1, .int a1), (2, .int y2), (3, .int r4)]) hx hb dX12_isEither_104 hl (by decide) rfl (fun ls hl => ?_)
          refine lv_goto (tgt := 72) hx hb dX12_isEither_106 (by decide) ?_
          exact hrec8 x16 hF H locs ls hP hD hS (lv_sub hl [1, 2, 3, 4, 0] rfl)
        · have hF := brF hF c15
          refine lv_iconst (v := (1 : Int32)) hx hb dX12_isEither_96 (by decide) ?_
          exact wi_zret hx hb hr hlk hK hP hD hS dX12_isEither_97 (by decide) ⟨hF, rfl⟩
  · refine lpE2_use hF (fun (y17 : Int32) (y18 : Int32) => ∀ (H : Heap) (locs : List Loc) (ls : Array Slot), va_P D vwCl (wld cy ad dsM σ) H → va_D A (wld cy ad dsM σ) → va_S A s.heap H locs → lv_has ls 5 [(0, .ref (ad 0)), (1, .int a1), (2, .int y17), (3, .int y18)] → W p l e (rmO 3 68) s m args below meth c H locs 0 0 (MQ below (va_Qi (fun r u => post r ∧ σ = u) (cBk D cy ad dsM A) A) args s 0 0 A) (F0 m 4 ls [])) (fun rec19 hrec19 y17 y18 hF H locs ls hP hD hS hl => ?_) H locs ls hP hD hS (lv_sub hl [2, 3, 1, 0] rfl)
    refine lv_iload_n hx hb dX12_isEither_4 rfl (lv_at hl 3 rfl) ?_
    refine lv_aload_n hx hb dX12_isEither_5 rfl (lv_at hl 0 rfl) ?_
    refine wi_geti hx hb hg hown hK hP 0 1 rfl rfl cb_12 (by decide) kw_559 dX12_isEither_6 ?_
    refine lv_icmp_ge (tgt := 55) hx hb dX12_isEither_9 (by decide) (fun c20 => ?_) (fun c20 => ?_)
    · have hF := brT hF c20
      exact hJ1 y17 H locs ls hF hP hD hS (lv_sub hl [0, 1, 2] rfl)
    · have hF := brF hF c20
      refine lv_iload_n hx hb dX12_isEither_12 rfl (lv_at hl 2 rfl) ?_
      refine lv_aload_n hx hb dX12_isEither_13 rfl (lv_at hl 0 rfl) ?_
      refine wi_geti hx hb hg hown hK hP 0 23 rfl rfl cb_12 (by decide) kw_668 dX12_isEither_14 ?_
      refine lv_iload_n hx hb dX12_isEither_17 rfl (lv_at hl 3 rfl) ?_
      refine lv_ishr hx hb dX12_isEither_18 ?_
      refine lv_iconst (v := (1 : Int32)) hx hb dX12_isEither_19 (by decide) ?_
      refine lv_iand hx hb dX12_isEither_20 ?_
      refine lv_iconst (v := (1 : Int32)) hx hb dX12_isEither_21 (by decide) ?_
      refine jn_use hF (fun K => ∀ (y22 : Int32) (H : Heap) (locs : List Loc) (ls : Array Slot), K y22 → va_P D vwCl (wld cy ad dsM σ) H → va_D A (wld cy ad dsM σ) → va_S A s.heap H locs → lv_has ls 5 [(0, .ref (ad 0)), (1, .int a1), (3, .int y18)] → W p l e (rmO 3 68) s m args below meth c H locs 0 0 (MQ below (va_Qi (fun r u => post r ∧ σ = u) (cBk D cy ad dsM A) A) args s 0 0 A) (F0 m 47 ls [.int y22, .int y17])) (fun y22 H locs ls hF hP hD hS hl => ?_) (fun J21 hJ21 hF => ?_)
      · refine lv_ior hx hb dX12_isEither_47 ?_
        refine lv_topi (fun x23 ex23 => ?_)
        have hF := hF x23 ex23
        refine lv_istore_n (lv' := [(2, .int x23), (0, .ref (ad 0)), (1, .int a1), (3, .int y18)]) hx hb dX12_isEither_48 rfl hl (by decide) rfl (fun ls hl => ?_)
        obtain ⟨x24, ex24⟩ : ∃ z : Int32, z = (y18 + (1 : Int32)) := ⟨_, rfl⟩
        have hF := hF x24 ex24
        refine lv_iinc (v := x24) (lv' := [(3, .int x24), (2, .int x23), (0, .ref (ad 0)), (1, .int a1)]) hx hb dX12_isEither_49 hl (k := 3) rfl (by rw [ex24]; rfl) (by decide) rfl (fun ls hl => ?_)
        refine lv_goto (tgt := 4) hx hb dX12_isEither_52 (by decide) ?_
        exact hrec19 x23 x24 hF H locs ls hP hD hS (lv_sub hl [2, 3, 1, 0] rfl)
      · refine jn_use hF (fun K => ∀ (H : Heap) (locs : List Loc) (ls : Array Slot), K → va_P D vwCl (wld cy ad dsM σ) H → va_D A (wld cy ad dsM σ) → va_S A s.heap H locs → lv_has ls 5 [(0, .ref (ad 0)), (1, .int a1), (3, .int y18)] → W p l e (rmO 3 68) s m args below meth c H locs 0 0 (MQ below (va_Qi (fun r u => post r ∧ σ = u) (cBk D cy ad dsM A) A) args s 0 0 A) (F0 m 46 ls [.int y17])) (fun H locs ls hF hP hD hS hl => ?_) (fun J25 hJ25 hF => ?_)
        · refine lv_iconst (v := (0 : Int32)) hx hb dX12_isEither_46 (by decide) ?_
          exact hJ21 (0 : Int32) H locs ls hF hP hD hS (lv_sub hl [0, 1, 2] rfl)
        · refine lv_icmp_ne (tgt := 46) hx hb dX12_isEither_22 (by decide) (fun c26 => ?_) (fun c26 => ?_)
          · have hF := brF hF c26
            exact hJ25  H locs ls hF hP hD hS (lv_sub hl [0, 1, 3] rfl)
          · have hF := brT hF c26
            refine lv_aload_n hx hb dX12_isEither_25 rfl (lv_at hl 0 rfl) ?_
            refine wi_getr hx hb hg hown hK hP 0 4 2 rfl rfl cb_12 (by decide) kw_581 dX12_isEither_26 ?_
            refine lv_iload_n hx hb dX12_isEither_29 rfl (lv_at hl 3 rfl) ?_
            obtain ⟨hin, hF⟩ := hF
            refine wi_iald hx hb hK hP 2 rfl hin dX12_isEither_30 (fun v27 ev27 => ?_)
            have hF := hF v27 ev27
            refine lv_aload_n hx hb dX12_isEither_31 rfl (lv_at hl 0 rfl) ?_
            refine wi_getr hx hb hg hown hK hP 0 4 2 rfl rfl cb_12 (by decide) kw_581 dX12_isEither_32 ?_
            refine lv_iload_n hx hb dX12_isEither_35 rfl (lv_at hl 1 rfl) ?_
            obtain ⟨hin, hF⟩ := hF
            refine wi_iald hx hb hK hP 2 rfl hin dX12_isEither_36 (fun v28 ev28 => ?_)
            have hF := hF v28 ev28
            refine lv_icmp_eq (tgt := 46) hx hb dX12_isEither_37 (by decide) (fun c29 => ?_) (fun c29 => ?_)
            · have hF := brT hF c29
              exact hJ25  H locs ls hF hP hD hS (lv_sub hl [0, 1, 3] rfl)
            · have hF := brF hF c29
              refine lv_iconst (v := (1 : Int32)) hx hb dX12_isEither_40 (by decide) ?_
              refine lv_iload_n hx hb dX12_isEither_41 rfl (lv_at hl 3 rfl) ?_
              refine lv_ishl hx hb dX12_isEither_42 ?_
              refine lv_goto (tgt := 47) hx hb dX12_isEither_43 (by decide) ?_
              exact hJ21 ((1 : Int32) <<< (y18 &&& 31)) H locs ls hF hP hD hS (lv_sub hl [0, 1, 3] rfl)
def w_X12_look_L172 (a2 : Int32) (J7 : St → Prop) (rec11 : Int32 → St → Prop) (y9 : Int32) (σ10 : St) : Prop := br ((σ10.1 0 1) ≤ y9) (J7 σ10) (rd (σ10.1 1) 24 y9 (fun v13 => jn (α := Int32 → Prop) (fun (y15 : Int32) => nm (upI σ10 0 24 ((σ10.1 0 24) ||| y15)) (fun σ16 => nm (y9 + (1 : Int32)) (fun x17 => rec11 x17 σ16))) (fun J14 => jn (α := Prop) (J14 (0 : Int32)) (fun J18 => br (v13 = (6 : Int32)) (w_X12_isTicking σ10 a2 y9 (fun r20 => br (r20 = (0 : Int32)) (J18) (w_X12_isEither σ10 y9 (fun r23 => br (r23 = (0 : Int32)) (J18) (J14 ((1 : Int32) <<< (y9 &&& 31))))))) (J18)))))
def w_X12_look_L21 (a1 : Int32) (a2 : Int32) (a3 : Int32) (J4 : St → Prop) (rec29 : Int32 → Int32 → St → Prop) (y26 : Int32) (y27 : Int32) (σ28 : St) : Prop := br ((σ28.1 0 1) ≤ y27) (J4 σ28) (w_X12_isTicking σ28 a2 y27 (fun r31 => br (r31 = (0 : Int32)) (nm (y27 + (1 : Int32)) (fun x55 => rec29 y26 x55 σ28)) (rd (σ28.1 1) 24 y27 (fun v34 => jn (α := Int32 → Prop) (fun (y36 : Int32) => rd (σ28.1 1) 24 y27 (fun v37 => jn (α := Int32 → Prop) (fun (y39 : Int32) => nm (y26 + y39) (fun x40 => nm (upI σ28 0 22 (((σ28.1 0 22) &&& (((1 : Int32) <<< (y27 &&& 31)) ^^^ (-1 : Int32))) ||| (y36 <<< (y27 &&& 31)))) (fun σ41 => w_X12_bitOf a1 y27 (fun r42 => jn (α := Int32 → Prop) (fun (y45 : Int32) => nm (upI σ41 0 23 ((σ41.1 0 23) ||| y45)) (fun σ46 => nm (y27 + (1 : Int32)) (fun x47 => rec29 x40 x47 σ46))) (fun J44 => br (y36 = r42) (J44 (0 : Int32)) (J44 ((1 : Int32) <<< (y27 &&& 31)))))))) (fun J38 => br (v37 = (5 : Int32)) (J38 (1 : Int32)) (J38 (0 : Int32))))) (fun J35 => br (v34 = (6 : Int32)) (rd (σ28.1 4) 24 y27 (fun v52 => w_X12_bitOf a1 v52 (fun r53 => J35 r53))) (br ((31 : Int32) ≤ y26) (J35 (0 : Int32)) (J35 ((a3 >>> (y26 &&& 31)) &&& (1 : Int32)))))))))
def w_X12_look (σ : St) (a1 : Int32) (a2 : Int32) (a3 : Int32) (post : St → Prop) : Prop := nm (upI σ 0 21 a1) (fun σ1 => nm (upI σ1 0 22 a1) (fun σ2 => nm (upI σ2 0 23 (0 : Int32)) (fun σ3 => jn (α := St → Prop) (fun (σ5 : St) => nm (upI σ5 0 24 (0 : Int32)) (fun σ6 => jn (α := St → Prop) (fun (σ8 : St) => post σ8) (fun J7 => lpE2 (w_X12_look_L172 a2 J7) (0 : Int32) σ6))) (fun J4 => lpE3 (w_X12_look_L21 a1 a2 a3 J4) (0 : Int32) (0 : Int32) σ3))))
set_option maxHeartbeats 4000000 in
set_option maxRecDepth 100000 in
theorem c_X12_look (l : Launch) (D : va_G) (cy : Nat → ClassId) (ad : Nat → Nat) (tL : Nat) (σ : St) (a1 : Int32) (a2 : Int32) (a3 : Int32) (post : St → Prop) (hF : w_X12_look σ a1 a2 a3 post) : Ctv l yX12_look cX12_look 7 none 4 92 D cy ad tL dsM σ [.ref (ad 0), .int a1, .int a2, .int a3] post := by
  refine ctv_of (by decide) (Nat.le_of_ble_eq_true rfl) ?_
  intro p e s m args below meth c A hx hb hml hr hlk hg hown hA hK H locs hP hD hS hLB ls hl
  have hown : s.vm.findClass RX12 = some m.cls := hown
  have hl : lv_has ls 7 [(0, .ref (ad 0)), (1, .int a1), (2, .int a2), (3, .int a3)] := hl
  refine lv_aload_n hx hb dX12_look_0 rfl (lv_at hl 0 rfl) ?_
  refine lv_iload_n hx hb dX12_look_1 rfl (lv_at hl 1 rfl) ?_
  refine wi_puti hx hb hg hown hK hP hD hS 0 21 rfl rfl cb_12 (by decide) kw_665 rfl rfl rfl dX12_look_2 (fun σ1 eσ1 H locs hP hD hS => ?_)
  have hF := hF σ1 eσ1
  refine lv_aload_n hx hb dX12_look_5 rfl (lv_at hl 0 rfl) ?_
  refine lv_iload_n hx hb dX12_look_6 rfl (lv_at hl 1 rfl) ?_
  refine wi_puti hx hb hg hown hK hP hD hS 0 22 rfl rfl cb_12 (by decide) kw_666 rfl rfl rfl dX12_look_7 (fun σ2 eσ2 H locs hP hD hS => ?_)
  have hF := hF σ2 eσ2
  refine lv_aload_n hx hb dX12_look_10 rfl (lv_at hl 0 rfl) ?_
  refine lv_iconst (v := (0 : Int32)) hx hb dX12_look_11 (by decide) ?_
  refine wi_puti hx hb hg hown hK hP hD hS 0 23 rfl rfl cb_12 (by decide) kw_668 rfl rfl rfl dX12_look_12 (fun σ3 eσ3 H locs hP hD hS => ?_)
  have hF := hF σ3 eσ3
  refine lv_iconst (v := (0 : Int32)) hx hb dX12_look_15 (by decide) ?_
  refine lv_istore (lv' := [(4, .int (0 : Int32)), (0, .ref (ad 0)), (1, .int a1), (2, .int a2), (3, .int a3)]) hx hb dX12_look_16 hl (by decide) rfl (fun ls hl => ?_)
  refine lv_iconst (v := (0 : Int32)) hx hb dX12_look_18 (by decide) ?_
  refine lv_istore (lv' := [(5, .int (0 : Int32)), (4, .int (0 : Int32)), (0, .ref (ad 0)), (1, .int a1), (2, .int a2), (3, .int a3)]) hx hb dX12_look_19 hl (by decide) rfl (fun ls hl => ?_)
  refine jn_use hF (fun K => ∀ (σ5 : St) (H : Heap) (locs : List Loc) (ls : Array Slot), K σ5 → va_P D vwCl (wld cy ad dsM σ5) H → va_D A (wld cy ad dsM σ5) → va_S A s.heap H locs → lv_has ls 7 [(0, .ref (ad 0)), (2, .int a2)] → W p l e (rmO 4 92) s m args below meth c H locs 0 0 (MQ below (va_Qv post (cBk D cy ad dsM A) A) args s 0 0 A) (F0 m 164 ls [])) (fun σ5 H locs ls hF hP hD hS hl => ?_) (fun J4 hJ4 hF => ?_)
  · refine lv_aload_n hx hb dX12_look_164 rfl (lv_at hl 0 rfl) ?_
    refine lv_iconst (v := (0 : Int32)) hx hb dX12_look_165 (by decide) ?_
    refine wi_puti hx hb hg hown hK hP hD hS 0 24 rfl rfl cb_12 (by decide) kw_672 rfl rfl rfl dX12_look_166 (fun σ6 eσ6 H locs hP hD hS => ?_)
    have hF := hF σ6 eσ6
    refine lv_iconst (v := (0 : Int32)) hx hb dX12_look_169 (by decide) ?_
    refine lv_istore (lv' := [(5, .int (0 : Int32)), (0, .ref (ad 0)), (2, .int a2)]) hx hb dX12_look_170 hl (by decide) rfl (fun ls hl => ?_)
    refine jn_use hF (fun K => ∀ (σ8 : St) (H : Heap) (locs : List Loc) (ls : Array Slot), K σ8 → va_P D vwCl (wld cy ad dsM σ8) H → va_D A (wld cy ad dsM σ8) → va_S A s.heap H locs → lv_has ls 7 [] → W p l e (rmO 4 92) s m args below meth c H locs 0 0 (MQ below (va_Qv post (cBk D cy ad dsM A) A) args s 0 0 A) (F0 m 235 ls [])) (fun σ8 H locs ls hF hP hD hS hl => ?_) (fun J7 hJ7 hF => ?_)
    · exact wi_vret hx hb hr hlk hK hP hD hS dX12_look_235 hF
    · refine lpE2_use hF (fun (y9 : Int32) (σ10 : St) => ∀ (H : Heap) (locs : List Loc) (ls : Array Slot), va_P D vwCl (wld cy ad dsM σ10) H → va_D A (wld cy ad dsM σ10) → va_S A s.heap H locs → lv_has ls 7 [(0, .ref (ad 0)), (2, .int a2), (5, .int y9)] → W p l e (rmO 4 92) s m args below meth c H locs 0 0 (MQ below (va_Qv post (cBk D cy ad dsM A) A) args s 0 0 A) (F0 m 172 ls [])) (fun rec11 hrec11 y9 σ10 hF H locs ls hP hD hS hl => ?_) H locs ls hP hD hS (lv_sub hl [1, 2, 0] rfl)
      refine lv_iload hx hb dX12_look_172 (lv_at hl 2 rfl) ?_
      refine lv_aload_n hx hb dX12_look_174 rfl (lv_at hl 0 rfl) ?_
      refine wi_geti hx hb hg hown hK hP 0 1 rfl rfl cb_12 (by decide) kw_559 dX12_look_175 ?_
      refine lv_icmp_ge (tgt := 235) hx hb dX12_look_178 (by decide) (fun c12 => ?_) (fun c12 => ?_)
      · have hF := brT hF c12
        exact hJ7 σ10 H locs ls hF hP hD hS (lv_sub hl [] rfl)
      · have hF := brF hF c12
        refine lv_aload_n hx hb dX12_look_181 rfl (lv_at hl 0 rfl) ?_
        refine lv_dup hx hb dX12_look_182 rfl ?_
        refine wi_geti hx hb hg hown hK hP 0 24 rfl rfl cb_12 (by decide) kw_672 dX12_look_183 ?_
        refine lv_aload_n hx hb dX12_look_186 rfl (lv_at hl 0 rfl) ?_
        refine wi_getr hx hb hg hown hK hP 0 3 1 rfl rfl cb_12 (by decide) kw_560 dX12_look_187 ?_
        refine lv_iload hx hb dX12_look_190 (lv_at hl 2 rfl) ?_
        obtain ⟨hin, hF⟩ := hF
        refine wi_iald hx hb hK hP 1 rfl hin dX12_look_192 (fun v13 ev13 => ?_)
        have hF := hF v13 ev13
        refine lv_bipush (v := (6 : Int32)) hx hb dX12_look_193 (by decide) ?_
        refine jn_use hF (fun K => ∀ (y15 : Int32) (H : Heap) (locs : List Loc) (ls : Array Slot), K y15 → va_P D vwCl (wld cy ad dsM σ10) H → va_D A (wld cy ad dsM σ10) → va_S A s.heap H locs → lv_has ls 7 [(0, .ref (ad 0)), (2, .int a2), (5, .int y9)] → W p l e (rmO 4 92) s m args below meth c H locs 0 0 (MQ below (va_Qv post (cBk D cy ad dsM A) A) args s 0 0 A) (F0 m 225 ls [.int y15, .int (σ10.1 0 24), .ref (ad 0)])) (fun y15 H locs ls hF hP hD hS hl => ?_) (fun J14 hJ14 hF => ?_)
        · refine lv_ior hx hb dX12_look_225 ?_
          refine wi_puti hx hb hg hown hK hP hD hS 0 24 rfl rfl cb_12 (by decide) kw_672 rfl rfl rfl dX12_look_226 (fun σ16 eσ16 H locs hP hD hS => ?_)
          have hF := hF σ16 eσ16
          obtain ⟨x17, ex17⟩ : ∃ z : Int32, z = (y9 + (1 : Int32)) := ⟨_, rfl⟩
          have hF := hF x17 ex17
          refine lv_iinc (v := x17) (lv' := [(5, .int x17), (0, .ref (ad 0)), (2, .int a2)]) hx hb dX12_look_229 hl (k := 2) rfl (by rw [ex17]; rfl) (by decide) rfl (fun ls hl => ?_)
          refine lv_goto (tgt := 172) hx hb dX12_look_232 (by decide) ?_
          exact hrec11 x17 σ16 hF H locs ls hP hD hS (lv_sub hl [1, 2, 0] rfl)
        · refine jn_use hF (fun K => ∀ (H : Heap) (locs : List Loc) (ls : Array Slot), K → va_P D vwCl (wld cy ad dsM σ10) H → va_D A (wld cy ad dsM σ10) → va_S A s.heap H locs → lv_has ls 7 [(0, .ref (ad 0)), (2, .int a2), (5, .int y9)] → W p l e (rmO 4 92) s m args below meth c H locs 0 0 (MQ below (va_Qv post (cBk D cy ad dsM A) A) args s 0 0 A) (F0 m 224 ls [.int (σ10.1 0 24), .ref (ad 0)])) (fun H locs ls hF hP hD hS hl => ?_) (fun J18 hJ18 hF => ?_)
          · refine lv_iconst (v := (0 : Int32)) hx hb dX12_look_224 (by decide) ?_
            exact hJ14 (0 : Int32) H locs ls hF hP hD hS (lv_sub hl [0, 1, 2] rfl)
          · refine lv_icmp_ne (tgt := 224) hx hb dX12_look_195 (by decide) (fun c19 => ?_) (fun c19 => ?_)
            · have hF := brF hF c19
              exact hJ18  H locs ls hF hP hD hS (lv_sub hl [0, 1, 2] rfl)
            · have hF := brT hF c19
              refine lv_aload_n hx hb dX12_look_198 rfl (lv_at hl 0 rfl) ?_
              refine lv_iload_n hx hb dX12_look_199 rfl (lv_at hl 1 rfl) ?_
              refine lv_iload hx hb dX12_look_200 (lv_at hl 2 rfl) ?_
              refine wi_callVi (k := 0) (As := [.int a2, .int y9]) (c_X12_isTicking l D cy ad tL σ10 a2 y9 _ hF) vw_RX12_195 rfl cb_12 hx hb hml hown hg hK hP hD hS hA hLB rfl ⟨Nat.le_of_ble_eq_true rfl, Nat.le_of_ble_eq_true rfl⟩ hl.1 rfl (Nat.le_of_ble_eq_true rfl) dX12_look_202 (fun r20 σ21 hw H locs hP hD hS => ?_)
              obtain ⟨hF, rfl⟩ := hw
              refine lv_if_eq (tgt := 224) hx hb dX12_look_205 (by decide) (fun c22 => ?_) (fun c22 => ?_)
              · have hF := brT hF c22
                exact hJ18  H locs ls hF hP hD hS (lv_sub hl [0, 1, 2] rfl)
              · have hF := brF hF c22
                refine lv_aload_n hx hb dX12_look_208 rfl (lv_at hl 0 rfl) ?_
                refine lv_iload hx hb dX12_look_209 (lv_at hl 2 rfl) ?_
                refine wi_callVi (k := 0) (As := [.int y9]) (c_X12_isEither l D cy ad tL σ10 y9 _ hF) vw_RX12_202 rfl cb_12 hx hb hml hown hg hK hP hD hS hA hLB rfl ⟨Nat.le_of_ble_eq_true rfl, Nat.le_of_ble_eq_true rfl⟩ hl.1 rfl (Nat.le_of_ble_eq_true rfl) dX12_look_211 (fun r23 σ24 hw H locs hP hD hS => ?_)
                obtain ⟨hF, rfl⟩ := hw
                refine lv_if_eq (tgt := 224) hx hb dX12_look_214 (by decide) (fun c25 => ?_) (fun c25 => ?_)
                · have hF := brT hF c25
                  exact hJ18  H locs ls hF hP hD hS (lv_sub hl [0, 1, 2] rfl)
                · have hF := brF hF c25
                  refine lv_iconst (v := (1 : Int32)) hx hb dX12_look_217 (by decide) ?_
                  refine lv_iload hx hb dX12_look_218 (lv_at hl 2 rfl) ?_
                  refine lv_ishl hx hb dX12_look_220 ?_
                  refine lv_goto (tgt := 225) hx hb dX12_look_221 (by decide) ?_
                  exact hJ14 ((1 : Int32) <<< (y9 &&& 31)) H locs ls hF hP hD hS (lv_sub hl [0, 1, 2] rfl)
  · refine lpE3_use hF (fun (y26 : Int32) (y27 : Int32) (σ28 : St) => ∀ (H : Heap) (locs : List Loc) (ls : Array Slot), va_P D vwCl (wld cy ad dsM σ28) H → va_D A (wld cy ad dsM σ28) → va_S A s.heap H locs → lv_has ls 7 [(0, .ref (ad 0)), (1, .int a1), (2, .int a2), (3, .int a3), (4, .int y26), (5, .int y27)] → W p l e (rmO 4 92) s m args below meth c H locs 0 0 (MQ below (va_Qv post (cBk D cy ad dsM A) A) args s 0 0 A) (F0 m 21 ls [])) (fun rec29 hrec29 y26 y27 σ28 hF H locs ls hP hD hS hl => ?_) H locs ls hP hD hS (lv_sub hl [2, 3, 4, 5, 1, 0] rfl)
    refine lv_iload hx hb dX12_look_21 (lv_at hl 5 rfl) ?_
    refine lv_aload_n hx hb dX12_look_23 rfl (lv_at hl 0 rfl) ?_
    refine wi_geti hx hb hg hown hK hP 0 1 rfl rfl cb_12 (by decide) kw_559 dX12_look_24 ?_
    refine lv_icmp_ge (tgt := 164) hx hb dX12_look_27 (by decide) (fun c30 => ?_) (fun c30 => ?_)
    · have hF := brT hF c30
      exact hJ4 σ28 H locs ls hF hP hD hS (lv_sub hl [0, 2] rfl)
    · have hF := brF hF c30
      refine lv_aload_n hx hb dX12_look_30 rfl (lv_at hl 0 rfl) ?_
      refine lv_iload_n hx hb dX12_look_31 rfl (lv_at hl 2 rfl) ?_
      refine lv_iload hx hb dX12_look_32 (lv_at hl 5 rfl) ?_
      refine wi_callVi (k := 0) (As := [.int a2, .int y27]) (c_X12_isTicking l D cy ad tL σ28 a2 y27 _ hF) vw_RX12_195 rfl cb_12 hx hb hml hown hg hK hP hD hS hA hLB rfl ⟨Nat.le_of_ble_eq_true rfl, Nat.le_of_ble_eq_true rfl⟩ hl.1 rfl (Nat.le_of_ble_eq_true rfl) dX12_look_34 (fun r31 σ32 hw H locs hP hD hS => ?_)
      obtain ⟨hF, rfl⟩ := hw
      refine lv_if_ne (tgt := 43) hx hb dX12_look_37 (by decide) (fun c33 => ?_) (fun c33 => ?_)
      · have hF := brF hF c33
        refine lv_aload_n hx hb dX12_look_43 rfl (lv_at hl 0 rfl) ?_
        refine wi_getr hx hb hg hown hK hP 0 3 1 rfl rfl cb_12 (by decide) kw_560 dX12_look_44 ?_
        refine lv_iload hx hb dX12_look_47 (lv_at hl 5 rfl) ?_
        obtain ⟨hin, hF⟩ := hF
        refine wi_iald hx hb hK hP 1 rfl hin dX12_look_49 (fun v34 ev34 => ?_)
        have hF := hF v34 ev34
        refine lv_bipush (v := (6 : Int32)) hx hb dX12_look_50 (by decide) ?_
        refine jn_use hF (fun K => ∀ (y36 : Int32) (H : Heap) (locs : List Loc) (ls : Array Slot), K y36 → va_P D vwCl (wld cy ad dsM σ28) H → va_D A (wld cy ad dsM σ28) → va_S A s.heap H locs → lv_has ls 7 [(0, .ref (ad 0)), (1, .int a1), (2, .int a2), (3, .int a3), (4, .int y26), (5, .int y27)] → W p l e (rmO 4 92) s m args below meth c H locs 0 0 (MQ below (va_Qv post (cBk D cy ad dsM A) A) args s 0 0 A) (F0 m 86 ls [.int y36])) (fun y36 H locs ls hF hP hD hS hl => ?_) (fun J35 hJ35 hF => ?_)
        · refine lv_istore (lv' := [(6, .int y36), (0, .ref (ad 0)), (1, .int a1), (2, .int a2), (3, .int a3), (4, .int y26), (5, .int y27)]) hx hb dX12_look_86 hl (by decide) rfl (fun ls hl => ?_)
          refine lv_iload hx hb dX12_look_88 (lv_at hl 5 rfl) ?_
          refine lv_aload_n hx hb dX12_look_90 rfl (lv_at hl 1 rfl) ?_
          refine wi_getr hx hb hg hown hK hP 0 3 1 rfl rfl cb_12 (by decide) kw_560 dX12_look_91 ?_
          refine lv_iload hx hb dX12_look_94 (lv_at hl 6 rfl) ?_
          obtain ⟨hin, hF⟩ := hF
          refine wi_iald hx hb hK hP 1 rfl hin dX12_look_96 (fun v37 ev37 => ?_)
          have hF := hF v37 ev37
          refine lv_iconst (v := (5 : Int32)) hx hb dX12_look_97 (by decide) ?_
          refine jn_use hF (fun K => ∀ (y39 : Int32) (H : Heap) (locs : List Loc) (ls : Array Slot), K y39 → va_P D vwCl (wld cy ad dsM σ28) H → va_D A (wld cy ad dsM σ28) → va_S A s.heap H locs → lv_has ls 7 [(0, .ref (ad 0)), (1, .int a1), (2, .int a2), (3, .int a3), (5, .int y27), (6, .int y36)] → W p l e (rmO 4 92) s m args below meth c H locs 0 0 (MQ below (va_Qv post (cBk D cy ad dsM A) A) args s 0 0 A) (F0 m 106 ls [.int y39, .int y26])) (fun y39 H locs ls hF hP hD hS hl => ?_) (fun J38 hJ38 hF => ?_)
          · refine lv_iadd hx hb dX12_look_106 ?_
            refine lv_topi (fun x40 ex40 => ?_)
            have hF := hF x40 ex40
            refine lv_istore (lv' := [(4, .int x40), (0, .ref (ad 0)), (1, .int a1), (2, .int a2), (3, .int a3), (5, .int y27), (6, .int y36)]) hx hb dX12_look_107 hl (by decide) rfl (fun ls hl => ?_)
            refine lv_aload_n hx hb dX12_look_109 rfl (lv_at hl 1 rfl) ?_
            refine lv_aload_n hx hb dX12_look_110 rfl (lv_at hl 1 rfl) ?_
            refine wi_geti hx hb hg hown hK hP 0 22 rfl rfl cb_12 (by decide) kw_666 dX12_look_111 ?_
            refine lv_iconst (v := (1 : Int32)) hx hb dX12_look_114 (by decide) ?_
            refine lv_iload hx hb dX12_look_115 (lv_at hl 5 rfl) ?_
            refine lv_ishl hx hb dX12_look_117 ?_
            refine lv_iconst (v := (-1 : Int32)) hx hb dX12_look_118 (by decide) ?_
            refine lv_ixor hx hb dX12_look_119 ?_
            refine lv_iand hx hb dX12_look_120 ?_
            refine lv_iload hx hb dX12_look_121 (lv_at hl 6 rfl) ?_
            refine lv_iload hx hb dX12_look_123 (lv_at hl 5 rfl) ?_
            refine lv_ishl hx hb dX12_look_125 ?_
            refine lv_ior hx hb dX12_look_126 ?_
            refine wi_puti hx hb hg hown hK hP hD hS 0 22 rfl rfl cb_12 (by decide) kw_666 rfl rfl rfl dX12_look_127 (fun σ41 eσ41 H locs hP hD hS => ?_)
            have hF := hF σ41 eσ41
            refine lv_aload_n hx hb dX12_look_130 rfl (lv_at hl 1 rfl) ?_
            refine lv_dup hx hb dX12_look_131 rfl ?_
            refine wi_geti hx hb hg hown hK hP 0 23 rfl rfl cb_12 (by decide) kw_668 dX12_look_132 ?_
            refine lv_iload hx hb dX12_look_135 (lv_at hl 6 rfl) ?_
            refine lv_iload_n hx hb dX12_look_137 rfl (lv_at hl 2 rfl) ?_
            refine lv_iload hx hb dX12_look_138 (lv_at hl 5 rfl) ?_
            refine wi_callSi (As := [.int a1, .int y27]) (c_X12_bitOf l D cy ad tL σ41 a1 y27 _ hF) sw_RX12_133 hx hb hml hown hg hK hP hD hS hA hLB rfl ⟨Nat.le_of_ble_eq_true rfl, Nat.le_of_ble_eq_true rfl⟩ hl.1 rfl (Nat.le_of_ble_eq_true rfl) dX12_look_140 (fun r42 σ43 hw H locs hP hD hS => ?_)
            obtain ⟨hF, rfl⟩ := hw
            refine jn_use hF (fun K => ∀ (y45 : Int32) (H : Heap) (locs : List Loc) (ls : Array Slot), K y45 → va_P D vwCl (wld cy ad dsM σ41) H → va_D A (wld cy ad dsM σ41) → va_S A s.heap H locs → lv_has ls 7 [(0, .ref (ad 0)), (1, .int a1), (2, .int a2), (3, .int a3), (4, .int x40), (5, .int y27)] → W p l e (rmO 4 92) s m args below meth c H locs 0 0 (MQ below (va_Qv post (cBk D cy ad dsM A) A) args s 0 0 A) (F0 m 154 ls [.int y45, .int (σ41.1 0 23), .ref (ad 0)])) (fun y45 H locs ls hF hP hD hS hl => ?_) (fun J44 hJ44 hF => ?_)
            · refine lv_ior hx hb dX12_look_154 ?_
              refine wi_puti hx hb hg hown hK hP hD hS 0 23 rfl rfl cb_12 (by decide) kw_668 rfl rfl rfl dX12_look_155 (fun σ46 eσ46 H locs hP hD hS => ?_)
              have hF := hF σ46 eσ46
              obtain ⟨x47, ex47⟩ : ∃ z : Int32, z = (y27 + (1 : Int32)) := ⟨_, rfl⟩
              have hF := hF x47 ex47
              refine lv_iinc (v := x47) (lv' := [(5, .int x47), (0, .ref (ad 0)), (1, .int a1), (2, .int a2), (3, .int a3), (4, .int x40)]) hx hb dX12_look_158 hl (k := 5) rfl (by rw [ex47]; rfl) (by decide) rfl (fun ls hl => ?_)
              refine lv_goto (tgt := 21) hx hb dX12_look_161 (by decide) ?_
              exact hrec29 x40 x47 σ46 hF H locs ls hP hD hS (lv_sub hl [1, 2, 3, 4, 5, 0] rfl)
            · refine lv_icmp_eq (tgt := 153) hx hb dX12_look_143 (by decide) (fun c48 => ?_) (fun c48 => ?_)
              · have hF := brT hF c48
                refine lv_iconst (v := (0 : Int32)) hx hb dX12_look_153 (by decide) ?_
                exact hJ44 (0 : Int32) H locs ls hF hP hD hS (lv_sub hl [1, 2, 3, 4, 0, 5] rfl)
              · have hF := brF hF c48
                refine lv_iconst (v := (1 : Int32)) hx hb dX12_look_146 (by decide) ?_
                refine lv_iload hx hb dX12_look_147 (lv_at hl 5 rfl) ?_
                refine lv_ishl hx hb dX12_look_149 ?_
                refine lv_goto (tgt := 154) hx hb dX12_look_150 (by decide) ?_
                exact hJ44 ((1 : Int32) <<< (y27 &&& 31)) H locs ls hF hP hD hS (lv_sub hl [1, 2, 3, 4, 0, 5] rfl)
          · refine lv_icmp_ne (tgt := 105) hx hb dX12_look_98 (by decide) (fun c49 => ?_) (fun c49 => ?_)
            · have hF := brF hF c49
              refine lv_iconst (v := (0 : Int32)) hx hb dX12_look_105 (by decide) ?_
              exact hJ38 (0 : Int32) H locs ls hF hP hD hS (lv_sub hl [1, 2, 3, 4, 6, 0] rfl)
            · have hF := brT hF c49
              refine lv_iconst (v := (1 : Int32)) hx hb dX12_look_101 (by decide) ?_
              refine lv_goto (tgt := 106) hx hb dX12_look_102 (by decide) ?_
              exact hJ38 (1 : Int32) H locs ls hF hP hD hS (lv_sub hl [1, 2, 3, 4, 6, 0] rfl)
        · refine lv_icmp_ne (tgt := 69) hx hb dX12_look_52 (by decide) (fun c50 => ?_) (fun c50 => ?_)
          · have hF := brF hF c50
            refine lv_iload hx hb dX12_look_69 (lv_at hl 4 rfl) ?_
            refine lv_bipush (v := (31 : Int32)) hx hb dX12_look_71 (by decide) ?_
            refine lv_icmp_ge (tgt := 85) hx hb dX12_look_73 (by decide) (fun c51 => ?_) (fun c51 => ?_)
            · have hF := brT hF c51
              refine lv_iconst (v := (0 : Int32)) hx hb dX12_look_85 (by decide) ?_
              exact hJ35 (0 : Int32) H locs ls hF hP hD hS (lv_sub hl [0, 1, 2, 3, 4, 5] rfl)
            · have hF := brF hF c51
              refine lv_iload_n hx hb dX12_look_76 rfl (lv_at hl 3 rfl) ?_
              refine lv_iload hx hb dX12_look_77 (lv_at hl 4 rfl) ?_
              refine lv_ishr hx hb dX12_look_79 ?_
              refine lv_iconst (v := (1 : Int32)) hx hb dX12_look_80 (by decide) ?_
              refine lv_iand hx hb dX12_look_81 ?_
              refine lv_goto (tgt := 86) hx hb dX12_look_82 (by decide) ?_
              exact hJ35 ((a3 >>> (y26 &&& 31)) &&& (1 : Int32)) H locs ls hF hP hD hS (lv_sub hl [0, 1, 2, 3, 4, 5] rfl)
          · have hF := brT hF c50
            refine lv_iload_n hx hb dX12_look_55 rfl (lv_at hl 1 rfl) ?_
            refine lv_aload_n hx hb dX12_look_56 rfl (lv_at hl 0 rfl) ?_
            refine wi_getr hx hb hg hown hK hP 0 6 4 rfl rfl cb_12 (by decide) kw_561 dX12_look_57 ?_
            refine lv_iload hx hb dX12_look_60 (lv_at hl 5 rfl) ?_
            obtain ⟨hin, hF⟩ := hF
            refine wi_iald hx hb hK hP 4 rfl hin dX12_look_62 (fun v52 ev52 => ?_)
            have hF := hF v52 ev52
            refine wi_callSi (As := [.int a1, .int v52]) (c_X12_bitOf l D cy ad tL σ28 a1 v52 _ hF) sw_RX12_133 hx hb hml hown hg hK hP hD hS hA hLB rfl ⟨Nat.le_of_ble_eq_true rfl, Nat.le_of_ble_eq_true rfl⟩ hl.1 rfl (Nat.le_of_ble_eq_true rfl) dX12_look_63 (fun r53 σ54 hw H locs hP hD hS => ?_)
            obtain ⟨hF, rfl⟩ := hw
            refine lv_goto (tgt := 86) hx hb dX12_look_66 (by decide) ?_
            exact hJ35 r53 H locs ls hF hP hD hS (lv_sub hl [0, 1, 2, 3, 4, 5] rfl)
      · have hF := brT hF c33
        refine lv_goto (tgt := 158) hx hb dX12_look_40 (by decide) ?_
        obtain ⟨x55, ex55⟩ : ∃ z : Int32, z = (y27 + (1 : Int32)) := ⟨_, rfl⟩
        have hF := hF x55 ex55
        refine lv_iinc (v := x55) (lv' := [(5, .int x55), (0, .ref (ad 0)), (1, .int a1), (2, .int a2), (3, .int a3), (4, .int y26)]) hx hb dX12_look_158 hl (k := 5) rfl (by rw [ex55]; rfl) (by decide) rfl (fun ls hl => ?_)
        refine lv_goto (tgt := 21) hx hb dX12_look_161 (by decide) ?_
        exact hrec29 y26 x55 σ28 hF H locs ls hP hD hS (lv_sub hl [1, 2, 3, 4, 5, 0] rfl)
