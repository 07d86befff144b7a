def w_X12_make_L58 (a1 : Int32) (a3 : Int32) (J12 : St → Prop) (rec16 : Int32 → St → Prop) (y14 : Int32) (σ15 : St) : Prop := br (a3 ≤ y14) (J12 σ15) (ck (((60 : Int32) * a1) + y14) 480 (nm (upI σ15 35 ((((60 : Int32) * a1) + y14)).toNatClampNeg (0 : Int32)) (fun σ18 => nm (y14 + (1 : Int32)) (fun x19 => rec16 x19 σ18))))
def w_X12_make (σ : St) (a1 : Int32) (a2 : Int32) (a3 : Int32) (post : Int32 → St → Prop) : Prop := nm (upI σ 0 0 (0 : Int32)) (fun σ1 => w_X12_isShelf a1 (fun r2 => br (r2 = (0 : Int32)) (post (-1 : Int32) σ1) (w_X12_isIn ((a2 : Int32).toInt64) (3 : Int64) (4 : Int64) (fun r5 => br (r5 = (0 : Int32)) (post (-1 : Int32) σ1) (br (a3 ≤ (60 : Int32)) (br ((0 : Int32) ≤ a3) (ck a1 8 (nm (upI σ1 31 (a1).toNatClampNeg a2) (fun σ10 => ck a1 8 (nm (upI σ10 32 (a1).toNatClampNeg a3) (fun σ11 => jn (α := St → Prop) (fun (σ13 : St) => post (0 : Int32) σ13) (fun J12 => lpE2 (w_X12_make_L58 a1 a3 J12) (0 : Int32) σ11)))))) (post (-14 : Int32) σ1)) (post (-1 : Int32) σ1))))))
set_option maxHeartbeats 4000000 in
set_option maxRecDepth 100000 in
theorem c_X12_make (l : Launch) (D : va_G) (cy : Nat → ClassId) (ad : Nat → Nat) (tL : Nat) (σ : St) (a1 : Int32) (a2 : Int32) (a3 : Int32) (post : Int32 → St → Prop) (hF : w_X12_make σ a1 a2 a3 post) : Cti l yX12_make cX12_make 5 (some .int) 1 25 D cy ad tL dsM σ [.ref (ad 0), .int a1, .int a2, .int a3] post := by
  refine cti_of (by decide) (Nat.le_of_ble_eq_true rfl) ?_
  intro p e s m args below meth c A hx hb hml hr hlk hg hown hA hK H locs hP hD hS hLB ls hl
  have hown : s.vm.findClass RX12 = some m.cls := hown
  have hl : lv_has ls 5 [(0, .ref (ad 0)), (1, .int a1), (2, .int a2), (3, .int a3)] := hl
  refine lv_aload_n hx hb dX12_make_0 rfl (lv_at hl 0 rfl) ?_
  refine lv_iconst (v := (0 : Int32)) hx hb dX12_make_1 (by decide) ?_
  refine wi_puti hx hb hg hown hK hP hD hS 0 0 rfl rfl cb_12 (by decide) kw_615 rfl rfl rfl dX12_make_2 (fun σ1 eσ1 H locs hP hD hS => ?_)
  have hF := hF σ1 eσ1
  refine lv_iload_n hx hb dX12_make_5 rfl (lv_at hl 1 rfl) ?_
  refine wi_callSi (As := [.int a1]) (c_X12_isShelf l D cy ad tL σ1 a1 _ hF) sw_RX12_322 hx hb hml hown hg hK hP hD hS hA hLB rfl ⟨Nat.le_of_ble_eq_true rfl, Nat.le_of_ble_eq_true rfl⟩ hl.1 rfl (Nat.le_of_ble_eq_true rfl) dX12_make_6 (fun r2 σ3 hw H locs hP hD hS => ?_)
  obtain ⟨hF, rfl⟩ := hw
  refine lv_if_eq (tgt := 32) hx hb dX12_make_9 (by decide) (fun c4 => ?_) (fun c4 => ?_)
  · have hF := brT hF c4
    refine lv_iconst (v := (-1 : Int32)) hx hb dX12_make_32 (by decide) ?_
    exact wi_iret hx hb hr hlk hK hP hD hS dX12_make_33 hF
  · have hF := brF hF c4
    refine lv_iload_n hx hb dX12_make_12 rfl (lv_at hl 2 rfl) ?_
    refine lv_i2l hx hb dX12_make_13 rfl ?_
    refine lv_ldc2 (v := (3 : Int64)) hx hb hown (hg _ kw_639) dX12_make_14 ?_
    refine lv_ldc2 (v := (4 : Int64)) hx hb hown (hg _ kw_647) dX12_make_17 ?_
    refine wi_callSi (As := [.long ((a2 : Int32).toInt64), .long (3 : Int64), .long (4 : Int64)]) (c_X12_isIn l D cy ad tL σ1 ((a2 : Int32).toInt64) (3 : Int64) (4 : Int64) _ hF) sw_RX12_156 hx hb hml hown hg hK hP hD hS hA hLB rfl ⟨Nat.le_of_ble_eq_true rfl, Nat.le_of_ble_eq_true rfl⟩ hl.1 rfl (Nat.le_of_ble_eq_true rfl) dX12_make_20 (fun r5 σ6 hw H locs hP hD hS => ?_)
    obtain ⟨hF, rfl⟩ := hw
    refine lv_if_eq (tgt := 32) hx hb dX12_make_23 (by decide) (fun c7 => ?_) (fun c7 => ?_)
    · have hF := brT hF c7
      refine lv_iconst (v := (-1 : Int32)) hx hb dX12_make_32 (by decide) ?_
      exact wi_iret hx hb hr hlk hK hP hD hS dX12_make_33 hF
    · have hF := brF hF c7
      refine lv_iload_n hx hb dX12_make_26 rfl (lv_at hl 3 rfl) ?_
      refine lv_bipush (v := (60 : Int32)) hx hb dX12_make_27 (by decide) ?_
      refine lv_icmp_le (tgt := 34) hx hb dX12_make_29 (by decide) (fun c8 => ?_) (fun c8 => ?_)
      · have hF := brT hF c8
        refine lv_iload_n hx hb dX12_make_34 rfl (lv_at hl 3 rfl) ?_
        refine lv_if_ge (tgt := 41) hx hb dX12_make_35 (by decide) (fun c9 => ?_) (fun c9 => ?_)
        · have hF := brT hF c9
          refine lv_aload_n hx hb dX12_make_41 rfl (lv_at hl 0 rfl) ?_
          refine wi_getr hx hb hg hown hK hP 0 46 31 rfl rfl cb_12 (by decide) kw_604 dX12_make_42 ?_
          refine lv_iload_n hx hb dX12_make_45 rfl (lv_at hl 1 rfl) ?_
          refine lv_iload_n hx hb dX12_make_46 rfl (lv_at hl 2 rfl) ?_
          obtain ⟨hin, hF⟩ := hF
          refine wi_iast hx hb hK hP hD hS 31 rfl hin dX12_make_47 (fun σ10 eσ10 H locs hP hD hS => ?_)
          have hF := hF σ10 eσ10
          refine lv_aload_n hx hb dX12_make_48 rfl (lv_at hl 0 rfl) ?_
          refine wi_getr hx hb hg hown hK hP 0 47 32 rfl rfl cb_12 (by decide) kw_605 dX12_make_49 ?_
          refine lv_iload_n hx hb dX12_make_52 rfl (lv_at hl 1 rfl) ?_
          refine lv_iload_n hx hb dX12_make_53 rfl (lv_at hl 3 rfl) ?_
          obtain ⟨hin, hF⟩ := hF
          refine wi_iast hx hb hK hP hD hS 32 rfl hin dX12_make_54 (fun σ11 eσ11 H locs hP hD hS => ?_)
          have hF := hF σ11 eσ11
          refine lv_iconst (v := (0 : Int32)) hx hb dX12_make_55 (by decide) ?_
          refine lv_istore (lv' := [(4, .int (0 : Int32)), (0, .ref (ad 0)), (1, .int a1), (2, .int a2), (3, .int a3)]) hx hb dX12_make_56 hl (by decide) rfl (fun ls hl => ?_)
          refine jn_use hF (fun K => ∀ (σ13 : St) (H : Heap) (locs : List Loc) (ls : Array Slot), K σ13 → va_P D vwCl (wld cy ad dsM σ13) H → va_D A (wld cy ad dsM σ13) → va_S A s.heap H locs → lv_has ls 5 [] → W p l e (rmO 1 25) s m args below meth c H locs 0 0 (MQ below (va_Qi post (cBk D cy ad dsM A) A) args s 0 0 A) (F0 m 83 ls [])) (fun σ13 H locs ls hF hP hD hS hl => ?_) (fun J12 hJ12 hF => ?_)
          · refine lv_iconst (v := (0 : Int32)) hx hb dX12_make_83 (by decide) ?_
            exact wi_iret hx hb hr hlk hK hP hD hS dX12_make_84 hF
          · refine lpE2_use hF (fun (y14 : Int32) (σ15 : St) => ∀ (H : Heap) (locs : List Loc) (ls : Array Slot), va_P D vwCl (wld cy ad dsM σ15) H → va_D A (wld cy ad dsM σ15) → va_S A s.heap H locs → lv_has ls 5 [(0, .ref (ad 0)), (1, .int a1), (3, .int a3), (4, .int y14)] → W p l e (rmO 1 25) s m args below meth c H locs 0 0 (MQ below (va_Qi post (cBk D cy ad dsM A) A) args s 0 0 A) (F0 m 58 ls [])) (fun rec16 hrec16 y14 σ15 hF H locs ls hP hD hS hl => ?_) H locs ls hP hD hS (lv_sub hl [1, 2, 4, 0] rfl)
            refine lv_iload hx hb dX12_make_58 (lv_at hl 3 rfl) ?_
            refine lv_iload_n hx hb dX12_make_60 rfl (lv_at hl 2 rfl) ?_
            refine lv_icmp_ge (tgt := 83) hx hb dX12_make_61 (by decide) (fun c17 => ?_) (fun c17 => ?_)
            · have hF := brT hF c17
              exact hJ12 σ15 H locs ls hF hP hD hS (lv_sub hl [] rfl)
            · have hF := brF hF c17
              refine lv_aload_n hx hb dX12_make_64 rfl (lv_at hl 0 rfl) ?_
              refine wi_getr hx hb hg hown hK hP 0 50 35 rfl rfl cb_12 (by decide) kw_608 dX12_make_65 ?_
              refine lv_bipush (v := (60 : Int32)) hx hb dX12_make_68 (by decide) ?_
              refine lv_iload_n hx hb dX12_make_70 rfl (lv_at hl 1 rfl) ?_
              refine lv_imul hx hb dX12_make_71 ?_
              refine lv_iload hx hb dX12_make_72 (lv_at hl 3 rfl) ?_
              refine lv_iadd hx hb dX12_make_74 ?_
              refine lv_iconst (v := (0 : Int32)) hx hb dX12_make_75 (by decide) ?_
              obtain ⟨hin, hF⟩ := hF
              refine wi_iast hx hb hK hP hD hS 35 rfl hin dX12_make_76 (fun σ18 eσ18 H locs hP hD hS => ?_)
              have hF := hF σ18 eσ18
              obtain ⟨x19, ex19⟩ : ∃ z : Int32, z = (y14 + (1 : Int32)) := ⟨_, rfl⟩
              have hF := hF x19 ex19
              refine lv_iinc (v := x19) (lv' := [(4, .int x19), (0, .ref (ad 0)), (1, .int a1), (3, .int a3)]) hx hb dX12_make_77 hl (k := 3) rfl (by rw [ex19]; rfl) (by decide) rfl (fun ls hl => ?_)
              refine lv_goto (tgt := 58) hx hb dX12_make_80 (by decide) ?_
              exact hrec16 x19 σ18 hF H locs ls hP hD hS (lv_sub hl [1, 2, 3, 0] rfl)
        · have hF := brF hF c9
          refine lv_bipush (v := (-14 : Int32)) hx hb dX12_make_38 (by decide) ?_
          exact wi_iret hx hb hr hlk hK hP hD hS dX12_make_40 hF
      · have hF := brF hF c8
        refine lv_iconst (v := (-1 : Int32)) hx hb dX12_make_32 (by decide) ?_
        exact wi_iret hx hb hr hlk hK hP hD hS dX12_make_33 hF
def w_X12_element (σ : St) (a1 : Int32) (a2 : Int32) (post : Int64 → St → Prop) : Prop := w_X12_isShelf a1 (fun r1 => jn (α := Int32 → Prop) (fun (y4 : Int32) => w_X12_isShelf a1 (fun r5 => jn (α := Int32 → Prop) (fun (y8 : Int32) => nm (upI σ 0 0 y8) (fun σ9 => br (y4 = (0 : Int32)) (post (0 : Int64) σ9) (rd (σ9.1 35) 480 (((60 : Int32) * a1) + a2) (fun v11 => post ((v11 : Int32).toInt64) σ9)))) (fun J7 => br (r5 = (0 : Int32)) (J7 (1 : Int32)) (br (y4 = (0 : Int32)) (J7 (2 : Int32)) (J7 (0 : Int32)))))) (fun J3 => jn (α := Prop) (J3 (0 : Int32)) (fun J14 => br (r1 = (0 : Int32)) (J14) (rd (σ.1 31) 8 a1 (fun v16 => br (v16 ≤ (2 : Int32)) (J14) (rd (σ.1 32) 8 a1 (fun v18 => w_X12_isIn ((a2 : Int32).toInt64) (0 : Int64) (((v18 - (1 : Int32)) : Int32).toInt64) (fun r19 => br (r19 = (0 : Int32)) (J14) (J3 (1 : Int32))))))))))
set_option maxHeartbeats 4000000 in
set_option maxRecDepth 100000 in
theorem c_X12_element (l : Launch) (D : va_G) (cy : Nat → ClassId) (ad : Nat → Nat) (tL : Nat) (σ : St) (a1 : Int32) (a2 : Int32) (post : Int64 → St → Prop) (hF : w_X12_element σ a1 a2 post) : Ctl l yX12_element cX12_element 4 (some .long) 1 25 D cy ad tL dsM σ [.ref (ad 0), .int a1, .int a2] post := by
  refine ctl_of (by decide) (Nat.le_of_ble_eq_true rfl) ?_
  intro p e s m args below meth c A hx hb hml hr hlk hg hown hA hK H locs hP hD hS hLB ls hl
  have hown : s.vm.findClass RX12 = some m.cls := hown
  have hl : lv_has ls 4 [(0, .ref (ad 0)), (1, .int a1), (2, .int a2)] := hl
  refine lv_iload_n hx hb dX12_element_0 rfl (lv_at hl 1 rfl) ?_
  refine wi_callSi (As := [.int a1]) (c_X12_isShelf l D cy ad tL σ a1 _ hF) sw_RX12_322 hx hb hml hown hg hK hP hD hS hA hLB rfl ⟨Nat.le_of_ble_eq_true rfl, Nat.le_of_ble_eq_true rfl⟩ hl.1 rfl (Nat.le_of_ble_eq_true rfl) dX12_element_1 (fun r1 σ2 hw H locs hP hD hS => ?_)
  obtain ⟨hF, rfl⟩ := hw
  refine jn_use hF (fun K => ∀ (y4 : Int32) (H : Heap) (locs : List Loc) (ls : Array Slot), K y4 → va_P D vwCl (wld cy ad dsM σ) H → va_D A (wld cy ad dsM σ) → va_S A s.heap H locs → lv_has ls 4 [(0, .ref (ad 0)), (1, .int a1), (2, .int a2)] → W p l e (rmO 1 25) s m args below meth c H locs 0 0 (MQ below (va_Ql post (cBk D cy ad dsM A) A) args s 0 0 A) (F0 m 40 ls [.int y4])) (fun y4 H locs ls hF hP hD hS hl => ?_) (fun J3 hJ3 hF => ?_)
  · refine lv_istore_n (lv' := [(3, .int y4), (0, .ref (ad 0)), (1, .int a1), (2, .int a2)]) hx hb dX12_element_40 rfl hl (by decide) rfl (fun ls hl => ?_)
    refine lv_aload_n hx hb dX12_element_41 rfl (lv_at hl 1 rfl) ?_
    refine lv_iload_n hx hb dX12_element_42 rfl (lv_at hl 2 rfl) ?_
    refine wi_callSi (As := [.int a1]) (c_X12_isShelf l D cy ad tL σ a1 _ hF) sw_RX12_322 hx hb hml hown hg hK hP hD hS hA hLB rfl ⟨Nat.le_of_ble_eq_true rfl, Nat.le_of_ble_eq_true rfl⟩ hl.1 rfl (Nat.le_of_ble_eq_true rfl) dX12_element_43 (fun r5 σ6 hw H locs hP hD hS => ?_)
    obtain ⟨hF, rfl⟩ := hw
    refine jn_use hF (fun K => ∀ (y8 : Int32) (H : Heap) (locs : List Loc) (ls : Array Slot), K y8 → va_P D vwCl (wld cy ad dsM σ) H → va_D A (wld cy ad dsM σ) → va_S A s.heap H locs → lv_has ls 4 [(0, .ref (ad 0)), (1, .int a1), (2, .int a2), (3, .int y4)] → W p l e (rmO 1 25) s m args below meth c H locs 0 0 (MQ below (va_Ql post (cBk D cy ad dsM A) A) args s 0 0 A) (F0 m 62 ls [.int y8, .ref (ad 0)])) (fun y8 H locs ls hF hP hD hS hl => ?_) (fun J7 hJ7 hF => ?_)
    · refine wi_puti hx hb hg hown hK hP hD hS 0 0 rfl rfl cb_12 (by decide) kw_615 rfl rfl rfl dX12_element_62 (fun σ9 eσ9 H locs hP hD hS => ?_)
      have hF := hF σ9 eσ9
      refine lv_iload_n hx hb dX12_element_65 rfl (lv_at hl 3 rfl) ?_
      refine lv_if_eq (tgt := 84) hx hb dX12_element_66 (by decide) (fun c10 => ?_) (fun c10 => ?_)
      · have hF := brT hF c10
        refine lv_lconst (v := (0 : Int64)) hx hb dX12_element_84 (by decide) ?_
        exact wi_lret hx hb hr hlk hK hP hD hS dX12_element_85 hF
      · have hF := brF hF c10
        refine lv_aload_n hx hb dX12_element_69 rfl (lv_at hl 0 rfl) ?_
        refine wi_getr hx hb hg hown hK hP 0 50 35 rfl rfl cb_12 (by decide) kw_608 dX12_element_70 ?_
        refine lv_bipush (v := (60 : Int32)) hx hb dX12_element_73 (by decide) ?_
        refine lv_iload_n hx hb dX12_element_75 rfl (lv_at hl 1 rfl) ?_
        refine lv_imul hx hb dX12_element_76 ?_
        refine lv_iload_n hx hb dX12_element_77 rfl (lv_at hl 2 rfl) ?_
        refine lv_iadd hx hb dX12_element_78 ?_
        obtain ⟨hin, hF⟩ := hF
        refine wi_iald hx hb hK hP 35 rfl hin dX12_element_79 (fun v11 ev11 => ?_)
        have hF := hF v11 ev11
        refine lv_i2l hx hb dX12_element_80 rfl ?_
        refine lv_goto (tgt := 85) hx hb dX12_element_81 (by decide) ?_
        exact wi_lret hx hb hr hlk hK hP hD hS dX12_element_85 hF
    · refine lv_if_ne (tgt := 53) hx hb dX12_element_46 (by decide) (fun c12 => ?_) (fun c12 => ?_)
      · have hF := brF hF c12
        refine lv_iload_n hx hb dX12_element_53 rfl (lv_at hl 0 rfl) ?_
        refine lv_if_eq (tgt := 61) hx hb dX12_element_54 (by decide) (fun c13 => ?_) (fun c13 => ?_)
        · have hF := brT hF c13
          refine lv_iconst (v := (2 : Int32)) hx hb dX12_element_61 (by decide) ?_
          exact hJ7 (2 : Int32) H locs ls hF hP hD hS (lv_sub hl [1, 2, 3, 0] rfl)
        · have hF := brF hF c13
          refine lv_iconst (v := (0 : Int32)) hx hb dX12_element_57 (by decide) ?_
          refine lv_goto (tgt := 62) hx hb dX12_element_58 (by decide) ?_
          exact hJ7 (0 : Int32) H locs ls hF hP hD hS (lv_sub hl [1, 2, 3, 0] rfl)
      · have hF := brT hF c12
        refine lv_iconst (v := (1 : Int32)) hx hb dX12_element_49 (by decide) ?_
        refine lv_goto (tgt := 62) hx hb dX12_element_50 (by decide) ?_
        exact hJ7 (1 : Int32) H locs ls hF hP hD hS (lv_sub hl [1, 2, 3, 0] rfl)
  · refine jn_use hF (fun K => ∀ (H : Heap) (locs : List Loc) (ls : Array Slot), K → va_P D vwCl (wld cy ad dsM σ) H → va_D A (wld cy ad dsM σ) → va_S A s.heap H locs → lv_has ls 4 [(0, .ref (ad 0)), (1, .int a1), (2, .int a2)] → W p l e (rmO 1 25) s m args below meth c H locs 0 0 (MQ below (va_Ql post (cBk D cy ad dsM A) A) args s 0 0 A) (F0 m 39 ls [])) (fun H locs ls hF hP hD hS hl => ?_) (fun J14 hJ14 hF => ?_)
    · refine lv_iconst (v := (0 : Int32)) hx hb dX12_element_39 (by decide) ?_
      exact hJ3 (0 : Int32) H locs ls hF hP hD hS (lv_sub hl [0, 1, 2] rfl)
    · refine lv_if_eq (tgt := 39) hx hb dX12_element_4 (by decide) (fun c15 => ?_) (fun c15 => ?_)
      · have hF := brT hF c15
        exact hJ14  H locs ls hF hP hD hS (lv_sub hl [0, 1, 2] rfl)
      · have hF := brF hF c15
        refine lv_aload_n hx hb dX12_element_7 rfl (lv_at hl 0 rfl) ?_
        refine wi_getr hx hb hg hown hK hP 0 46 31 rfl rfl cb_12 (by decide) kw_604 dX12_element_8 ?_
        refine lv_iload_n hx hb dX12_element_11 rfl (lv_at hl 1 rfl) ?_
        obtain ⟨hin, hF⟩ := hF
        refine wi_iald hx hb hK hP 31 rfl hin dX12_element_12 (fun v16 ev16 => ?_)
        have hF := hF v16 ev16
        refine lv_iconst (v := (2 : Int32)) hx hb dX12_element_13 (by decide) ?_
        refine lv_icmp_le (tgt := 39) hx hb dX12_element_14 (by decide) (fun c17 => ?_) (fun c17 => ?_)
        · have hF := brT hF c17
          exact hJ14  H locs ls hF hP hD hS (lv_sub hl [0, 1, 2] rfl)
        · have hF := brF hF c17
          refine lv_iload_n hx hb dX12_element_17 rfl (lv_at hl 2 rfl) ?_
          refine lv_i2l hx hb dX12_element_18 rfl ?_
          refine lv_lconst (v := (0 : Int64)) hx hb dX12_element_19 (by decide) ?_
          refine lv_aload_n hx hb dX12_element_20 rfl (lv_at hl 0 rfl) ?_
          refine wi_getr hx hb hg hown hK hP 0 47 32 rfl rfl cb_12 (by decide) kw_605 dX12_element_21 ?_
          refine lv_iload_n hx hb dX12_element_24 rfl (lv_at hl 1 rfl) ?_
          obtain ⟨hin, hF⟩ := hF
          refine wi_iald hx hb hK hP 32 rfl hin dX12_element_25 (fun v18 ev18 => ?_)
          have hF := hF v18 ev18
          refine lv_iconst (v := (1 : Int32)) hx hb dX12_element_26 (by decide) ?_
          refine lv_isub hx hb dX12_element_27 ?_
          refine lv_i2l hx hb dX12_element_28 rfl ?_
          refine wi_callSi (As := [.long ((a2 : Int32).toInt64), .long (0 : Int64), .long (((v18 - (1 : Int32)) : Int32).toInt64)]) (c_X12_isIn l D cy ad tL σ ((a2 : Int32).toInt64) (0 : Int64) (((v18 - (1 : Int32)) : Int32).toInt64) _ hF) sw_RX12_156 hx hb hml hown hg hK hP hD hS hA hLB rfl ⟨Nat.le_of_ble_eq_true rfl, Nat.le_of_ble_eq_true rfl⟩ hl.1 rfl (Nat.le_of_ble_eq_true rfl) dX12_element_29 (fun r19 σ20 hw H locs hP hD hS => ?_)
          obtain ⟨hF, rfl⟩ := hw
          refine lv_if_eq (tgt := 39) hx hb dX12_element_32 (by decide) (fun c21 => ?_) (fun c21 => ?_)
          · have hF := brT hF c21
            exact hJ14  H locs ls hF hP hD hS (lv_sub hl [0, 1, 2] rfl)
          · have hF := brF hF c21
            refine lv_iconst (v := (1 : Int32)) hx hb dX12_element_35 (by decide) ?_
            refine lv_goto (tgt := 40) hx hb dX12_element_36 (by decide) ?_
            exact hJ3 (1 : Int32) H locs ls hF hP hD hS (lv_sub hl [0, 1, 2] rfl)
def w_X12_hasPlaces (σ : St) (a1 : Int32) (a2 : Int32) (a3 : Int32) (post : Int32 → Prop) : Prop := br (a3 < (0 : Int32)) (post (0 : Int32)) (br (a2 < (0 : Int32)) (post (0 : Int32)) (rd (σ.1 32) 8 a1 (fun v3 => br (v3 < a2) (post (0 : Int32)) (rd (σ.1 32) 8 a1 (fun v5 => br ((v5 - a2) < a3) (post (0 : Int32)) (post (1 : Int32)))))))
set_option maxHeartbeats 4000000 in
set_option maxRecDepth 100000 in
theorem c_X12_hasPlaces (l : Launch) (D : va_G) (cy : Nat → ClassId) (ad : Nat → Nat) (tL : Nat) (σ : St) (a1 : Int32) (a2 : Int32) (a3 : Int32) (post : Int32 → Prop) (hF : w_X12_hasPlaces σ a1 a2 a3 post) : Cti l yX12_hasPlaces cX12_hasPlaces 4 (some .boolean) 0 0 D cy ad tL dsM σ [.ref (ad 0), .int a1, .int a2, .int a3] (fun r u => post r ∧ σ = u) := by
  refine cti_of (by decide) (Nat.le_of_ble_eq_true rfl) ?_
  intro p e s m args below meth c A hx hb hml hr hlk hg hown hA hK H locs hP hD hS hLB ls hl
  have hown : s.vm.findClass RX12 = some m.cls := hown
  have hl : lv_has ls 4 [(0, .ref (ad 0)), (1, .int a1), (2, .int a2), (3, .int a3)] := hl
  refine lv_iload_n hx hb dX12_hasPlaces_0 rfl (lv_at hl 3 rfl) ?_
  refine lv_if_lt (tgt := 34) hx hb dX12_hasPlaces_1 (by decide) (fun c1 => ?_) (fun c1 => ?_)
  · have hF := brT hF c1
    refine lv_iconst (v := (0 : Int32)) hx hb dX12_hasPlaces_34 (by decide) ?_
    exact wi_zret hx hb hr hlk hK hP hD hS dX12_hasPlaces_35 (by decide) ⟨hF, rfl⟩
  · have hF := brF hF c1
    refine lv_iload_n hx hb dX12_hasPlaces_4 rfl (lv_at hl 2 rfl) ?_
    refine lv_if_lt (tgt := 34) hx hb dX12_hasPlaces_5 (by decide) (fun c2 => ?_) (fun c2 => ?_)
    · have hF := brT hF c2
      refine lv_iconst (v := (0 : Int32)) hx hb dX12_hasPlaces_34 (by decide) ?_
      exact wi_zret hx hb hr hlk hK hP hD hS dX12_hasPlaces_35 (by decide) ⟨hF, rfl⟩
    · have hF := brF hF c2
      refine lv_iload_n hx hb dX12_hasPlaces_8 rfl (lv_at hl 2 rfl) ?_
      refine lv_aload_n hx hb dX12_hasPlaces_9 rfl (lv_at hl 0 rfl) ?_
      refine wi_getr hx hb hg hown hK hP 0 47 32 rfl rfl cb_12 (by decide) kw_605 dX12_hasPlaces_10 ?_
      refine lv_iload_n hx hb dX12_hasPlaces_13 rfl (lv_at hl 1 rfl) ?_
      obtain ⟨hin, hF⟩ := hF
      refine wi_iald hx hb hK hP 32 rfl hin dX12_hasPlaces_14 (fun v3 ev3 => ?_)
      have hF := hF v3 ev3
      refine lv_icmp_gt (tgt := 34) hx hb dX12_hasPlaces_15 (by decide) (fun c4 => ?_) (fun c4 => ?_)
      · have hF := brT hF c4
        refine lv_iconst (v := (0 : Int32)) hx hb dX12_hasPlaces_34 (by decide) ?_
        exact wi_zret hx hb hr hlk hK hP hD hS dX12_hasPlaces_35 (by decide) ⟨hF, rfl⟩
      · have hF := brF hF c4
        refine lv_iload_n hx hb dX12_hasPlaces_18 rfl (lv_at hl 3 rfl) ?_
        refine lv_aload_n hx hb dX12_hasPlaces_19 rfl (lv_at hl 0 rfl) ?_
        refine wi_getr hx hb hg hown hK hP 0 47 32 rfl rfl cb_12 (by decide) kw_605 dX12_hasPlaces_20 ?_
        refine lv_iload_n hx hb dX12_hasPlaces_23 rfl (lv_at hl 1 rfl) ?_
        obtain ⟨hin, hF⟩ := hF
        refine wi_iald hx hb hK hP 32 rfl hin dX12_hasPlaces_24 (fun v5 ev5 => ?_)
        have hF := hF v5 ev5
        refine lv_iload_n hx hb dX12_hasPlaces_25 rfl (lv_at hl 2 rfl) ?_
        refine lv_isub hx hb dX12_hasPlaces_26 ?_
        refine lv_icmp_gt (tgt := 34) hx hb dX12_hasPlaces_27 (by decide) (fun c6 => ?_) (fun c6 => ?_)
        · have hF := brT hF c6
          refine lv_iconst (v := (0 : Int32)) hx hb dX12_hasPlaces_34 (by decide) ?_
          exact wi_zret hx hb hr hlk hK hP hD hS dX12_hasPlaces_35 (by decide) ⟨hF, rfl⟩
        · have hF := brF hF c6
          refine lv_iconst (v := (1 : Int32)) hx hb dX12_hasPlaces_30 (by decide) ?_
          refine lv_goto (tgt := 35) hx hb dX12_hasPlaces_31 (by decide) ?_
          exact wi_zret hx hb hr hlk hK hP hD hS dX12_hasPlaces_35 (by decide) ⟨hF, rfl⟩
def w_X12_copy_L136 (a3 : Int32) (a4 : Int32) (a5 : Int32) (J25 : St → Prop) (rec29 : Int32 → St → Prop) (y27 : Int32) (σ28 : St) : Prop := br (a5 ≤ y27) (J25 σ28) (rd (σ28.1 36) 60 y27 (fun v31 => ck ((((60 : Int32) * a3) + a4) + y27) 480 (nm (upI σ28 35 (((((60 : Int32) * a3) + a4) + y27)).toNatClampNeg v31) (fun σ32 => nm (y27 + (1 : Int32)) (fun x33 => rec29 x33 σ32)))))
def w_X12_copy_L99 (a1 : Int32) (a2 : Int32) (a5 : Int32) (J23 : St → Prop) (rec36 : Int32 → St → Prop) (y34 : Int32) (σ35 : St) : Prop := br (a5 ≤ y34) (J23 σ35) (rd (σ35.1 35) 480 ((((60 : Int32) * a1) + a2) + y34) (fun v38 => ck y34 60 (nm (upI σ35 36 (y34).toNatClampNeg v38) (fun σ39 => nm (y34 + (1 : Int32)) (fun x40 => rec36 x40 σ39)))))
def w_X12_copy (σ : St) (a1 : Int32) (a2 : Int32) (a3 : Int32) (a4 : Int32) (a5 : Int32) (post : Int32 → St → Prop) : Prop := nm (upI σ 0 0 (0 : Int32)) (fun σ1 => w_X12_isShelf a1 (fun r2 => br (r2 = (0 : Int32)) (post (-1 : Int32) σ1) (w_X12_isShelf a3 (fun r5 => br (r5 = (0 : Int32)) (post (-1 : Int32) σ1) (rd (σ1.1 31) 8 a1 (fun v8 => br (v8 = (0 : Int32)) (post (-11 : Int32) σ1) (rd (σ1.1 31) 8 a3 (fun v10 => br (v10 = (0 : Int32)) (post (-11 : Int32) σ1) (rd (σ1.1 31) 8 a1 (fun v12 => br (v12 < (3 : Int32)) (post (-12 : Int32) σ1) (rd (σ1.1 31) 8 a1 (fun v14 => rd (σ1.1 31) 8 a3 (fun v15 => br (v14 = v15) (w_X12_hasPlaces σ1 a1 a2 a5 (fun r17 => br (r17 = (0 : Int32)) (post (-13 : Int32) σ1) (w_X12_hasPlaces σ1 a3 a4 a5 (fun r20 => br (r20 = (0 : Int32)) (post (-13 : Int32) σ1) (jn (α := St → Prop) (fun (σ24 : St) => jn (α := St → Prop) (fun (σ26 : St) => post a5 σ26) (fun J25 => lpE2 (w_X12_copy_L136 a3 a4 a5 J25) (0 : Int32) σ24)) (fun J23 => lpE2 (w_X12_copy_L99 a1 a2 a5 J23) (0 : Int32) σ1)))))) (post (-12 : Int32) σ1))))))))))))))
set_option maxHeartbeats 4000000 in
set_option maxRecDepth 100000 in
theorem c_X12_copy (l : Launch) (D : va_G) (cy : Nat → ClassId) (ad : Nat → Nat) (tL : Nat) (σ : St) (a1 : Int32) (a2 : Int32) (a3 : Int32) (a4 : Int32) (a5 : Int32) (post : Int32 → St → Prop) (hF : w_X12_copy σ a1 a2 a3 a4 a5 post) : Cti l yX12_copy cX12_copy 7 (some .int) 1 23 D cy ad tL dsM σ [.ref (ad 0), .int a1, .int a2, .int a3, .int a4, .int a5] post := by
  refine cti_of (by decide) (Nat.le_of_ble_eq_true rfl) ?_
  intro p e s m args below meth c A hx hb hml hr hlk hg hown hA hK H locs hP hD hS hLB ls hl
  have hown : s.vm.findClass RX12 = some m.cls := hown
  have hl : lv_has ls 7 [(0, .ref (ad 0)), (1, .int a1), (2, .int a2), (3, .int a3), (4, .int a4), (5, .int a5)] := hl
  refine lv_aload_n hx hb dX12_copy_0 rfl (lv_at hl 0 rfl) ?_
  refine lv_iconst (v := (0 : Int32)) hx hb dX12_copy_1 (by decide) ?_
  refine wi_puti hx hb hg hown hK hP hD hS 0 0 rfl rfl cb_12 (by decide) kw_615 rfl rfl rfl dX12_copy_2 (fun σ1 eσ1 H locs hP hD hS => ?_)
  have hF := hF σ1 eσ1
  refine lv_iload_n hx hb dX12_copy_5 rfl (lv_at hl 1 rfl) ?_
  refine wi_callSi (As := [.int a1]) (c_X12_isShelf l D cy ad tL σ1 a1 _ hF) sw_RX12_322 hx hb hml hown hg hK hP hD hS hA hLB rfl ⟨Nat.le_of_ble_eq_true rfl, Nat.le_of_ble_eq_true rfl⟩ hl.1 rfl (Nat.le_of_ble_eq_true rfl) dX12_copy_6 (fun r2 σ3 hw H locs hP hD hS => ?_)
  obtain ⟨hF, rfl⟩ := hw
  refine lv_if_eq (tgt := 19) hx hb dX12_copy_9 (by decide) (fun c4 => ?_) (fun c4 => ?_)
  · have hF := brT hF c4
    refine lv_iconst (v := (-1 : Int32)) hx hb dX12_copy_19 (by decide) ?_
    exact wi_iret hx hb hr hlk hK hP hD hS dX12_copy_20 hF
  · have hF := brF hF c4
    refine lv_iload_n hx hb dX12_copy_12 rfl (lv_at hl 3 rfl) ?_
    refine wi_callSi (As := [.int a3]) (c_X12_isShelf l D cy ad tL σ1 a3 _ hF) sw_RX12_322 hx hb hml hown hg hK hP hD hS hA hLB rfl ⟨Nat.le_of_ble_eq_true rfl, Nat.le_of_ble_eq_true rfl⟩ hl.1 rfl (Nat.le_of_ble_eq_true rfl) dX12_copy_13 (fun r5 σ6 hw H locs hP hD hS => ?_)
    obtain ⟨hF, rfl⟩ := hw
    refine lv_if_ne (tgt := 21) hx hb dX12_copy_16 (by decide) (fun c7 => ?_) (fun c7 => ?_)
    · have hF := brF hF c7
      refine lv_aload_n hx hb dX12_copy_21 rfl (lv_at hl 0 rfl) ?_
      refine wi_getr hx hb hg hown hK hP 0 46 31 rfl rfl cb_12 (by decide) kw_604 dX12_copy_22 ?_
      refine lv_iload_n hx hb dX12_copy_25 rfl (lv_at hl 1 rfl) ?_
      obtain ⟨hin, hF⟩ := hF
      refine wi_iald hx hb hK hP 31 rfl hin dX12_copy_26 (fun v8 ev8 => ?_)
      have hF := hF v8 ev8
      refine lv_if_eq (tgt := 39) hx hb dX12_copy_27 (by decide) (fun c9 => ?_) (fun c9 => ?_)
      · have hF := brT hF c9
        refine lv_bipush (v := (-11 : Int32)) hx hb dX12_copy_39 (by decide) ?_
        exact wi_iret hx hb hr hlk hK hP hD hS dX12_copy_41 hF
      · have hF := brF hF c9
        refine lv_aload_n hx hb dX12_copy_30 rfl (lv_at hl 0 rfl) ?_
        refine wi_getr hx hb hg hown hK hP 0 46 31 rfl rfl cb_12 (by decide) kw_604 dX12_copy_31 ?_
        refine lv_iload_n hx hb dX12_copy_34 rfl (lv_at hl 3 rfl) ?_
        obtain ⟨hin, hF⟩ := hF
        refine wi_iald hx hb hK hP 31 rfl hin dX12_copy_35 (fun v10 ev10 => ?_)
        have hF := hF v10 ev10
        refine lv_if_ne (tgt := 42) hx hb dX12_copy_36 (by decide) (fun c11 => ?_) (fun c11 => ?_)
        · have hF := brF hF c11
          refine lv_aload_n hx hb dX12_copy_42 rfl (lv_at hl 0 rfl) ?_
          refine wi_getr hx hb hg hown hK hP 0 46 31 rfl rfl cb_12 (by decide) kw_604 dX12_copy_43 ?_
          refine lv_iload_n hx hb dX12_copy_46 rfl (lv_at hl 1 rfl) ?_
          obtain ⟨hin, hF⟩ := hF
          refine wi_iald hx hb hK hP 31 rfl hin dX12_copy_47 (fun v12 ev12 => ?_)
          have hF := hF v12 ev12
          refine lv_iconst (v := (3 : Int32)) hx hb dX12_copy_48 (by decide) ?_
          refine lv_icmp_lt (tgt := 67) hx hb dX12_copy_49 (by decide) (fun c13 => ?_) (fun c13 => ?_)
          · have hF := brT hF c13
            refine lv_bipush (v := (-12 : Int32)) hx hb dX12_copy_67 (by decide) ?_
            exact wi_iret hx hb hr hlk hK hP hD hS dX12_copy_69 hF
          · have hF := brF hF c13
            refine lv_aload_n hx hb dX12_copy_52 rfl (lv_at hl 0 rfl) ?_
            refine wi_getr hx hb hg hown hK hP 0 46 31 rfl rfl cb_12 (by decide) kw_604 dX12_copy_53 ?_
            refine lv_iload_n hx hb dX12_copy_56 rfl (lv_at hl 1 rfl) ?_
            obtain ⟨hin, hF⟩ := hF
            refine wi_iald hx hb hK hP 31 rfl hin dX12_copy_57 (fun v14 ev14 => ?_)
            have hF := hF v14 ev14
            refine lv_aload_n hx hb dX12_copy_58 rfl (lv_at hl 0 rfl) ?_
            refine wi_getr hx hb hg hown hK hP 0 46 31 rfl rfl cb_12 (by decide) kw_604 dX12_copy_59 ?_
            refine lv_iload_n hx hb dX12_copy_62 rfl (lv_at hl 3 rfl) ?_
            obtain ⟨hin, hF⟩ := hF
            refine wi_iald hx hb hK hP 31 rfl hin dX12_copy_63 (fun v15 ev15 => ?_)
            have hF := hF v15 ev15
            refine lv_icmp_eq (tgt := 70) hx hb dX12_copy_64 (by decide) (fun c16 => ?_) (fun c16 => ?_)
            · have hF := brT hF c16
              refine lv_aload_n hx hb dX12_copy_70 rfl (lv_at hl 0 rfl) ?_
              refine lv_iload_n hx hb dX12_copy_71 rfl (lv_at hl 1 rfl) ?_
              refine lv_iload_n hx hb dX12_copy_72 rfl (lv_at hl 2 rfl) ?_
              refine lv_iload hx hb dX12_copy_73 (lv_at hl 5 rfl) ?_
              refine wi_callVi (k := 0) (As := [.int a1, .int a2, .int a5]) (c_X12_hasPlaces l D cy ad tL σ1 a1 a2 a5 _ hF) vw_RX12_325 rfl cb_12 hx hb hml hown hg hK hP hD hS hA hLB rfl ⟨Nat.le_of_ble_eq_true rfl, Nat.le_of_ble_eq_true rfl⟩ hl.1 rfl (Nat.le_of_ble_eq_true rfl) dX12_copy_75 (fun r17 σ18 hw H locs hP hD hS => ?_)
              obtain ⟨hF, rfl⟩ := hw
              refine lv_if_eq (tgt := 93) hx hb dX12_copy_78 (by decide) (fun c19 => ?_) (fun c19 => ?_)
              · have hF := brT hF c19
                refine lv_bipush (v := (-13 : Int32)) hx hb dX12_copy_93 (by decide) ?_
                exact wi_iret hx hb hr hlk hK hP hD hS dX12_copy_95 hF
              · have hF := brF hF c19
                refine lv_aload_n hx hb dX12_copy_81 rfl (lv_at hl 0 rfl) ?_
                refine lv_iload_n hx hb dX12_copy_82 rfl (lv_at hl 3 rfl) ?_
                refine lv_iload hx hb dX12_copy_83 (lv_at hl 4 rfl) ?_
                refine lv_iload hx hb dX12_copy_85 (lv_at hl 5 rfl) ?_
                refine wi_callVi (k := 0) (As := [.int a3, .int a4, .int a5]) (c_X12_hasPlaces l D cy ad tL σ1 a3 a4 a5 _ hF) vw_RX12_325 rfl cb_12 hx hb hml hown hg hK hP hD hS hA hLB rfl ⟨Nat.le_of_ble_eq_true rfl, Nat.le_of_ble_eq_true rfl⟩ hl.1 rfl (Nat.le_of_ble_eq_true rfl) dX12_copy_87 (fun r20 σ21 hw H locs hP hD hS => ?_)
                obtain ⟨hF, rfl⟩ := hw
                refine lv_if_ne (tgt := 96) hx hb dX12_copy_90 (by decide) (fun c22 => ?_) (fun c22 => ?_)
                · have hF := brF hF c22
                  refine lv_iconst (v := (0 : Int32)) hx hb dX12_copy_96 (by decide) ?_
                  refine lv_istore (lv' := [(6, .int (0 : Int32)), (0, .ref (ad 0)), (1, .int a1), (2, .int a2), (3, .int a3), (4, .int a4), (5, .int a5)]) hx hb dX12_copy_97 hl (by decide) rfl (fun ls hl => ?_)
                  refine jn_use hF (fun K => ∀ (σ24 : St) (H : Heap) (locs : List Loc) (ls : Array Slot), K σ24 → va_P D vwCl (wld cy ad dsM σ24) H → va_D A (wld cy ad dsM σ24) → va_S A s.heap H locs → lv_has ls 7 [(0, .ref (ad 0)), (3, .int a3), (4, .int a4), (5, .int a5)] → W p l e (rmO 1 23) s m args below meth c H locs 0 0 (MQ below (va_Qi post (cBk D cy ad dsM A) A) args s 0 0 A) (F0 m 133 ls [])) (fun σ24 H locs ls hF hP hD hS hl => ?_) (fun J23 hJ23 hF => ?_)
                  · refine lv_iconst (v := (0 : Int32)) hx hb dX12_copy_133 (by decide) ?_
                    refine lv_istore (lv' := [(6, .int (0 : Int32)), (0, .ref (ad 0)), (3, .int a3), (4, .int a4), (5, .int a5)]) hx hb dX12_copy_134 hl (by decide) rfl (fun ls hl => ?_)
                    refine jn_use hF (fun K => ∀ (σ26 : St) (H : Heap) (locs : List Loc) (ls : Array Slot), K σ26 → va_P D vwCl (wld cy ad dsM σ26) H → va_D A (wld cy ad dsM σ26) → va_S A s.heap H locs → lv_has ls 7 [(5, .int a5)] → W p l e (rmO 1 23) s m args below meth c H locs 0 0 (MQ below (va_Qi post (cBk D cy ad dsM A) A) args s 0 0 A) (F0 m 171 ls [])) (fun σ26 H locs ls hF hP hD hS hl => ?_) (fun J25 hJ25 hF => ?_)
                    · refine lv_iload hx hb dX12_copy_171 (lv_at hl 0 rfl) ?_
                      exact wi_iret hx hb hr hlk hK hP hD hS dX12_copy_173 hF
                    · refine lpE2_use hF (fun (y27 : Int32) (σ28 : St) => ∀ (H : Heap) (locs : List Loc) (ls : Array Slot), va_P D vwCl (wld cy ad dsM σ28) H → va_D A (wld cy ad dsM σ28) → va_S A s.heap H locs → lv_has ls 7 [(0, .ref (ad 0)), (3, .int a3), (4, .int a4), (5, .int a5), (6, .int y27)] → W p l e (rmO 1 23) s m args below meth c H locs 0 0 (MQ below (va_Qi post (cBk D cy ad dsM A) A) args s 0 0 A) (F0 m 136 ls [])) (fun rec29 hrec29 y27 σ28 hF H locs ls hP hD hS hl => ?_) H locs ls hP hD hS (lv_sub hl [1, 2, 3, 4, 0] rfl)
                      refine lv_iload hx hb dX12_copy_136 (lv_at hl 4 rfl) ?_
                      refine lv_iload hx hb dX12_copy_138 (lv_at hl 3 rfl) ?_
                      refine lv_icmp_ge (tgt := 171) hx hb dX12_copy_140 (by decide) (fun c30 => ?_) (fun c30 => ?_)
                      · have hF := brT hF c30
                        exact hJ25 σ28 H locs ls hF hP hD hS (lv_sub hl [3] rfl)
                      · have hF := brF hF c30
                        refine lv_aload_n hx hb dX12_copy_143 rfl (lv_at hl 0 rfl) ?_
                        refine wi_getr hx hb hg hown hK hP 0 50 35 rfl rfl cb_12 (by decide) kw_608 dX12_copy_144 ?_
                        refine lv_bipush (v := (60 : Int32)) hx hb dX12_copy_147 (by decide) ?_
                        refine lv_iload_n hx hb dX12_copy_149 rfl (lv_at hl 1 rfl) ?_
                        refine lv_imul hx hb dX12_copy_150 ?_
                        refine lv_iload hx hb dX12_copy_151 (lv_at hl 2 rfl) ?_
                        refine lv_iadd hx hb dX12_copy_153 ?_
                        refine lv_iload hx hb dX12_copy_154 (lv_at hl 4 rfl) ?_
                        refine lv_iadd hx hb dX12_copy_156 ?_
                        refine lv_aload_n hx hb dX12_copy_157 rfl (lv_at hl 0 rfl) ?_
                        refine wi_getr hx hb hg hown hK hP 0 51 36 rfl rfl cb_12 (by decide) kw_609 dX12_copy_158 ?_
                        refine lv_iload hx hb dX12_copy_161 (lv_at hl 4 rfl) ?_
                        obtain ⟨hin, hF⟩ := hF
                        refine wi_iald hx hb hK hP 36 rfl hin dX12_copy_163 (fun v31 ev31 => ?_)
                        have hF := hF v31 ev31
                        obtain ⟨hin, hF⟩ := hF
                        refine wi_iast hx hb hK hP hD hS 35 rfl hin dX12_copy_164 (fun σ32 eσ32 H locs hP hD hS => ?_)
                        have hF := hF σ32 eσ32
                        obtain ⟨x33, ex33⟩ : ∃ z : Int32, z = (y27 + (1 : Int32)) := ⟨_, rfl⟩
                        have hF := hF x33 ex33
                        refine lv_iinc (v := x33) (lv' := [(6, .int x33), (0, .ref (ad 0)), (3, .int a3), (4, .int a4), (5, .int a5)]) hx hb dX12_copy_165 hl (k := 4) rfl (by rw [ex33]; rfl) (by decide) rfl (fun ls hl => ?_)
                        refine lv_goto (tgt := 136) hx hb dX12_copy_168 (by decide) ?_
                        exact hrec29 x33 σ32 hF H locs ls hP hD hS (lv_sub hl [1, 2, 3, 4, 0] rfl)
                  · refine lpE2_use hF (fun (y34 : Int32) (σ35 : St) => ∀ (H : Heap) (locs : List Loc) (ls : Array Slot), va_P D vwCl (wld cy ad dsM σ35) H → va_D A (wld cy ad dsM σ35) → va_S A s.heap H locs → lv_has ls 7 [(0, .ref (ad 0)), (1, .int a1), (2, .int a2), (3, .int a3), (4, .int a4), (5, .int a5), (6, .int y34)] → W p l e (rmO 1 23) s m args below meth c H locs 0 0 (MQ below (va_Qi post (cBk D cy ad dsM A) A) args s 0 0 A) (F0 m 99 ls [])) (fun rec36 hrec36 y34 σ35 hF H locs ls hP hD hS hl => ?_) H locs ls hP hD hS (lv_sub hl [1, 2, 3, 4, 5, 6, 0] rfl)
                    refine lv_iload hx hb dX12_copy_99 (lv_at hl 6 rfl) ?_
                    refine lv_iload hx hb dX12_copy_101 (lv_at hl 5 rfl) ?_
                    refine lv_icmp_ge (tgt := 133) hx hb dX12_copy_103 (by decide) (fun c37 => ?_) (fun c37 => ?_)
                    · have hF := brT hF c37
                      exact hJ23 σ35 H locs ls hF hP hD hS (lv_sub hl [0, 3, 4, 5] rfl)
                    · have hF := brF hF c37
                      refine lv_aload_n hx hb dX12_copy_106 rfl (lv_at hl 0 rfl) ?_
                      refine wi_getr hx hb hg hown hK hP 0 51 36 rfl rfl cb_12 (by decide) kw_609 dX12_copy_107 ?_
                      refine lv_iload hx hb dX12_copy_110 (lv_at hl 6 rfl) ?_
                      refine lv_aload_n hx hb dX12_copy_112 rfl (lv_at hl 0 rfl) ?_
                      refine wi_getr hx hb hg hown hK hP 0 50 35 rfl rfl cb_12 (by decide) kw_608 dX12_copy_113 ?_
                      refine lv_bipush (v := (60 : Int32)) hx hb dX12_copy_116 (by decide) ?_
                      refine lv_iload_n hx hb dX12_copy_118 rfl (lv_at hl 1 rfl) ?_
                      refine lv_imul hx hb dX12_copy_119 ?_
                      refine lv_iload_n hx hb dX12_copy_120 rfl (lv_at hl 2 rfl) ?_
                      refine lv_iadd hx hb dX12_copy_121 ?_
                      refine lv_iload hx hb dX12_copy_122 (lv_at hl 6 rfl) ?_
                      refine lv_iadd hx hb dX12_copy_124 ?_
                      obtain ⟨hin, hF⟩ := hF
                      refine wi_iald hx hb hK hP 35 rfl hin dX12_copy_125 (fun v38 ev38 => ?_)
                      have hF := hF v38 ev38
                      obtain ⟨hin, hF⟩ := hF
                      refine wi_iast hx hb hK hP hD hS 36 rfl hin dX12_copy_126 (fun σ39 eσ39 H locs hP hD hS => ?_)
                      have hF := hF σ39 eσ39
                      obtain ⟨x40, ex40⟩ : ∃ z : Int32, z = (y34 + (1 : Int32)) := ⟨_, rfl⟩
                      have hF := hF x40 ex40
                      refine lv_iinc (v := x40) (lv' := [(6, .int x40), (0, .ref (ad 0)), (1, .int a1), (2, .int a2), (3, .int a3), (4, .int a4), (5, .int a5)]) hx hb dX12_copy_127 hl (k := 6) rfl (by rw [ex40]; rfl) (by decide) rfl (fun ls hl => ?_)
                      refine lv_goto (tgt := 99) hx hb dX12_copy_130 (by decide) ?_
                      exact hrec36 x40 σ39 hF H locs ls hP hD hS (lv_sub hl [1, 2, 3, 4, 5, 6, 0] rfl)
                · have hF := brT hF c22
                  refine lv_bipush (v := (-13 : Int32)) hx hb dX12_copy_93 (by decide) ?_
                  exact wi_iret hx hb hr hlk hK hP hD hS dX12_copy_95 hF
            · have hF := brF hF c16
              refine lv_bipush (v := (-12 : Int32)) hx hb dX12_copy_67 (by decide) ?_
              exact wi_iret hx hb hr hlk hK hP hD hS dX12_copy_69 hF
        · have hF := brT hF c11
          refine lv_bipush (v := (-11 : Int32)) hx hb dX12_copy_39 (by decide) ?_
          exact wi_iret hx hb hr hlk hK hP hD hS dX12_copy_41 hF
    · have hF := brT hF c7
      refine lv_iconst (v := (-1 : Int32)) hx hb dX12_copy_19 (by decide) ?_
      exact wi_iret hx hb hr hlk hK hP hD hS dX12_copy_20 hF
def w_X12_denied (σ : St) (a1 : Int32) (post : Int32 → Prop) : Prop := w_X12_isShelf a1 (fun r1 => br (r1 = (0 : Int32)) (post (-1 : Int32)) (rd (σ.1 31) 8 a1 (fun v4 => br (v4 = (0 : Int32)) (post (-11 : Int32)) (rd (σ.1 31) 8 a1 (fun v6 => br (v6 ≤ (1 : Int32)) (post (0 : Int32)) (post (-12 : Int32)))))))
set_option maxHeartbeats 4000000 in
set_option maxRecDepth 100000 in
theorem c_X12_denied (l : Launch) (D : va_G) (cy : Nat → ClassId) (ad : Nat → Nat) (tL : Nat) (σ : St) (a1 : Int32) (post : Int32 → Prop) (hF : w_X12_denied σ a1 post) : Cti l yX12_denied cX12_denied 2 (some .int) 1 20 D cy ad tL dsM σ [.ref (ad 0), .int a1] (fun r u => post r ∧ σ = u) := by
  refine cti_of (by decide) (Nat.le_of_ble_eq_true rfl) ?_
  intro p e s m args below meth c A hx hb hml hr hlk hg hown hA hK H locs hP hD hS hLB ls hl
  have hown : s.vm.findClass RX12 = some m.cls := hown
  have hl : lv_has ls 2 [(0, .ref (ad 0)), (1, .int a1)] := hl
  refine lv_iload_n hx hb dX12_denied_0 rfl (lv_at hl 1 rfl) ?_
  refine wi_callSi (As := [.int a1]) (c_X12_isShelf l D cy ad tL σ a1 _ hF) sw_RX12_322 hx hb hml hown hg hK hP hD hS hA hLB rfl ⟨Nat.le_of_ble_eq_true rfl, Nat.le_of_ble_eq_true rfl⟩ hl.1 rfl (Nat.le_of_ble_eq_true rfl) dX12_denied_1 (fun r1 σ2 hw H locs hP hD hS => ?_)
  obtain ⟨hF, rfl⟩ := hw
  refine lv_if_ne (tgt := 11) hx hb dX12_denied_4 (by decide) (fun c3 => ?_) (fun c3 => ?_)
  · have hF := brF hF c3
    refine lv_aload_n hx hb dX12_denied_11 rfl (lv_at hl 0 rfl) ?_
    refine wi_getr hx hb hg hown hK hP 0 46 31 rfl rfl cb_12 (by decide) kw_604 dX12_denied_12 ?_
    refine lv_iload_n hx hb dX12_denied_15 rfl (lv_at hl 1 rfl) ?_
    obtain ⟨hin, hF⟩ := hF
    refine wi_iald hx hb hK hP 31 rfl hin dX12_denied_16 (fun v4 ev4 => ?_)
    have hF := hF v4 ev4
    refine lv_if_ne (tgt := 25) hx hb dX12_denied_17 (by decide) (fun c5 => ?_) (fun c5 => ?_)
    · have hF := brF hF c5
      refine lv_aload_n hx hb dX12_denied_25 rfl (lv_at hl 0 rfl) ?_
      refine wi_getr hx hb hg hown hK hP 0 46 31 rfl rfl cb_12 (by decide) kw_604 dX12_denied_26 ?_
      refine lv_iload_n hx hb dX12_denied_29 rfl (lv_at hl 1 rfl) ?_
      obtain ⟨hin, hF⟩ := hF
      refine wi_iald hx hb hK hP 31 rfl hin dX12_denied_30 (fun v6 ev6 => ?_)
      have hF := hF v6 ev6
      refine lv_iconst (v := (1 : Int32)) hx hb dX12_denied_31 (by decide) ?_
      refine lv_icmp_le (tgt := 40) hx hb dX12_denied_32 (by decide) (fun c7 => ?_) (fun c7 => ?_)
      · have hF := brT hF c7
        refine lv_iconst (v := (0 : Int32)) hx hb dX12_denied_40 (by decide) ?_
        exact wi_iret hx hb hr hlk hK hP hD hS dX12_denied_41 ⟨hF, rfl⟩
      · have hF := brF hF c7
        refine lv_bipush (v := (-12 : Int32)) hx hb dX12_denied_35 (by decide) ?_
        refine lv_goto (tgt := 41) hx hb dX12_denied_37 (by decide) ?_
        exact wi_iret hx hb hr hlk hK hP hD hS dX12_denied_41 ⟨hF, rfl⟩
    · have hF := brT hF c5
      refine lv_bipush (v := (-11 : Int32)) hx hb dX12_denied_20 (by decide) ?_
      refine lv_goto (tgt := 41) hx hb dX12_denied_22 (by decide) ?_
      exact wi_iret hx hb hr hlk hK hP hD hS dX12_denied_41 ⟨hF, rfl⟩
  · have hF := brT hF c3
    refine lv_iconst (v := (-1 : Int32)) hx hb dX12_denied_7 (by decide) ?_
    refine lv_goto (tgt := 41) hx hb dX12_denied_8 (by decide) ?_
    exact wi_iret hx hb hr hlk hK hP hD hS dX12_denied_41 ⟨hF, rfl⟩
def w_X12_weight (σ : St) (a1 : Int32) (post : Int32 → St → Prop) : Prop := nm (upI σ 0 0 (0 : Int32)) (fun σ1 => w_X12_denied σ1 a1 (fun r2 => br ((0 : Int32) ≤ r2) (rd (σ1.1 33) 8 a1 (fun v5 => post v5 σ1)) (post r2 σ1)))
set_option maxHeartbeats 4000000 in
set_option maxRecDepth 100000 in
theorem c_X12_weight (l : Launch) (D : va_G) (cy : Nat → ClassId) (ad : Nat → Nat) (tL : Nat) (σ : St) (a1 : Int32) (post : Int32 → St → Prop) (hF : w_X12_weight σ a1 post) : Cti l yX12_weight cX12_weight 3 (some .int) 2 41 D cy ad tL dsM σ [.ref (ad 0), .int a1] post := by
  refine cti_of (by decide) (Nat.le_of_ble_eq_true rfl) ?_
  intro p e s m args below meth c A hx hb hml hr hlk hg hown hA hK H locs hP hD hS hLB ls hl
  have hown : s.vm.findClass RX12 = some m.cls := hown
  have hl : lv_has ls 3 [(0, .ref (ad 0)), (1, .int a1)] := hl
  refine lv_aload_n hx hb dX12_weight_0 rfl (lv_at hl 0 rfl) ?_
  refine lv_iconst (v := (0 : Int32)) hx hb dX12_weight_1 (by decide) ?_
  refine wi_puti hx hb hg hown hK hP hD hS 0 0 rfl rfl cb_12 (by decide) kw_615 rfl rfl rfl dX12_weight_2 (fun σ1 eσ1 H locs hP hD hS => ?_)
  have hF := hF σ1 eσ1
  refine lv_aload_n hx hb dX12_weight_5 rfl (lv_at hl 0 rfl) ?_
  refine lv_iload_n hx hb dX12_weight_6 rfl (lv_at hl 1 rfl) ?_
  refine wi_callVi (k := 0) (As := [.int a1]) (c_X12_denied l D cy ad tL σ1 a1 _ hF) vw_RX12_329 rfl cb_12 hx hb hml hown hg hK hP hD hS hA hLB rfl ⟨Nat.le_of_ble_eq_true rfl, Nat.le_of_ble_eq_true rfl⟩ hl.1 rfl (Nat.le_of_ble_eq_true rfl) dX12_weight_7 (fun r2 σ3 hw H locs hP hD hS => ?_)
  obtain ⟨hF, rfl⟩ := hw
  refine lv_istore_n (lv' := [(2, .int r2), (0, .ref (ad 0)), (1, .int a1)]) hx hb dX12_weight_10 rfl hl (by decide) rfl (fun ls hl => ?_)
  refine lv_iload_n hx hb dX12_weight_11 rfl (lv_at hl 0 rfl) ?_
  refine lv_if_ge (tgt := 19) hx hb dX12_weight_12 (by decide) (fun c4 => ?_) (fun c4 => ?_)
  · have hF := brT hF c4
    refine lv_aload_n hx hb dX12_weight_19 rfl (lv_at hl 1 rfl) ?_
    refine wi_getr hx hb hg hown hK hP 0 48 33 rfl rfl cb_12 (by decide) kw_606 dX12_weight_20 ?_
    refine lv_iload_n hx hb dX12_weight_23 rfl (lv_at hl 2 rfl) ?_
    obtain ⟨hin, hF⟩ := hF
    refine wi_iald hx hb hK hP 33 rfl hin dX12_weight_24 (fun v5 ev5 => ?_)
    have hF := hF v5 ev5
    exact wi_iret hx hb hr hlk hK hP hD hS dX12_weight_25 hF
  · have hF := brF hF c4
    refine lv_iload_n hx hb dX12_weight_15 rfl (lv_at hl 0 rfl) ?_
    refine lv_goto (tgt := 25) hx hb dX12_weight_16 (by decide) ?_
    exact wi_iret hx hb hr hlk hK hP hD hS dX12_weight_25 hF
def w_X12_toss (σ : St) (a1 : Int32) (post : Int32 → St → Prop) : Prop := nm (upI σ 0 0 (0 : Int32)) (fun σ1 => w_X12_denied σ1 a1 (fun r2 => br ((0 : Int32) ≤ r2) (rd (σ1.1 34) 8 a1 (fun v5 => post v5 σ1)) (post r2 σ1)))
set_option maxHeartbeats 4000000 in
set_option maxRecDepth 100000 in
theorem c_X12_toss (l : Launch) (D : va_G) (cy : Nat → ClassId) (ad : Nat → Nat) (tL : Nat) (σ : St) (a1 : Int32) (post : Int32 → St → Prop) (hF : w_X12_toss σ a1 post) : Cti l yX12_toss cX12_toss 3 (some .int) 2 41 D cy ad tL dsM σ [.ref (ad 0), .int a1] post := by
  refine cti_of (by decide) (Nat.le_of_ble_eq_true rfl) ?_
  intro p e s m args below meth c A hx hb hml hr hlk hg hown hA hK H locs hP hD hS hLB ls hl
  have hown : s.vm.findClass RX12 = some m.cls := hown
  have hl : lv_has ls 3 [(0, .ref (ad 0)), (1, .int a1)] := hl
  refine lv_aload_n hx hb dX12_toss_0 rfl (lv_at hl 0 rfl) ?_
  refine lv_iconst (v := (0 : Int32)) hx hb dX12_toss_1 (by decide) ?_
  refine wi_puti hx hb hg hown hK hP hD hS 0 0 rfl rfl cb_12 (by decide) kw_615 rfl rfl rfl dX12_toss_2 (fun σ1 eσ1 H locs hP hD hS => ?_)
  have hF := hF σ1 eσ1
  refine lv_aload_n hx hb dX12_toss_5 rfl (lv_at hl 0 rfl) ?_
  refine lv_iload_n hx hb dX12_toss_6 rfl (lv_at hl 1 rfl) ?_
  refine wi_callVi (k := 0) (As := [.int a1]) (c_X12_denied l D cy ad tL σ1 a1 _ hF) vw_RX12_329 rfl cb_12 hx hb hml hown hg hK hP hD hS hA hLB rfl ⟨Nat.le_of_ble_eq_true rfl, Nat.le_of_ble_eq_true rfl⟩ hl.1 rfl (Nat.le_of_ble_eq_true rfl) dX12_toss_7 (fun r2 σ3 hw H locs hP hD hS => ?_)
  obtain ⟨hF, rfl⟩ := hw
  refine lv_istore_n (lv' := [(2, .int r2), (0, .ref (ad 0)), (1, .int a1)]) hx hb dX12_toss_10 rfl hl (by decide) rfl (fun ls hl => ?_)
  refine lv_iload_n hx hb dX12_toss_11 rfl (lv_at hl 0 rfl) ?_
  refine lv_if_ge (tgt := 19) hx hb dX12_toss_12 (by decide) (fun c4 => ?_) (fun c4 => ?_)
  · have hF := brT hF c4
    refine lv_aload_n hx hb dX12_toss_19 rfl (lv_at hl 1 rfl) ?_
    refine wi_getr hx hb hg hown hK hP 0 49 34 rfl rfl cb_12 (by decide) kw_607 dX12_toss_20 ?_
    refine lv_iload_n hx hb dX12_toss_23 rfl (lv_at hl 2 rfl) ?_
    obtain ⟨hin, hF⟩ := hF
    refine wi_iald hx hb hK hP 34 rfl hin dX12_toss_24 (fun v5 ev5 => ?_)
    have hF := hF v5 ev5
    exact wi_iret hx hb hr hlk hK hP hD hS dX12_toss_25 hF
  · have hF := brF hF c4
    refine lv_iload_n hx hb dX12_toss_15 rfl (lv_at hl 0 rfl) ?_
    refine lv_goto (tgt := 25) hx hb dX12_toss_16 (by decide) ?_
    exact wi_iret hx hb hr hlk hK hP hD hS dX12_toss_25 hF
