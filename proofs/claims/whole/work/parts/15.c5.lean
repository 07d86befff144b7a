def w_X10_goOnFrom_L19 (a1 : Int32) (J3 : St → Prop) (rec7 : Int32 → St → Prop) (y5 : Int32) (σ6 : St) : Prop := rd (σ6.1 34) 250 a1 (fun v8 => br (v8 ≤ y5) (J3 σ6) (rd (σ6.2 33) 4000 (y5 / (5 : Int32)) (fun v10 => nm (((((v10 : Int64).toUInt64 >>> ((((y5 - y5 / (5 : Int32) * (5 : Int32)) * (12 : Int32)) : Int32).toInt64.toUInt64 &&& Int64.toUInt64 63)).toInt64) : Int64).toInt32) (fun x11 => nm ((x11 >>> ((4 : Int32) &&& 31)) &&& (255 : Int32)) (fun x12 => rd (σ6.1 35) 250 a1 (fun v13 => nm (v13 + (x11 &&& (15 : Int32))) (fun x14 => rd (σ6.1 35) 250 x12 (fun v15 => br (v15 ≤ x14) (nm (y5 + (1 : Int32)) (fun x17 => rec7 x17 σ6)) (ck x12 250 (nm (upI σ6 35 (x12).toNatClampNeg x14) (fun σ18 => nm (y5 + (1 : Int32)) (fun x19 => rec7 x19 σ18))))))))))))
def w_X10_goOnFrom (σ : St) (a1 : Int32) (post : St → Prop) : Prop := jn (α := Int32 → Prop) (fun (y2 : Int32) => jn (α := St → Prop) (fun (σ4 : St) => post σ4) (fun J3 => lpE2 (w_X10_goOnFrom_L19 a1 J3) y2 σ)) (fun J1 => br (a1 = (0 : Int32)) (J1 (0 : Int32)) (rd (σ.1 34) 250 (a1 - (1 : Int32)) (fun v21 => J1 v21)))
set_option maxHeartbeats 4000000 in
set_option maxRecDepth 100000 in
theorem c_X10_goOnFrom (l : Launch) (D : va_G) (cy : Nat → ClassId) (ad : Nat → Nat) (tL : Nat) (σ : St) (a1 : Int32) (post : St → Prop) (hF : w_X10_goOnFrom σ a1 post) : Ctv l yX10_goOnFrom cX10_goOnFrom 7 none 0 0 D cy ad tL dsC σ [.ref (ad 7), .int a1] post := by
  refine ctv_of (by decide) (Nat.le_of_ble_eq_true rfl) ?_
  intro p e s m args below meth c A hx hb hml hr hlk hg hown hA hK H locs hP hD hS hLB ls hl
  have hown : s.vm.findClass RX10 = some m.cls := hown
  have hl : lv_has ls 7 [(0, .ref (ad 7)), (1, .int a1)] := hl
  refine lv_iload_n hx hb dX10_goOnFrom_0 rfl (lv_at hl 1 rfl) ?_
  refine jn_use hF (fun K => ∀ (y2 : Int32) (H : Heap) (locs : List Loc) (ls : Array Slot), K y2 → va_P D vwCl (wld cy ad dsC σ) H → va_D A (wld cy ad dsC σ) → va_S A s.heap H locs → lv_has ls 7 [(0, .ref (ad 7)), (1, .int a1)] → W p l e (rmO 0 0) s m args below meth c H locs 0 0 (MQ below (va_Qv post (cBk D cy ad dsC A) A) args s 0 0 A) (F0 m 16 ls [.int y2])) (fun y2 H locs ls hF hP hD hS hl => ?_) (fun J1 hJ1 hF => ?_)
  · refine lv_istore_n (lv' := [(2, .int y2), (0, .ref (ad 7)), (1, .int a1)]) hx hb dX10_goOnFrom_16 rfl hl (by decide) rfl (fun ls hl => ?_)
    refine lv_iload_n hx hb dX10_goOnFrom_17 rfl (lv_at hl 0 rfl) ?_
    refine lv_istore_n (lv' := [(3, .int y2), (2, .int y2), (0, .ref (ad 7)), (1, .int a1)]) hx hb dX10_goOnFrom_18 rfl hl (by decide) rfl (fun ls hl => ?_)
    refine jn_use hF (fun K => ∀ (σ4 : St) (H : Heap) (locs : List Loc) (ls : Array Slot), K σ4 → va_P D vwCl (wld cy ad dsC σ4) H → va_D A (wld cy ad dsC σ4) → va_S A s.heap H locs → lv_has ls 7 [] → W p l e (rmO 0 0) s m args below meth c H locs 0 0 (MQ below (va_Qv post (cBk D cy ad dsC A) A) args s 0 0 A) (F0 m 98 ls [])) (fun σ4 H locs ls hF hP hD hS hl => ?_) (fun J3 hJ3 hF => ?_)
    · exact wi_vret hx hb hr hlk hK hP hD hS dX10_goOnFrom_98 hF
    · refine lpE2_use hF (fun (y5 : Int32) (σ6 : St) => ∀ (H : Heap) (locs : List Loc) (ls : Array Slot), va_P D vwCl (wld cy ad dsC σ6) H → va_D A (wld cy ad dsC σ6) → va_S A s.heap H locs → lv_has ls 7 [(0, .ref (ad 7)), (1, .int a1), (3, .int y5)] → W p l e (rmO 0 0) s m args below meth c H locs 0 0 (MQ below (va_Qv post (cBk D cy ad dsC A) A) args s 0 0 A) (F0 m 19 ls [])) (fun rec7 hrec7 y5 σ6 hF H locs ls hP hD hS hl => ?_) H locs ls hP hD hS (lv_sub hl [2, 3, 0] rfl)
      refine lv_iload_n hx hb dX10_goOnFrom_19 rfl (lv_at hl 2 rfl) ?_
      refine lv_aload_n hx hb dX10_goOnFrom_20 rfl (lv_at hl 0 rfl) ?_
      refine wi_getr hx hb hg hown hK hP 7 1 34 rfl rfl cb_10 (by decide) kw_225 dX10_goOnFrom_21 ?_
      refine lv_iload_n hx hb dX10_goOnFrom_24 rfl (lv_at hl 1 rfl) ?_
      obtain ⟨hin, hF⟩ := hF
      refine wi_iald hx hb hK hP 34 rfl hin dX10_goOnFrom_25 (fun v8 ev8 => ?_)
      have hF := hF v8 ev8
      refine lv_icmp_ge (tgt := 98) hx hb dX10_goOnFrom_26 (by decide) (fun c9 => ?_) (fun c9 => ?_)
      · have hF := brT hF c9
        exact hJ3 σ6 H locs ls hF hP hD hS (lv_sub hl [] rfl)
      · have hF := brF hF c9
        refine lv_aload_n hx hb dX10_goOnFrom_29 rfl (lv_at hl 0 rfl) ?_
        refine wi_getr hx hb hg hown hK hP 7 0 33 rfl rfl cb_10 (by decide) kw_224 dX10_goOnFrom_30 ?_
        refine lv_iload_n hx hb dX10_goOnFrom_33 rfl (lv_at hl 2 rfl) ?_
        refine lv_iconst (v := (5 : Int32)) hx hb dX10_goOnFrom_34 (by decide) ?_
        refine lv_idiv hx hb dX10_goOnFrom_35 (by decide) ?_
        obtain ⟨hin, hF⟩ := hF
        refine wi_lald hx hb hK hP 33 rfl hin dX10_goOnFrom_36 (fun v10 ev10 => ?_)
        have hF := hF v10 ev10
        refine lv_iload_n hx hb dX10_goOnFrom_37 rfl (lv_at hl 2 rfl) ?_
        refine lv_iconst (v := (5 : Int32)) hx hb dX10_goOnFrom_38 (by decide) ?_
        refine lv_irem hx hb dX10_goOnFrom_39 (by decide) ?_
        refine lv_bipush (v := (12 : Int32)) hx hb dX10_goOnFrom_40 (by decide) ?_
        refine lv_imul hx hb dX10_goOnFrom_42 ?_
        refine lv_lushr hx hb dX10_goOnFrom_43 rfl ?_
        refine lv_l2i hx hb dX10_goOnFrom_44 rfl ?_
        refine lv_topi (fun x11 ex11 => ?_)
        have hF := hF x11 ex11
        refine lv_istore (lv' := [(4, .int x11), (0, .ref (ad 7)), (1, .int a1), (3, .int y5)]) hx hb dX10_goOnFrom_45 hl (by decide) rfl (fun ls hl => ?_)
        refine lv_iload hx hb dX10_goOnFrom_47 (lv_at hl 0 rfl) ?_
        refine lv_iconst (v := (4 : Int32)) hx hb dX10_goOnFrom_49 (by decide) ?_
        refine lv_ishr hx hb dX10_goOnFrom_50 ?_
        refine lv_sipush (v := (255 : Int32)) hx hb dX10_goOnFrom_51 (by decide) ?_
        refine lv_iand hx hb dX10_goOnFrom_54 ?_
        refine lv_topi (fun x12 ex12 => ?_)
        have hF := hF x12 ex12
        refine lv_istore (lv' := [(5, .int x12), (4, .int x11), (0, .ref (ad 7)), (1, .int a1), (3, .int y5)]) hx hb dX10_goOnFrom_55 hl (by decide) rfl (fun ls hl => ?_)
        refine lv_aload_n hx hb dX10_goOnFrom_57 rfl (lv_at hl 2 rfl) ?_
        refine wi_getr hx hb hg hown hK hP 7 2 35 rfl rfl cb_10 (by decide) kw_226 dX10_goOnFrom_58 ?_
        refine lv_iload_n hx hb dX10_goOnFrom_61 rfl (lv_at hl 3 rfl) ?_
        obtain ⟨hin, hF⟩ := hF
        refine wi_iald hx hb hK hP 35 rfl hin dX10_goOnFrom_62 (fun v13 ev13 => ?_)
        have hF := hF v13 ev13
        refine lv_iload hx hb dX10_goOnFrom_63 (lv_at hl 1 rfl) ?_
        refine lv_bipush (v := (15 : Int32)) hx hb dX10_goOnFrom_65 (by decide) ?_
        refine lv_iand hx hb dX10_goOnFrom_67 ?_
        refine lv_iadd hx hb dX10_goOnFrom_68 ?_
        refine lv_topi (fun x14 ex14 => ?_)
        have hF := hF x14 ex14
        refine lv_istore (lv' := [(6, .int x14), (5, .int x12), (4, .int x11), (0, .ref (ad 7)), (1, .int a1), (3, .int y5)]) hx hb dX10_goOnFrom_69 hl (by decide) rfl (fun ls hl => ?_)
        refine lv_iload hx hb dX10_goOnFrom_71 (lv_at hl 0 rfl) ?_
        refine lv_aload_n hx hb dX10_goOnFrom_73 rfl (lv_at hl 3 rfl) ?_
        refine wi_getr hx hb hg hown hK hP 7 2 35 rfl rfl cb_10 (by decide) kw_226 dX10_goOnFrom_74 ?_
        refine lv_iload hx hb dX10_goOnFrom_77 (lv_at hl 1 rfl) ?_
        obtain ⟨hin, hF⟩ := hF
        refine wi_iald hx hb hK hP 35 rfl hin dX10_goOnFrom_79 (fun v15 ev15 => ?_)
        have hF := hF v15 ev15
        refine lv_icmp_ge (tgt := 92) hx hb dX10_goOnFrom_80 (by decide) (fun c16 => ?_) (fun c16 => ?_)
        · have hF := brT hF c16
          obtain ⟨x17, ex17⟩ : ∃ z : Int32, z = (y5 + (1 : Int32)) := ⟨_, rfl⟩
          have hF := hF x17 ex17
          refine lv_iinc (v := x17) (lv' := [(3, .int x17), (6, .int x14), (5, .int x12), (4, .int x11), (0, .ref (ad 7)), (1, .int a1)]) hx hb dX10_goOnFrom_92 hl (k := 5) rfl (by rw [ex17]; rfl) (by decide) rfl (fun ls hl => ?_)
          refine lv_goto (tgt := 19) hx hb dX10_goOnFrom_95 (by decide) ?_
          exact hrec7 x17 σ6 hF H locs ls hP hD hS (lv_sub hl [4, 5, 0] rfl)
        · have hF := brF hF c16
          refine lv_aload_n hx hb dX10_goOnFrom_83 rfl (lv_at hl 3 rfl) ?_
          refine wi_getr hx hb hg hown hK hP 7 2 35 rfl rfl cb_10 (by decide) kw_226 dX10_goOnFrom_84 ?_
          refine lv_iload hx hb dX10_goOnFrom_87 (lv_at hl 1 rfl) ?_
          refine lv_iload hx hb dX10_goOnFrom_89 (lv_at hl 0 rfl) ?_
          obtain ⟨hin, hF⟩ := hF
          refine wi_iast hx hb hK hP hD hS 35 rfl hin dX10_goOnFrom_91 (fun σ18 eσ18 H locs hP hD hS => ?_)
          have hF := hF σ18 eσ18
          obtain ⟨x19, ex19⟩ : ∃ z : Int32, z = (y5 + (1 : Int32)) := ⟨_, rfl⟩
          have hF := hF x19 ex19
          refine lv_iinc (v := x19) (lv' := [(3, .int x19), (6, .int x14), (5, .int x12), (4, .int x11), (0, .ref (ad 7)), (1, .int a1)]) hx hb dX10_goOnFrom_92 hl (k := 5) rfl (by rw [ex19]; rfl) (by decide) rfl (fun ls hl => ?_)
          refine lv_goto (tgt := 19) hx hb dX10_goOnFrom_95 (by decide) ?_
          exact hrec7 x19 σ18 hF H locs ls hP hD hS (lv_sub hl [4, 5, 0] rfl)
  · refine lv_if_ne (tgt := 8) hx hb dX10_goOnFrom_1 (by decide) (fun c20 => ?_) (fun c20 => ?_)
    · have hF := brF hF c20
      refine lv_aload_n hx hb dX10_goOnFrom_8 rfl (lv_at hl 0 rfl) ?_
      refine wi_getr hx hb hg hown hK hP 7 1 34 rfl rfl cb_10 (by decide) kw_225 dX10_goOnFrom_9 ?_
      refine lv_iload_n hx hb dX10_goOnFrom_12 rfl (lv_at hl 1 rfl) ?_
      refine lv_iconst (v := (1 : Int32)) hx hb dX10_goOnFrom_13 (by decide) ?_
      refine lv_isub hx hb dX10_goOnFrom_14 ?_
      obtain ⟨hin, hF⟩ := hF
      refine wi_iald hx hb hK hP 34 rfl hin dX10_goOnFrom_15 (fun v21 ev21 => ?_)
      have hF := hF v21 ev21
      exact hJ1 v21 H locs ls hF hP hD hS (lv_sub hl [0, 1] rfl)
    · have hF := brT hF c20
      refine lv_iconst (v := (0 : Int32)) hx hb dX10_goOnFrom_4 (by decide) ?_
      refine lv_goto (tgt := 16) hx hb dX10_goOnFrom_5 (by decide) ?_
      exact hJ1 (0 : Int32) H locs ls hF hP hD hS (lv_sub hl [0, 1] rfl)
def w_X10_measure_L38 (a2 : Int32) (post : St → Prop) (J3 : St → Prop) (rec7 : Int32 → St → Prop) (y5 : Int32) (σ6 : St) : Prop := br (a2 ≤ y5) (J3 σ6) (w_X10_nearest σ6 a2 (fun r9 => br ((0 : Int32) ≤ r9) (ck r9 250 (nm (upI σ6 36 (r9).toNatClampNeg (vp_nar .boolean (1 : Int32))) (fun σ12 => w_X10_goOnFrom σ12 r9 (fun σ14 => nm (y5 + (1 : Int32)) (fun x15 => rec7 x15 σ14))))) (post σ6)))
def w_X10_measure_L2 (a1 : Int32) (J1 : St → Prop) (rec18 : Int32 → St → Prop) (y16 : Int32) (σ17 : St) : Prop := br (a1 ≤ y16) (J1 σ17) (jn (α := Int32 → Prop) (fun (y21 : Int32) => ck y16 250 (nm (upI σ17 35 (y16).toNatClampNeg y21) (fun σ22 => ck y16 250 (nm (upI σ22 36 (y16).toNatClampNeg (vp_nar .boolean (0 : Int32))) (fun σ23 => nm (y16 + (1 : Int32)) (fun x24 => rec18 x24 σ23)))))) (fun J20 => br (y16 = (0 : Int32)) (J20 (0 : Int32)) (J20 (1048576 : Int32))))
def w_X10_measure (σ : St) (a1 : Int32) (a2 : Int32) (post : St → Prop) : Prop := jn (α := St → Prop) (fun (σ2 : St) => jn (α := St → Prop) (fun (σ4 : St) => post σ4) (fun J3 => lpE2 (w_X10_measure_L38 a2 post J3) (0 : Int32) σ2)) (fun J1 => lpE2 (w_X10_measure_L2 a1 J1) (0 : Int32) σ)
set_option maxHeartbeats 4000000 in
set_option maxRecDepth 100000 in
theorem c_X10_measure (l : Launch) (D : va_G) (cy : Nat → ClassId) (ad : Nat → Nat) (tL : Nat) (σ : St) (a1 : Int32) (a2 : Int32) (post : St → Prop) (hF : w_X10_measure σ a1 a2 post) : Ctv l yX10_measure cX10_measure 5 none 1 26 D cy ad tL dsC σ [.ref (ad 7), .int a1, .int a2] post := by
  refine ctv_of (by decide) (Nat.le_of_ble_eq_true rfl) ?_
  intro p e s m args below meth c A hx hb hml hr hlk hg hown hA hK H locs hP hD hS hLB ls hl
  have hown : s.vm.findClass RX10 = some m.cls := hown
  have hl : lv_has ls 5 [(0, .ref (ad 7)), (1, .int a1), (2, .int a2)] := hl
  refine lv_iconst (v := (0 : Int32)) hx hb dX10_measure_0 (by decide) ?_
  refine lv_istore_n (lv' := [(3, .int (0 : Int32)), (0, .ref (ad 7)), (1, .int a1), (2, .int a2)]) hx hb dX10_measure_1 rfl hl (by decide) rfl (fun ls hl => ?_)
  refine jn_use hF (fun K => ∀ (σ2 : St) (H : Heap) (locs : List Loc) (ls : Array Slot), K σ2 → va_P D vwCl (wld cy ad dsC σ2) H → va_D A (wld cy ad dsC σ2) → va_S A s.heap H locs → lv_has ls 5 [(0, .ref (ad 7)), (2, .int a2)] → W p l e (rmO 1 26) s m args below meth c H locs 0 0 (MQ below (va_Qv post (cBk D cy ad dsC A) A) args s 0 0 A) (F0 m 36 ls [])) (fun σ2 H locs ls hF hP hD hS hl => ?_) (fun J1 hJ1 hF => ?_)
  · refine lv_iconst (v := (0 : Int32)) hx hb dX10_measure_36 (by decide) ?_
    refine lv_istore_n (lv' := [(3, .int (0 : Int32)), (0, .ref (ad 7)), (2, .int a2)]) hx hb dX10_measure_37 rfl hl (by decide) rfl (fun ls hl => ?_)
    refine jn_use hF (fun K => ∀ (σ4 : St) (H : Heap) (locs : List Loc) (ls : Array Slot), K σ4 → va_P D vwCl (wld cy ad dsC σ4) H → va_D A (wld cy ad dsC σ4) → va_S A s.heap H locs → lv_has ls 5 [] → W p l e (rmO 1 26) s m args below meth c H locs 0 0 (MQ below (va_Qv post (cBk D cy ad dsC A) A) args s 0 0 A) (F0 m 76 ls [])) (fun σ4 H locs ls hF hP hD hS hl => ?_) (fun J3 hJ3 hF => ?_)
    · exact wi_vret hx hb hr hlk hK hP hD hS dX10_measure_76 hF
    · refine lpE2_use hF (fun (y5 : Int32) (σ6 : St) => ∀ (H : Heap) (locs : List Loc) (ls : Array Slot), va_P D vwCl (wld cy ad dsC σ6) H → va_D A (wld cy ad dsC σ6) → va_S A s.heap H locs → lv_has ls 5 [(0, .ref (ad 7)), (2, .int a2), (3, .int y5)] → W p l e (rmO 1 26) s m args below meth c H locs 0 0 (MQ below (va_Qv post (cBk D cy ad dsC A) A) args s 0 0 A) (F0 m 38 ls [])) (fun rec7 hrec7 y5 σ6 hF H locs ls hP hD hS hl => ?_) H locs ls hP hD hS (lv_sub hl [1, 2, 0] rfl)
      refine lv_iload_n hx hb dX10_measure_38 rfl (lv_at hl 2 rfl) ?_
      refine lv_iload_n hx hb dX10_measure_39 rfl (lv_at hl 1 rfl) ?_
      refine lv_icmp_ge (tgt := 76) hx hb dX10_measure_40 (by decide) (fun c8 => ?_) (fun c8 => ?_)
      · have hF := brT hF c8
        exact hJ3 σ6 H locs ls hF hP hD hS (lv_sub hl [] rfl)
      · have hF := brF hF c8
        refine lv_aload_n hx hb dX10_measure_43 rfl (lv_at hl 0 rfl) ?_
        refine lv_iload_n hx hb dX10_measure_44 rfl (lv_at hl 1 rfl) ?_
        refine wi_callVi (k := 7) (As := [.int a2]) (c_X10_nearest l D cy ad tL σ6 a2 _ hF) vw_RX10_41 rfl cb_10 hx hb hml hown hg hK hP hD hS hA hLB rfl ⟨Nat.le_of_ble_eq_true rfl, Nat.le_of_ble_eq_true rfl⟩ hl.1 rfl (Nat.le_of_ble_eq_true rfl) dX10_measure_45 (fun r9 σ10 hw H locs hP hD hS => ?_)
        obtain ⟨hF, rfl⟩ := hw
        refine lv_istore (lv' := [(4, .int r9), (0, .ref (ad 7)), (2, .int a2), (3, .int y5)]) hx hb dX10_measure_48 hl (by decide) rfl (fun ls hl => ?_)
        refine lv_iload hx hb dX10_measure_50 (lv_at hl 0 rfl) ?_
        refine lv_if_ge (tgt := 56) hx hb dX10_measure_52 (by decide) (fun c11 => ?_) (fun c11 => ?_)
        · have hF := brT hF c11
          refine lv_aload_n hx hb dX10_measure_56 rfl (lv_at hl 1 rfl) ?_
          refine wi_getr hx hb hg hown hK hP 7 3 36 rfl rfl cb_10 (by decide) kw_228 dX10_measure_57 ?_
          refine lv_iload hx hb dX10_measure_60 (lv_at hl 0 rfl) ?_
          refine lv_iconst (v := (1 : Int32)) hx hb dX10_measure_62 (by decide) ?_
          obtain ⟨hin, hF⟩ := hF
          refine wi_zast hx hb hK hP hD hS 36 rfl hin dX10_measure_63 (fun σ12 eσ12 H locs hP hD hS => ?_)
          have hF := hF σ12 eσ12
          refine lv_aload_n hx hb dX10_measure_64 rfl (lv_at hl 1 rfl) ?_
          refine lv_iload hx hb dX10_measure_65 (lv_at hl 0 rfl) ?_
          refine wi_callVv (k := 7) (As := [.int r9]) (c_X10_goOnFrom l D cy ad tL σ12 r9 _ hF) vw_RX10_45 rfl cb_10 hx hb hml hown hg hK hP hD hS hA hLB rfl ⟨Nat.le_of_ble_eq_true rfl, Nat.le_of_ble_eq_true rfl⟩ hl.1 rfl (Nat.le_of_ble_eq_true rfl) dX10_measure_67 (fun σ14 hw H locs hP hD hS => ?_)
          have hF := hw
          obtain ⟨x15, ex15⟩ : ∃ z : Int32, z = (y5 + (1 : Int32)) := ⟨_, rfl⟩
          have hF := hF x15 ex15
          refine lv_iinc (v := x15) (lv' := [(3, .int x15), (4, .int r9), (0, .ref (ad 7)), (2, .int a2)]) hx hb dX10_measure_70 hl (k := 3) rfl (by rw [ex15]; rfl) (by decide) rfl (fun ls hl => ?_)
          refine lv_goto (tgt := 38) hx hb dX10_measure_73 (by decide) ?_
          exact hrec7 x15 σ14 hF H locs ls hP hD hS (lv_sub hl [2, 3, 0] rfl)
        · have hF := brF hF c11
          exact wi_vret hx hb hr hlk hK hP hD hS dX10_measure_55 hF
  · refine lpE2_use hF (fun (y16 : Int32) (σ17 : St) => ∀ (H : Heap) (locs : List Loc) (ls : Array Slot), va_P D vwCl (wld cy ad dsC σ17) H → va_D A (wld cy ad dsC σ17) → va_S A s.heap H locs → lv_has ls 5 [(0, .ref (ad 7)), (1, .int a1), (2, .int a2), (3, .int y16)] → W p l e (rmO 1 26) s m args below meth c H locs 0 0 (MQ below (va_Qv post (cBk D cy ad dsC A) A) args s 0 0 A) (F0 m 2 ls [])) (fun rec18 hrec18 y16 σ17 hF H locs ls hP hD hS hl => ?_) H locs ls hP hD hS (lv_sub hl [1, 2, 3, 0] rfl)
    refine lv_iload_n hx hb dX10_measure_2 rfl (lv_at hl 3 rfl) ?_
    refine lv_iload_n hx hb dX10_measure_3 rfl (lv_at hl 1 rfl) ?_
    refine lv_icmp_ge (tgt := 36) hx hb dX10_measure_4 (by decide) (fun c19 => ?_) (fun c19 => ?_)
    · have hF := brT hF c19
      exact hJ1 σ17 H locs ls hF hP hD hS (lv_sub hl [0, 2] rfl)
    · have hF := brF hF c19
      refine lv_aload_n hx hb dX10_measure_7 rfl (lv_at hl 0 rfl) ?_
      refine wi_getr hx hb hg hown hK hP 7 2 35 rfl rfl cb_10 (by decide) kw_226 dX10_measure_8 ?_
      refine lv_iload_n hx hb dX10_measure_11 rfl (lv_at hl 3 rfl) ?_
      refine lv_iload_n hx hb dX10_measure_12 rfl (lv_at hl 3 rfl) ?_
      refine jn_use hF (fun K => ∀ (y21 : Int32) (H : Heap) (locs : List Loc) (ls : Array Slot), K y21 → va_P D vwCl (wld cy ad dsC σ17) H → va_D A (wld cy ad dsC σ17) → va_S A s.heap H locs → lv_has ls 5 [(0, .ref (ad 7)), (1, .int a1), (2, .int a2), (3, .int y16)] → W p l e (rmO 1 26) s m args below meth c H locs 0 0 (MQ below (va_Qv post (cBk D cy ad dsC A) A) args s 0 0 A) (F0 m 22 ls [.int y21, .int y16, .ref (ad 35)])) (fun y21 H locs ls hF hP hD hS hl => ?_) (fun J20 hJ20 hF => ?_)
      · obtain ⟨hin, hF⟩ := hF
        refine wi_iast hx hb hK hP hD hS 35 rfl hin dX10_measure_22 (fun σ22 eσ22 H locs hP hD hS => ?_)
        have hF := hF σ22 eσ22
        refine lv_aload_n hx hb dX10_measure_23 rfl (lv_at hl 0 rfl) ?_
        refine wi_getr hx hb hg hown hK hP 7 3 36 rfl rfl cb_10 (by decide) kw_228 dX10_measure_24 ?_
        refine lv_iload_n hx hb dX10_measure_27 rfl (lv_at hl 3 rfl) ?_
        refine lv_iconst (v := (0 : Int32)) hx hb dX10_measure_28 (by decide) ?_
        obtain ⟨hin, hF⟩ := hF
        refine wi_zast hx hb hK hP hD hS 36 rfl hin dX10_measure_29 (fun σ23 eσ23 H locs hP hD hS => ?_)
        have hF := hF σ23 eσ23
        obtain ⟨x24, ex24⟩ : ∃ z : Int32, z = (y16 + (1 : Int32)) := ⟨_, rfl⟩
        have hF := hF x24 ex24
        refine lv_iinc (v := x24) (lv' := [(3, .int x24), (0, .ref (ad 7)), (1, .int a1), (2, .int a2)]) hx hb dX10_measure_30 hl (k := 3) rfl (by rw [ex24]; rfl) (by decide) rfl (fun ls hl => ?_)
        refine lv_goto (tgt := 2) hx hb dX10_measure_33 (by decide) ?_
        exact hrec18 x24 σ23 hF H locs ls hP hD hS (lv_sub hl [1, 2, 3, 0] rfl)
      · refine lv_if_ne (tgt := 20) hx hb dX10_measure_13 (by decide) (fun c25 => ?_) (fun c25 => ?_)
        · have hF := brF hF c25
          refine lv_ldc (v := (1048576 : Int32)) hx hb hown (hg _ kw_333) dX10_measure_20 ?_
          exact hJ20 (1048576 : Int32) H locs ls hF hP hD hS (lv_sub hl [0, 1, 2, 3] rfl)
        · have hF := brT hF c25
          refine lv_iconst (v := (0 : Int32)) hx hb dX10_measure_16 (by decide) ?_
          refine lv_goto (tgt := 22) hx hb dX10_measure_17 (by decide) ?_
          exact hJ20 (0 : Int32) H locs ls hF hP hD hS (lv_sub hl [0, 1, 2, 3] rfl)
def w_X10_fewestTo (σ : St) (a1 : Int32) (a2 : Int32) (a3 : Int32) (post : Int32 → St → Prop) : Prop := jn (α := St → Prop) (fun (σ2 : St) => rd (σ2.1 35) 250 a1 (fun v3 => br ((1048576 : Int32) ≤ v3) (post (-2 : Int32) σ2) (rd (σ2.1 35) 250 a1 (fun v5 => post v5 σ2)))) (fun J1 => br ((σ.1 7 4) = (0 : Int32)) (w_X10_measure σ a2 a3 (fun σ8 => nm (upI σ8 7 4 (1 : Int32)) (fun σ9 => J1 σ9))) (J1 σ))
set_option maxHeartbeats 4000000 in
set_option maxRecDepth 100000 in
theorem c_X10_fewestTo (l : Launch) (D : va_G) (cy : Nat → ClassId) (ad : Nat → Nat) (tL : Nat) (σ : St) (a1 : Int32) (a2 : Int32) (a3 : Int32) (post : Int32 → St → Prop) (hF : w_X10_fewestTo σ a1 a2 a3 post) : Cti l yX10_fewestTo cX10_fewestTo 4 (some .int) 2 50 D cy ad tL dsC σ [.ref (ad 7), .int a1, .int a2, .int a3] post := by
  refine cti_of (by decide) (Nat.le_of_ble_eq_true rfl) ?_
  intro p e s m args below meth c A hx hb hml hr hlk hg hown hA hK H locs hP hD hS hLB ls hl
  have hown : s.vm.findClass RX10 = some m.cls := hown
  have hl : lv_has ls 4 [(0, .ref (ad 7)), (1, .int a1), (2, .int a2), (3, .int a3)] := hl
  refine lv_aload_n hx hb dX10_fewestTo_0 rfl (lv_at hl 0 rfl) ?_
  refine wi_geti hx hb hg hown hK hP 7 4 rfl rfl cb_10 (by decide) kw_229 dX10_fewestTo_1 ?_
  refine jn_use hF (fun K => ∀ (σ2 : St) (H : Heap) (locs : List Loc) (ls : Array Slot), K σ2 → va_P D vwCl (wld cy ad dsC σ2) H → va_D A (wld cy ad dsC σ2) → va_S A s.heap H locs → lv_has ls 4 [(0, .ref (ad 7)), (1, .int a1)] → W p l e (rmO 2 50) s m args below meth c H locs 0 0 (MQ below (va_Qi post (cBk D cy ad dsC A) A) args s 0 0 A) (F0 m 18 ls [])) (fun σ2 H locs ls hF hP hD hS hl => ?_) (fun J1 hJ1 hF => ?_)
  · refine lv_aload_n hx hb dX10_fewestTo_18 rfl (lv_at hl 0 rfl) ?_
    refine wi_getr hx hb hg hown hK hP 7 2 35 rfl rfl cb_10 (by decide) kw_226 dX10_fewestTo_19 ?_
    refine lv_iload_n hx hb dX10_fewestTo_22 rfl (lv_at hl 1 rfl) ?_
    obtain ⟨hin, hF⟩ := hF
    refine wi_iald hx hb hK hP 35 rfl hin dX10_fewestTo_23 (fun v3 ev3 => ?_)
    have hF := hF v3 ev3
    refine lv_ldc (v := (1048576 : Int32)) hx hb hown (hg _ kw_333) dX10_fewestTo_24 ?_
    refine lv_icmp_ge (tgt := 38) hx hb dX10_fewestTo_26 (by decide) (fun c4 => ?_) (fun c4 => ?_)
    · have hF := brT hF c4
      refine lv_bipush (v := (-2 : Int32)) hx hb dX10_fewestTo_38 (by decide) ?_
      exact wi_iret hx hb hr hlk hK hP hD hS dX10_fewestTo_40 hF
    · have hF := brF hF c4
      refine lv_aload_n hx hb dX10_fewestTo_29 rfl (lv_at hl 0 rfl) ?_
      refine wi_getr hx hb hg hown hK hP 7 2 35 rfl rfl cb_10 (by decide) kw_226 dX10_fewestTo_30 ?_
      refine lv_iload_n hx hb dX10_fewestTo_33 rfl (lv_at hl 1 rfl) ?_
      obtain ⟨hin, hF⟩ := hF
      refine wi_iald hx hb hK hP 35 rfl hin dX10_fewestTo_34 (fun v5 ev5 => ?_)
      have hF := hF v5 ev5
      refine lv_goto (tgt := 40) hx hb dX10_fewestTo_35 (by decide) ?_
      exact wi_iret hx hb hr hlk hK hP hD hS dX10_fewestTo_40 hF
  · refine lv_if_ne (tgt := 18) hx hb dX10_fewestTo_4 (by decide) (fun c6 => ?_) (fun c6 => ?_)
    · have hF := brF hF c6
      exact hJ1 σ H locs ls hF hP hD hS (lv_sub hl [0, 1] rfl)
    · have hF := brT hF c6
      refine lv_aload_n hx hb dX10_fewestTo_7 rfl (lv_at hl 0 rfl) ?_
      refine lv_iload_n hx hb dX10_fewestTo_8 rfl (lv_at hl 2 rfl) ?_
      refine lv_iload_n hx hb dX10_fewestTo_9 rfl (lv_at hl 3 rfl) ?_
      refine wi_callVv (k := 7) (As := [.int a2, .int a3]) (c_X10_measure l D cy ad tL σ a2 a3 _ hF) vw_RX10_36 rfl cb_10 hx hb hml hown hg hK hP hD hS hA hLB rfl ⟨Nat.le_of_ble_eq_true rfl, Nat.le_of_ble_eq_true rfl⟩ hl.1 rfl (Nat.le_of_ble_eq_true rfl) dX10_fewestTo_10 (fun σ8 hw H locs hP hD hS => ?_)
      have hF := hw
      refine lv_aload_n hx hb dX10_fewestTo_13 rfl (lv_at hl 0 rfl) ?_
      refine lv_iconst (v := (1 : Int32)) hx hb dX10_fewestTo_14 (by decide) ?_
      refine wi_puti hx hb hg hown hK hP hD hS 7 4 rfl rfl cb_10 (by decide) kw_229 rfl (by decide) (by decide) dX10_fewestTo_15 (fun σ9 eσ9 H locs hP hD hS => ?_)
      have hF := hF σ9 eσ9
      exact hJ1 σ9 H locs ls hF hP hD hS (lv_sub hl [0, 1] rfl)
def w_X11_isClock (a1 : Int32) (post : Int32 → Prop) : Prop := br (a1 < (0 : Int32)) (post (0 : Int32)) (br ((4 : Int32) ≤ a1) (post (0 : Int32)) (post (1 : Int32)))
set_option maxHeartbeats 4000000 in
set_option maxRecDepth 100000 in
theorem c_X11_isClock (l : Launch) (D : va_G) (cy : Nat → ClassId) (ad : Nat → Nat) (tL : Nat) (σ : St) (a1 : Int32) (post : Int32 → Prop) (hF : w_X11_isClock a1 post) : Cti l yX11_isClock cX11_isClock 1 (some .boolean) 0 0 D cy ad tL dsC σ [.int a1] (fun r u => post r ∧ σ = u) := by
  refine cti_of (by decide) (Nat.le_of_ble_eq_true rfl) ?_
  intro p e s m args below meth c A hx hb hml hr hlk hg hown hA hK H locs hP hD hS hLB ls hl
  have hown : s.vm.findClass RX11 = some m.cls := hown
  have hl : lv_has ls 1 [(0, .int a1)] := hl
  refine lv_iload_n hx hb dX11_isClock_0 rfl (lv_at hl 0 rfl) ?_
  refine lv_if_lt (tgt := 13) hx hb dX11_isClock_1 (by decide) (fun c1 => ?_) (fun c1 => ?_)
  · have hF := brT hF c1
    refine lv_iconst (v := (0 : Int32)) hx hb dX11_isClock_13 (by decide) ?_
    exact wi_zret hx hb hr hlk hK hP hD hS dX11_isClock_14 (by decide) ⟨hF, rfl⟩
  · have hF := brF hF c1
    refine lv_iload_n hx hb dX11_isClock_4 rfl (lv_at hl 0 rfl) ?_
    refine lv_iconst (v := (4 : Int32)) hx hb dX11_isClock_5 (by decide) ?_
    refine lv_icmp_ge (tgt := 13) hx hb dX11_isClock_6 (by decide) (fun c2 => ?_) (fun c2 => ?_)
    · have hF := brT hF c2
      refine lv_iconst (v := (0 : Int32)) hx hb dX11_isClock_13 (by decide) ?_
      exact wi_zret hx hb hr hlk hK hP hD hS dX11_isClock_14 (by decide) ⟨hF, rfl⟩
    · have hF := brF hF c2
      refine lv_iconst (v := (1 : Int32)) hx hb dX11_isClock_9 (by decide) ?_
      refine lv_goto (tgt := 14) hx hb dX11_isClock_10 (by decide) ?_
      exact wi_zret hx hb hr hlk hK hP hD hS dX11_isClock_14 (by decide) ⟨hF, rfl⟩
def w_X11_beginAnew (σ : St) (post : St → Prop) : Prop := w_X7_begin σ (fun σ2 => w_X9_forget σ2 (fun σ4 => post σ4))
set_option maxHeartbeats 4000000 in
set_option maxRecDepth 100000 in
theorem c_X11_beginAnew (l : Launch) (D : va_G) (cy : Nat → ClassId) (ad : Nat → Nat) (tL : Nat) (σ : St) (post : St → Prop) (hF : w_X11_beginAnew σ post) : Ctv l yX11_beginAnew cX11_beginAnew 1 none 1 20 D cy ad tL dsC σ [.ref (ad 0)] post := by
  refine ctv_of (by decide) (Nat.le_of_ble_eq_true rfl) ?_
  intro p e s m args below meth c A hx hb hml hr hlk hg hown hA hK H locs hP hD hS hLB ls hl
  have hown : s.vm.findClass RX11 = some m.cls := hown
  have hl : lv_has ls 1 [(0, .ref (ad 0))] := hl
  refine lv_aload_n hx hb dX11_beginAnew_0 rfl (lv_at hl 0 rfl) ?_
  refine wi_getr hx hb hg hown hK hP 0 3 5 rfl rfl cb_11 (by decide) kw_360 dX11_beginAnew_1 ?_
  refine wi_callVv (k := 5) (As := []) (c_X7_begin l D cy ad tL σ _ hF) vw_RX11_117 rfl cb_7 hx hb hml hown hg hK hP hD hS hA hLB rfl ⟨Nat.le_of_ble_eq_true rfl, Nat.le_of_ble_eq_true rfl⟩ hl.1 rfl (Nat.le_of_ble_eq_true rfl) dX11_beginAnew_4 (fun σ2 hw H locs hP hD hS => ?_)
  have hF := hw
  refine lv_aload_n hx hb dX11_beginAnew_7 rfl (lv_at hl 0 rfl) ?_
  refine wi_getr hx hb hg hown hK hP 0 4 6 rfl rfl cb_11 (by decide) kw_363 dX11_beginAnew_8 ?_
  refine wi_callVv (k := 6) (As := []) (c_X9_forget l D cy ad tL σ2 _ hF) vw_RX11_108 rfl cb_9 hx hb hml hown hg hK hP hD hS hA hLB rfl ⟨Nat.le_of_ble_eq_true rfl, Nat.le_of_ble_eq_true rfl⟩ hl.1 rfl (Nat.le_of_ble_eq_true rfl) dX11_beginAnew_11 (fun σ4 hw H locs hP hD hS => ?_)
  have hF := hw
  exact wi_vret hx hb hr hlk hK hP hD hS dX11_beginAnew_14 hF
def w_X11_addBit (σ : St) (a1 : Int32) (a2 : Int32) (a3 : Int32) (post : Int32 → St → Prop) : Prop := w_X4_takesNoBit σ (fun r1 => br (r1 = (0 : Int32)) (w_X4_addBit σ a1 a2 a3 (fun r4 σ5 => w_X11_beginAnew σ5 (fun σ7 => post r4 σ7))) (post (-2 : Int32) σ))
set_option maxHeartbeats 4000000 in
set_option maxRecDepth 100000 in
theorem c_X11_addBit (l : Launch) (D : va_G) (cy : Nat → ClassId) (ad : Nat → Nat) (tL : Nat) (σ : St) (a1 : Int32) (a2 : Int32) (a3 : Int32) (post : Int32 → St → Prop) (hF : w_X11_addBit σ a1 a2 a3 post) : Cti l yX11_addBit cX11_addBit 5 (some .int) 2 51 D cy ad tL dsC σ [.ref (ad 0), .int a1, .int a2, .int a3] post := by
  refine cti_of (by decide) (Nat.le_of_ble_eq_true rfl) ?_
  intro p e s m args below meth c A hx hb hml hr hlk hg hown hA hK H locs hP hD hS hLB ls hl
  have hown : s.vm.findClass RX11 = some m.cls := hown
  have hl : lv_has ls 5 [(0, .ref (ad 0)), (1, .int a1), (2, .int a2), (3, .int a3)] := hl
  refine lv_aload_n hx hb dX11_addBit_0 rfl (lv_at hl 0 rfl) ?_
  refine wi_getr hx hb hg hown hK hP 0 0 1 rfl rfl cb_11 (by decide) kw_349 dX11_addBit_1 ?_
  refine wi_callVi (k := 1) (As := []) (c_X4_takesNoBit l D cy ad tL σ _ hF) vw_RX11_232 rfl cb_4 hx hb hml hown hg hK hP hD hS hA hLB rfl ⟨Nat.le_of_ble_eq_true rfl, Nat.le_of_ble_eq_true rfl⟩ hl.1 rfl (Nat.le_of_ble_eq_true rfl) dX11_addBit_4 (fun r1 σ2 hw H locs hP hD hS => ?_)
  obtain ⟨hF, rfl⟩ := hw
  refine lv_if_eq (tgt := 13) hx hb dX11_addBit_7 (by decide) (fun c3 => ?_) (fun c3 => ?_)
  · have hF := brT hF c3
    refine lv_aload_n hx hb dX11_addBit_13 rfl (lv_at hl 0 rfl) ?_
    refine wi_getr hx hb hg hown hK hP 0 0 1 rfl rfl cb_11 (by decide) kw_349 dX11_addBit_14 ?_
    refine lv_iload_n hx hb dX11_addBit_17 rfl (lv_at hl 1 rfl) ?_
    refine lv_iload_n hx hb dX11_addBit_18 rfl (lv_at hl 2 rfl) ?_
    refine lv_iload_n hx hb dX11_addBit_19 rfl (lv_at hl 3 rfl) ?_
    refine wi_callVi (k := 1) (As := [.int a1, .int a2, .int a3]) (c_X4_addBit l D cy ad tL σ a1 a2 a3 _ hF) vw_RX11_308 rfl cb_4 hx hb hml hown hg hK hP hD hS hA hLB rfl ⟨Nat.le_of_ble_eq_true rfl, Nat.le_of_ble_eq_true rfl⟩ hl.1 rfl (Nat.le_of_ble_eq_true rfl) dX11_addBit_20 (fun r4 σ5 hw H locs hP hD hS => ?_)
    have hF := hw
    refine lv_istore (lv' := [(4, .int r4), (0, .ref (ad 0)), (1, .int a1), (2, .int a2), (3, .int a3)]) hx hb dX11_addBit_23 hl (by decide) rfl (fun ls hl => ?_)
    refine lv_aload_n hx hb dX11_addBit_25 rfl (lv_at hl 1 rfl) ?_
    refine wi_callVv (k := 0) (As := []) (c_X11_beginAnew l D cy ad tL σ5 _ hF) vw_RX11_78 rfl cb_11 hx hb hml hown hg hK hP hD hS hA hLB rfl ⟨Nat.le_of_ble_eq_true rfl, Nat.le_of_ble_eq_true rfl⟩ hl.1 rfl (Nat.le_of_ble_eq_true rfl) dX11_addBit_26 (fun σ7 hw H locs hP hD hS => ?_)
    have hF := hw
    refine lv_iload hx hb dX11_addBit_29 (lv_at hl 0 rfl) ?_
    exact wi_iret hx hb hr hlk hK hP hD hS dX11_addBit_31 hF
  · have hF := brF hF c3
    refine lv_bipush (v := (-2 : Int32)) hx hb dX11_addBit_10 (by decide) ?_
    exact wi_iret hx hb hr hlk hK hP hD hS dX11_addBit_12 hF
def w_X11_input (σ : St) (a1 : Int32) (post : Int32 → St → Prop) : Prop := w_X11_isClock a1 (fun r1 => br (r1 = (0 : Int32)) (post (-1 : Int32) σ) (w_X11_addBit σ (5 : Int32) a1 (0 : Int32) (fun r4 σ5 => post r4 σ5)))
set_option maxHeartbeats 4000000 in
set_option maxRecDepth 100000 in
theorem c_X11_input (l : Launch) (D : va_G) (cy : Nat → ClassId) (ad : Nat → Nat) (tL : Nat) (σ : St) (a1 : Int32) (post : Int32 → St → Prop) (hF : w_X11_input σ a1 post) : Cti l yX11_input cX11_input 2 (some .int) 3 75 D cy ad tL dsC σ [.ref (ad 0), .int a1] post := by
  refine cti_of (by decide) (Nat.le_of_ble_eq_true rfl) ?_
  intro p e s m args below meth c A hx hb hml hr hlk hg hown hA hK H locs hP hD hS hLB ls hl
  have hown : s.vm.findClass RX11 = some m.cls := hown
  have hl : lv_has ls 2 [(0, .ref (ad 0)), (1, .int a1)] := hl
  refine lv_iload_n hx hb dX11_input_0 rfl (lv_at hl 1 rfl) ?_
  refine wi_callSi (As := [.int a1]) (c_X11_isClock l D cy ad tL σ a1 _ hF) sw_RX11_59 hx hb hml hown hg hK hP hD hS hA hLB rfl ⟨Nat.le_of_ble_eq_true rfl, Nat.le_of_ble_eq_true rfl⟩ hl.1 rfl (Nat.le_of_ble_eq_true rfl) dX11_input_1 (fun r1 σ2 hw H locs hP hD hS => ?_)
  obtain ⟨hF, rfl⟩ := hw
  refine lv_if_ne (tgt := 9) hx hb dX11_input_4 (by decide) (fun c3 => ?_) (fun c3 => ?_)
  · have hF := brF hF c3
    refine lv_aload_n hx hb dX11_input_9 rfl (lv_at hl 0 rfl) ?_
    refine lv_iconst (v := (5 : Int32)) hx hb dX11_input_10 (by decide) ?_
    refine lv_iload_n hx hb dX11_input_11 rfl (lv_at hl 1 rfl) ?_
    refine lv_iconst (v := (0 : Int32)) hx hb dX11_input_12 (by decide) ?_
    refine wi_callVi (k := 0) (As := [.int (5 : Int32), .int a1, .int (0 : Int32)]) (c_X11_addBit l D cy ad tL σ (5 : Int32) a1 (0 : Int32) _ hF) vw_RX11_63 rfl cb_11 hx hb hml hown hg hK hP hD hS hA hLB rfl ⟨Nat.le_of_ble_eq_true rfl, Nat.le_of_ble_eq_true rfl⟩ hl.1 rfl (Nat.le_of_ble_eq_true rfl) dX11_input_13 (fun r4 σ5 hw H locs hP hD hS => ?_)
    have hF := hw
    exact wi_iret hx hb hr hlk hK hP hD hS dX11_input_16 hF
  · have hF := brT hF c3
    refine lv_iconst (v := (-1 : Int32)) hx hb dX11_input_7 (by decide) ?_
    exact wi_iret hx hb hr hlk hK hP hD hS dX11_input_8 hF
def w_X11_keeper (σ : St) (a1 : Int32) (a2 : Int32) (post : Int32 → St → Prop) : Prop := w_X11_isClock a1 (fun r1 => br (r1 = (0 : Int32)) (post (-1 : Int32) σ) (br (a2 < (0 : Int32)) (post (-1 : Int32) σ) (br (a2 ≤ (1 : Int32)) (w_X11_addBit σ (6 : Int32) a1 a2 (fun r6 σ7 => post r6 σ7)) (post (-1 : Int32) σ))))
set_option maxHeartbeats 4000000 in
set_option maxRecDepth 100000 in
theorem c_X11_keeper (l : Launch) (D : va_G) (cy : Nat → ClassId) (ad : Nat → Nat) (tL : Nat) (σ : St) (a1 : Int32) (a2 : Int32) (post : Int32 → St → Prop) (hF : w_X11_keeper σ a1 a2 post) : Cti l yX11_keeper cX11_keeper 3 (some .int) 3 75 D cy ad tL dsC σ [.ref (ad 0), .int a1, .int a2] post := by
  refine cti_of (by decide) (Nat.le_of_ble_eq_true rfl) ?_
  intro p e s m args below meth c A hx hb hml hr hlk hg hown hA hK H locs hP hD hS hLB ls hl
  have hown : s.vm.findClass RX11 = some m.cls := hown
  have hl : lv_has ls 3 [(0, .ref (ad 0)), (1, .int a1), (2, .int a2)] := hl
  refine lv_iload_n hx hb dX11_keeper_0 rfl (lv_at hl 1 rfl) ?_
  refine wi_callSi (As := [.int a1]) (c_X11_isClock l D cy ad tL σ a1 _ hF) sw_RX11_59 hx hb hml hown hg hK hP hD hS hA hLB rfl ⟨Nat.le_of_ble_eq_true rfl, Nat.le_of_ble_eq_true rfl⟩ hl.1 rfl (Nat.le_of_ble_eq_true rfl) dX11_keeper_1 (fun r1 σ2 hw H locs hP hD hS => ?_)
  obtain ⟨hF, rfl⟩ := hw
  refine lv_if_eq (tgt := 16) hx hb dX11_keeper_4 (by decide) (fun c3 => ?_) (fun c3 => ?_)
  · have hF := brT hF c3
    refine lv_iconst (v := (-1 : Int32)) hx hb dX11_keeper_16 (by decide) ?_
    exact wi_iret hx hb hr hlk hK hP hD hS dX11_keeper_17 hF
  · have hF := brF hF c3
    refine lv_iload_n hx hb dX11_keeper_7 rfl (lv_at hl 2 rfl) ?_
    refine lv_if_lt (tgt := 16) hx hb dX11_keeper_8 (by decide) (fun c4 => ?_) (fun c4 => ?_)
    · have hF := brT hF c4
      refine lv_iconst (v := (-1 : Int32)) hx hb dX11_keeper_16 (by decide) ?_
      exact wi_iret hx hb hr hlk hK hP hD hS dX11_keeper_17 hF
    · have hF := brF hF c4
      refine lv_iload_n hx hb dX11_keeper_11 rfl (lv_at hl 2 rfl) ?_
      refine lv_iconst (v := (1 : Int32)) hx hb dX11_keeper_12 (by decide) ?_
      refine lv_icmp_le (tgt := 18) hx hb dX11_keeper_13 (by decide) (fun c5 => ?_) (fun c5 => ?_)
      · have hF := brT hF c5
        refine lv_aload_n hx hb dX11_keeper_18 rfl (lv_at hl 0 rfl) ?_
        refine lv_bipush (v := (6 : Int32)) hx hb dX11_keeper_19 (by decide) ?_
        refine lv_iload_n hx hb dX11_keeper_21 rfl (lv_at hl 1 rfl) ?_
        refine lv_iload_n hx hb dX11_keeper_22 rfl (lv_at hl 2 rfl) ?_
        refine wi_callVi (k := 0) (As := [.int (6 : Int32), .int a1, .int a2]) (c_X11_addBit l D cy ad tL σ (6 : Int32) a1 a2 _ hF) vw_RX11_63 rfl cb_11 hx hb hml hown hg hK hP hD hS hA hLB rfl ⟨Nat.le_of_ble_eq_true rfl, Nat.le_of_ble_eq_true rfl⟩ hl.1 rfl (Nat.le_of_ble_eq_true rfl) dX11_keeper_23 (fun r6 σ7 hw H locs hP hD hS => ?_)
        have hF := hw
        exact wi_iret hx hb hr hlk hK hP hD hS dX11_keeper_26 hF
      · have hF := brF hF c5
        refine lv_iconst (v := (-1 : Int32)) hx hb dX11_keeper_16 (by decide) ?_
        exact wi_iret hx hb hr hlk hK hP hD hS dX11_keeper_17 hF
def w_X11_gate (σ : St) (a1 : Int32) (a2 : Int32) (a3 : Int32) (a4 : Int32) (post : Int32 → St → Prop) : Prop := jn (α := Int32 → Prop) (fun (y2 : Int32) => jn (α := Int32 → Prop) (fun (y4 : Int32) => br (a1 < (0 : Int32)) (post (-1 : Int32) σ) (br ((4 : Int32) < a1) (post (-1 : Int32) σ) (w_X4_isCell σ a2 (fun r7 => br (r7 = (0 : Int32)) (post (-1 : Int32) σ) (jn (α := Prop) (jn (α := Prop) (br ((σ.1 1 0) < (24 : Int32)) (jn (α := Int32 → Prop) (fun (y14 : Int32) => jn (α := Int32 → Prop) (fun (y16 : Int32) => w_X4_addGate σ a1 a2 y14 y16 (fun r17 σ18 => w_X11_beginAnew σ18 (fun σ20 => post r17 σ20))) (fun J15 => br (y4 = (0 : Int32)) (J15 (-2 : Int32)) (J15 a4))) (fun J13 => br (y2 = (0 : Int32)) (J13 (-2 : Int32)) (J13 a3))) (post (-2 : Int32) σ)) (fun J11 => br (y4 = (0 : Int32)) (J11) (w_X4_isCell σ a4 (fun r24 => br (r24 = (0 : Int32)) (post (-1 : Int32) σ) (J11))))) (fun J10 => br (y2 = (0 : Int32)) (J10) (w_X4_isCell σ a3 (fun r28 => br (r28 = (0 : Int32)) (post (-1 : Int32) σ) (J10))))))))) (fun J3 => br (a1 = (4 : Int32)) (J3 (1 : Int32)) (J3 (0 : Int32)))) (fun J1 => br (a1 = (3 : Int32)) (J1 (0 : Int32)) (J1 (1 : Int32)))
set_option maxHeartbeats 4000000 in
set_option maxRecDepth 100000 in
theorem c_X11_gate (l : Launch) (D : va_G) (cy : Nat → ClassId) (ad : Nat → Nat) (tL : Nat) (σ : St) (a1 : Int32) (a2 : Int32) (a3 : Int32) (a4 : Int32) (post : Int32 → St → Prop) (hF : w_X11_gate σ a1 a2 a3 a4 post) : Cti l yX11_gate cX11_gate 8 (some .int) 3 76 D cy ad tL dsC σ [.ref (ad 0), .int a1, .int a2, .int a3, .int a4] post := by
  refine cti_of (by decide) (Nat.le_of_ble_eq_true rfl) ?_
  intro p e s m args below meth c A hx hb hml hr hlk hg hown hA hK H locs hP hD hS hLB ls hl
  have hown : s.vm.findClass RX11 = some m.cls := hown
  have hl : lv_has ls 8 [(0, .ref (ad 0)), (1, .int a1), (2, .int a2), (3, .int a3), (4, .int a4)] := hl
  refine lv_iload_n hx hb dX11_gate_0 rfl (lv_at hl 1 rfl) ?_
  refine lv_iconst (v := (3 : Int32)) hx hb dX11_gate_1 (by decide) ?_
  refine jn_use hF (fun K => ∀ (y2 : Int32) (H : Heap) (locs : List Loc) (ls : Array Slot), K y2 → va_P D vwCl (wld cy ad dsC σ) H → va_D A (wld cy ad dsC σ) → va_S A s.heap H locs → lv_has ls 8 [(0, .ref (ad 0)), (1, .int a1), (2, .int a2), (3, .int a3), (4, .int a4)] → W p l e (rmO 3 76) s m args below meth c H locs 0 0 (MQ below (va_Qi post (cBk D cy ad dsC A) A) args s 0 0 A) (F0 m 10 ls [.int y2])) (fun y2 H locs ls hF hP hD hS hl => ?_) (fun J1 hJ1 hF => ?_)
  · refine lv_istore (lv' := [(5, .int y2), (0, .ref (ad 0)), (1, .int a1), (2, .int a2), (3, .int a3), (4, .int a4)]) hx hb dX11_gate_10 hl (by decide) rfl (fun ls hl => ?_)
    refine lv_iload_n hx hb dX11_gate_12 rfl (lv_at hl 2 rfl) ?_
    refine lv_iconst (v := (4 : Int32)) hx hb dX11_gate_13 (by decide) ?_
    refine jn_use hF (fun K => ∀ (y4 : Int32) (H : Heap) (locs : List Loc) (ls : Array Slot), K y4 → va_P D vwCl (wld cy ad dsC σ) H → va_D A (wld cy ad dsC σ) → va_S A s.heap H locs → lv_has ls 8 [(0, .ref (ad 0)), (1, .int a1), (2, .int a2), (3, .int a3), (4, .int a4), (5, .int y2)] → W p l e (rmO 3 76) s m args below meth c H locs 0 0 (MQ below (va_Qi post (cBk D cy ad dsC A) A) args s 0 0 A) (F0 m 22 ls [.int y4])) (fun y4 H locs ls hF hP hD hS hl => ?_) (fun J3 hJ3 hF => ?_)
    · refine lv_istore (lv' := [(6, .int y4), (0, .ref (ad 0)), (1, .int a1), (2, .int a2), (3, .int a3), (4, .int a4), (5, .int y2)]) hx hb dX11_gate_22 hl (by decide) rfl (fun ls hl => ?_)
      refine lv_iload_n hx hb dX11_gate_24 rfl (lv_at hl 2 rfl) ?_
      refine lv_if_lt (tgt := 77) hx hb dX11_gate_25 (by decide) (fun c5 => ?_) (fun c5 => ?_)
      · have hF := brT hF c5
        refine lv_iconst (v := (-1 : Int32)) hx hb dX11_gate_77 (by decide) ?_
        exact wi_iret hx hb hr hlk hK hP hD hS dX11_gate_78 hF
      · have hF := brF hF c5
        refine lv_iload_n hx hb dX11_gate_28 rfl (lv_at hl 2 rfl) ?_
        refine lv_iconst (v := (4 : Int32)) hx hb dX11_gate_29 (by decide) ?_
        refine lv_icmp_gt (tgt := 77) hx hb dX11_gate_30 (by decide) (fun c6 => ?_) (fun c6 => ?_)
        · have hF := brT hF c6
          refine lv_iconst (v := (-1 : Int32)) hx hb dX11_gate_77 (by decide) ?_
          exact wi_iret hx hb hr hlk hK hP hD hS dX11_gate_78 hF
        · have hF := brF hF c6
          refine lv_aload_n hx hb dX11_gate_33 rfl (lv_at hl 1 rfl) ?_
          refine wi_getr hx hb hg hown hK hP 0 0 1 rfl rfl cb_11 (by decide) kw_349 dX11_gate_34 ?_
          refine lv_iload_n hx hb dX11_gate_37 rfl (lv_at hl 3 rfl) ?_
          refine wi_callVi (k := 1) (As := [.int a2]) (c_X4_isCell l D cy ad tL σ a2 _ hF) vw_RX11_67 rfl cb_4 hx hb hml hown hg hK hP hD hS hA hLB rfl ⟨Nat.le_of_ble_eq_true rfl, Nat.le_of_ble_eq_true rfl⟩ hl.1 rfl (Nat.le_of_ble_eq_true rfl) dX11_gate_38 (fun r7 σ8 hw H locs hP hD hS => ?_)
          obtain ⟨hF, rfl⟩ := hw
          refine lv_if_eq (tgt := 77) hx hb dX11_gate_41 (by decide) (fun c9 => ?_) (fun c9 => ?_)
          · have hF := brT hF c9
            refine lv_iconst (v := (-1 : Int32)) hx hb dX11_gate_77 (by decide) ?_
            exact wi_iret hx hb hr hlk hK hP hD hS dX11_gate_78 hF
          · have hF := brF hF c9
            refine lv_iload hx hb dX11_gate_44 (lv_at hl 6 rfl) ?_
            refine jn_use hF (fun K => ∀ (H : Heap) (locs : List Loc) (ls : Array Slot), K → va_P D vwCl (wld cy ad dsC σ) H → va_D A (wld cy ad dsC σ) → va_S A s.heap H locs → lv_has ls 8 [(0, .ref (ad 0)), (1, .int a1), (2, .int a2), (3, .int a3), (4, .int a4), (5, .int y2), (6, .int y4)] → W p l e (rmO 3 76) s m args below meth c H locs 0 0 (MQ below (va_Qi post (cBk D cy ad dsC A) A) args s 0 0 A) (F0 m 60 ls [])) (fun H locs ls hF hP hD hS hl => ?_) (fun J10 hJ10 hF => ?_)
            · refine lv_iload hx hb dX11_gate_60 (lv_at hl 6 rfl) ?_
              refine jn_use hF (fun K => ∀ (H : Heap) (locs : List Loc) (ls : Array Slot), K → va_P D vwCl (wld cy ad dsC σ) H → va_D A (wld cy ad dsC σ) → va_S A s.heap H locs → lv_has ls 8 [(0, .ref (ad 0)), (1, .int a1), (2, .int a2), (3, .int a3), (4, .int a4), (5, .int y2), (6, .int y4)] → W p l e (rmO 3 76) s m args below meth c H locs 0 0 (MQ below (va_Qi post (cBk D cy ad dsC A) A) args s 0 0 A) (F0 m 79 ls [])) (fun H locs ls hF hP hD hS hl => ?_) (fun J11 hJ11 hF => ?_)
              · refine lv_aload_n hx hb dX11_gate_79 rfl (lv_at hl 0 rfl) ?_
                refine wi_getr hx hb hg hown hK hP 0 0 1 rfl rfl cb_11 (by decide) kw_349 dX11_gate_80 ?_
                refine wi_geti hx hb hg hown hK hP 1 0 rfl rfl cb_4 (by decide) kw_399 dX11_gate_83 ?_
                refine lv_bipush (v := (24 : Int32)) hx hb dX11_gate_86 (by decide) ?_
                refine lv_icmp_lt (tgt := 94) hx hb dX11_gate_88 (by decide) (fun c12 => ?_) (fun c12 => ?_)
                · have hF := brT hF c12
                  refine lv_aload_n hx hb dX11_gate_94 rfl (lv_at hl 0 rfl) ?_
                  refine wi_getr hx hb hg hown hK hP 0 0 1 rfl rfl cb_11 (by decide) kw_349 dX11_gate_95 ?_
                  refine lv_iload_n hx hb dX11_gate_98 rfl (lv_at hl 1 rfl) ?_
                  refine lv_iload_n hx hb dX11_gate_99 rfl (lv_at hl 2 rfl) ?_
                  refine lv_iload hx hb dX11_gate_100 (lv_at hl 5 rfl) ?_
                  refine jn_use hF (fun K => ∀ (y14 : Int32) (H : Heap) (locs : List Loc) (ls : Array Slot), K y14 → va_P D vwCl (wld cy ad dsC σ) H → va_D A (wld cy ad dsC σ) → va_S A s.heap H locs → lv_has ls 8 [(0, .ref (ad 0)), (4, .int a4), (6, .int y4)] → W p l e (rmO 3 76) s m args below meth c H locs 0 0 (MQ below (va_Qi post (cBk D cy ad dsC A) A) args s 0 0 A) (F0 m 111 ls [.int y14, .int a2, .int a1, .ref (ad 1)])) (fun y14 H locs ls hF hP hD hS hl => ?_) (fun J13 hJ13 hF => ?_)
                  · refine lv_iload hx hb dX11_gate_111 (lv_at hl 2 rfl) ?_
                    refine jn_use hF (fun K => ∀ (y16 : Int32) (H : Heap) (locs : List Loc) (ls : Array Slot), K y16 → va_P D vwCl (wld cy ad dsC σ) H → va_D A (wld cy ad dsC σ) → va_S A s.heap H locs → lv_has ls 8 [(0, .ref (ad 0))] → W p l e (rmO 3 76) s m args below meth c H locs 0 0 (MQ below (va_Qi post (cBk D cy ad dsC A) A) args s 0 0 A) (F0 m 123 ls [.int y16, .int y14, .int a2, .int a1, .ref (ad 1)])) (fun y16 H locs ls hF hP hD hS hl => ?_) (fun J15 hJ15 hF => ?_)
                    · refine wi_callVi (k := 1) (As := [.int a1, .int a2, .int y14, .int y16]) (c_X4_addGate l D cy ad tL σ a1 a2 y14 y16 _ hF) vw_RX11_74 rfl cb_4 hx hb hml hown hg hK hP hD hS hA hLB rfl ⟨Nat.le_of_ble_eq_true rfl, Nat.le_of_ble_eq_true rfl⟩ hl.1 rfl (Nat.le_of_ble_eq_true rfl) dX11_gate_123 (fun r17 σ18 hw H locs hP hD hS => ?_)
                      have hF := hw
                      refine lv_istore (lv' := [(7, .int r17), (0, .ref (ad 0))]) hx hb dX11_gate_126 hl (by decide) rfl (fun ls hl => ?_)
                      refine lv_aload_n hx hb dX11_gate_128 rfl (lv_at hl 1 rfl) ?_
                      refine wi_callVv (k := 0) (As := []) (c_X11_beginAnew l D cy ad tL σ18 _ hF) vw_RX11_78 rfl cb_11 hx hb hml hown hg hK hP hD hS hA hLB rfl ⟨Nat.le_of_ble_eq_true rfl, Nat.le_of_ble_eq_true rfl⟩ hl.1 rfl (Nat.le_of_ble_eq_true rfl) dX11_gate_129 (fun σ20 hw H locs hP hD hS => ?_)
                      have hF := hw
                      refine lv_iload hx hb dX11_gate_132 (lv_at hl 0 rfl) ?_
                      exact wi_iret hx hb hr hlk hK hP hD hS dX11_gate_134 hF
                    · refine lv_if_eq (tgt := 121) hx hb dX11_gate_113 (by decide) (fun c21 => ?_) (fun c21 => ?_)
                      · have hF := brT hF c21
                        refine lv_bipush (v := (-2 : Int32)) hx hb dX11_gate_121 (by decide) ?_
                        exact hJ15 (-2 : Int32) H locs ls hF hP hD hS (lv_sub hl [0] rfl)
                      · have hF := brF hF c21
                        refine lv_iload hx hb dX11_gate_116 (lv_at hl 1 rfl) ?_
                        refine lv_goto (tgt := 123) hx hb dX11_gate_118 (by decide) ?_
                        exact hJ15 a4 H locs ls hF hP hD hS (lv_sub hl [0] rfl)
                  · refine lv_if_eq (tgt := 109) hx hb dX11_gate_102 (by decide) (fun c22 => ?_) (fun c22 => ?_)
                    · have hF := brT hF c22
                      refine lv_bipush (v := (-2 : Int32)) hx hb dX11_gate_109 (by decide) ?_
                      exact hJ13 (-2 : Int32) H locs ls hF hP hD hS (lv_sub hl [0, 4, 6] rfl)
                    · have hF := brF hF c22
                      refine lv_iload_n hx hb dX11_gate_105 rfl (lv_at hl 3 rfl) ?_
                      refine lv_goto (tgt := 111) hx hb dX11_gate_106 (by decide) ?_
                      exact hJ13 a3 H locs ls hF hP hD hS (lv_sub hl [0, 4, 6] rfl)
                · have hF := brF hF c12
                  refine lv_bipush (v := (-2 : Int32)) hx hb dX11_gate_91 (by decide) ?_
                  exact wi_iret hx hb hr hlk hK hP hD hS dX11_gate_93 hF
              · refine lv_if_eq (tgt := 79) hx hb dX11_gate_62 (by decide) (fun c23 => ?_) (fun c23 => ?_)
                · have hF := brT hF c23
                  exact hJ11  H locs ls hF hP hD hS (lv_sub hl [0, 1, 2, 3, 4, 5, 6] rfl)
                · have hF := brF hF c23
                  refine lv_aload_n hx hb dX11_gate_65 rfl (lv_at hl 0 rfl) ?_
                  refine wi_getr hx hb hg hown hK hP 0 0 1 rfl rfl cb_11 (by decide) kw_349 dX11_gate_66 ?_
                  refine lv_iload hx hb dX11_gate_69 (lv_at hl 4 rfl) ?_
                  refine wi_callVi (k := 1) (As := [.int a4]) (c_X4_isCell l D cy ad tL σ a4 _ hF) vw_RX11_67 rfl cb_4 hx hb hml hown hg hK hP hD hS hA hLB rfl ⟨Nat.le_of_ble_eq_true rfl, Nat.le_of_ble_eq_true rfl⟩ hl.1 rfl (Nat.le_of_ble_eq_true rfl) dX11_gate_71 (fun r24 σ25 hw H locs hP hD hS => ?_)
                  obtain ⟨hF, rfl⟩ := hw
                  refine lv_if_ne (tgt := 79) hx hb dX11_gate_74 (by decide) (fun c26 => ?_) (fun c26 => ?_)
                  · have hF := brF hF c26
                    exact hJ11  H locs ls hF hP hD hS (lv_sub hl [0, 1, 2, 3, 4, 5, 6] rfl)
                  · have hF := brT hF c26
                    refine lv_iconst (v := (-1 : Int32)) hx hb dX11_gate_77 (by decide) ?_
                    exact wi_iret hx hb hr hlk hK hP hD hS dX11_gate_78 hF
            · refine lv_if_eq (tgt := 60) hx hb dX11_gate_46 (by decide) (fun c27 => ?_) (fun c27 => ?_)
              · have hF := brT hF c27
                exact hJ10  H locs ls hF hP hD hS (lv_sub hl [1, 2, 3, 4, 5, 6, 0] rfl)
              · have hF := brF hF c27
                refine lv_aload_n hx hb dX11_gate_49 rfl (lv_at hl 1 rfl) ?_
                refine wi_getr hx hb hg hown hK hP 0 0 1 rfl rfl cb_11 (by decide) kw_349 dX11_gate_50 ?_
                refine lv_iload_n hx hb dX11_gate_53 rfl (lv_at hl 4 rfl) ?_
                refine wi_callVi (k := 1) (As := [.int a3]) (c_X4_isCell l D cy ad tL σ a3 _ hF) vw_RX11_67 rfl cb_4 hx hb hml hown hg hK hP hD hS hA hLB rfl ⟨Nat.le_of_ble_eq_true rfl, Nat.le_of_ble_eq_true rfl⟩ hl.1 rfl (Nat.le_of_ble_eq_true rfl) dX11_gate_54 (fun r28 σ29 hw H locs hP hD hS => ?_)
                obtain ⟨hF, rfl⟩ := hw
                refine lv_if_eq (tgt := 77) hx hb dX11_gate_57 (by decide) (fun c30 => ?_) (fun c30 => ?_)
                · have hF := brT hF c30
                  refine lv_iconst (v := (-1 : Int32)) hx hb dX11_gate_77 (by decide) ?_
                  exact wi_iret hx hb hr hlk hK hP hD hS dX11_gate_78 hF
                · have hF := brF hF c30
                  exact hJ10  H locs ls hF hP hD hS (lv_sub hl [1, 2, 3, 4, 5, 6, 0] rfl)
    · refine lv_icmp_ne (tgt := 21) hx hb dX11_gate_14 (by decide) (fun c31 => ?_) (fun c31 => ?_)
      · have hF := brF hF c31
        refine lv_iconst (v := (0 : Int32)) hx hb dX11_gate_21 (by decide) ?_
        exact hJ3 (0 : Int32) H locs ls hF hP hD hS (lv_sub hl [1, 2, 3, 4, 5, 0] rfl)
      · have hF := brT hF c31
        refine lv_iconst (v := (1 : Int32)) hx hb dX11_gate_17 (by decide) ?_
        refine lv_goto (tgt := 22) hx hb dX11_gate_18 (by decide) ?_
        exact hJ3 (1 : Int32) H locs ls hF hP hD hS (lv_sub hl [1, 2, 3, 4, 5, 0] rfl)
  · refine lv_icmp_eq (tgt := 9) hx hb dX11_gate_2 (by decide) (fun c32 => ?_) (fun c32 => ?_)
    · have hF := brT hF c32
      refine lv_iconst (v := (0 : Int32)) hx hb dX11_gate_9 (by decide) ?_
      exact hJ1 (0 : Int32) H locs ls hF hP hD hS (lv_sub hl [0, 1, 2, 3, 4] rfl)
    · have hF := brF hF c32
      refine lv_iconst (v := (1 : Int32)) hx hb dX11_gate_5 (by decide) ?_
      refine lv_goto (tgt := 10) hx hb dX11_gate_6 (by decide) ?_
      exact hJ1 (1 : Int32) H locs ls hF hP hD hS (lv_sub hl [0, 1, 2, 3, 4] rfl)
def w_X11_connect (σ : St) (a1 : Int32) (a2 : Int32) (post : Int32 → St → Prop) : Prop := w_X4_isKeeper σ a1 (fun r1 => br (r1 = (0 : Int32)) (post (-1 : Int32) σ) (w_X4_isCell σ a2 (fun r4 => br (r4 = (0 : Int32)) (post (-1 : Int32) σ) (rd (σ.1 10) 24 a1 (fun v7 => ck a1 24 (nm (upI σ 10 (a1).toNatClampNeg a2) (fun σ8 => w_X11_beginAnew σ8 (fun σ10 => post v7 σ10))))))))
set_option maxHeartbeats 4000000 in
set_option maxRecDepth 100000 in
theorem c_X11_connect (l : Launch) (D : va_G) (cy : Nat → ClassId) (ad : Nat → Nat) (tL : Nat) (σ : St) (a1 : Int32) (a2 : Int32) (post : Int32 → St → Prop) (hF : w_X11_connect σ a1 a2 post) : Cti l yX11_connect cX11_connect 4 (some .int) 2 42 D cy ad tL dsC σ [.ref (ad 0), .int a1, .int a2] post := by
  refine cti_of (by decide) (Nat.le_of_ble_eq_true rfl) ?_
  intro p e s m args below meth c A hx hb hml hr hlk hg hown hA hK H locs hP hD hS hLB ls hl
  have hown : s.vm.findClass RX11 = some m.cls := hown
  have hl : lv_has ls 4 [(0, .ref (ad 0)), (1, .int a1), (2, .int a2)] := hl
  refine lv_aload_n hx hb dX11_connect_0 rfl (lv_at hl 0 rfl) ?_
  refine wi_getr hx hb hg hown hK hP 0 0 1 rfl rfl cb_11 (by decide) kw_349 dX11_connect_1 ?_
  refine lv_iload_n hx hb dX11_connect_4 rfl (lv_at hl 1 rfl) ?_
  refine wi_callVi (k := 1) (As := [.int a1]) (c_X4_isKeeper l D cy ad tL σ a1 _ hF) vw_RX11_81 rfl cb_4 hx hb hml hown hg hK hP hD hS hA hLB rfl ⟨Nat.le_of_ble_eq_true rfl, Nat.le_of_ble_eq_true rfl⟩ hl.1 rfl (Nat.le_of_ble_eq_true rfl) dX11_connect_5 (fun r1 σ2 hw H locs hP hD hS => ?_)
  obtain ⟨hF, rfl⟩ := hw
  refine lv_if_eq (tgt := 22) hx hb dX11_connect_8 (by decide) (fun c3 => ?_) (fun c3 => ?_)
  · have hF := brT hF c3
    refine lv_iconst (v := (-1 : Int32)) hx hb dX11_connect_22 (by decide) ?_
    exact wi_iret hx hb hr hlk hK hP hD hS dX11_connect_23 hF
  · have hF := brF hF c3
    refine lv_aload_n hx hb dX11_connect_11 rfl (lv_at hl 0 rfl) ?_
    refine wi_getr hx hb hg hown hK hP 0 0 1 rfl rfl cb_11 (by decide) kw_349 dX11_connect_12 ?_
    refine lv_iload_n hx hb dX11_connect_15 rfl (lv_at hl 2 rfl) ?_
    refine wi_callVi (k := 1) (As := [.int a2]) (c_X4_isCell l D cy ad tL σ a2 _ hF) vw_RX11_67 rfl cb_4 hx hb hml hown hg hK hP hD hS hA hLB rfl ⟨Nat.le_of_ble_eq_true rfl, Nat.le_of_ble_eq_true rfl⟩ hl.1 rfl (Nat.le_of_ble_eq_true rfl) dX11_connect_16 (fun r4 σ5 hw H locs hP hD hS => ?_)
    obtain ⟨hF, rfl⟩ := hw
    refine lv_if_ne (tgt := 24) hx hb dX11_connect_19 (by decide) (fun c6 => ?_) (fun c6 => ?_)
    · have hF := brF hF c6
      refine lv_aload_n hx hb dX11_connect_24 rfl (lv_at hl 0 rfl) ?_
      refine wi_getr hx hb hg hown hK hP 0 0 1 rfl rfl cb_11 (by decide) kw_349 dX11_connect_25 ?_
      refine wi_getr hx hb hg hown hK hP 1 7 10 rfl rfl cb_4 (by decide) kw_405 dX11_connect_28 ?_
      refine lv_iload_n hx hb dX11_connect_31 rfl (lv_at hl 1 rfl) ?_
      obtain ⟨hin, hF⟩ := hF
      refine wi_iald hx hb hK hP 10 rfl hin dX11_connect_32 (fun v7 ev7 => ?_)
      have hF := hF v7 ev7
      refine lv_istore_n (lv' := [(3, .int v7), (0, .ref (ad 0)), (1, .int a1), (2, .int a2)]) hx hb dX11_connect_33 rfl hl (by decide) rfl (fun ls hl => ?_)
      refine lv_aload_n hx hb dX11_connect_34 rfl (lv_at hl 1 rfl) ?_
      refine wi_getr hx hb hg hown hK hP 0 0 1 rfl rfl cb_11 (by decide) kw_349 dX11_connect_35 ?_
      refine wi_getr hx hb hg hown hK hP 1 7 10 rfl rfl cb_4 (by decide) kw_405 dX11_connect_38 ?_
      refine lv_iload_n hx hb dX11_connect_41 rfl (lv_at hl 2 rfl) ?_
      refine lv_iload_n hx hb dX11_connect_42 rfl (lv_at hl 3 rfl) ?_
      obtain ⟨hin, hF⟩ := hF
      refine wi_iast hx hb hK hP hD hS 10 rfl hin dX11_connect_43 (fun σ8 eσ8 H locs hP hD hS => ?_)
      have hF := hF σ8 eσ8
      refine lv_aload_n hx hb dX11_connect_44 rfl (lv_at hl 1 rfl) ?_
      refine wi_callVv (k := 0) (As := []) (c_X11_beginAnew l D cy ad tL σ8 _ hF) vw_RX11_78 rfl cb_11 hx hb hml hown hg hK hP hD hS hA hLB rfl ⟨Nat.le_of_ble_eq_true rfl, Nat.le_of_ble_eq_true rfl⟩ hl.1 rfl (Nat.le_of_ble_eq_true rfl) dX11_connect_45 (fun σ10 hw H locs hP hD hS => ?_)
      have hF := hw
      refine lv_iload_n hx hb dX11_connect_48 rfl (lv_at hl 0 rfl) ?_
      exact wi_iret hx hb hr hlk hK hP hD hS dX11_connect_49 hF
    · have hF := brT hF c6
      refine lv_iconst (v := (-1 : Int32)) hx hb dX11_connect_22 (by decide) ?_
      exact wi_iret hx hb hr hlk hK hP hD hS dX11_connect_23 hF
def w_X11_bound (σ : St) (a1 : Int32) (a2 : Int32) (a3 : Int32) (post : Int32 → St → Prop) : Prop := w_X11_isClock a1 (fun r1 => br (r1 = (0 : Int32)) (post (-1 : Int32) σ) (w_X11_isClock a2 (fun r4 => br (r4 = (0 : Int32)) (post (-1 : Int32) σ) (br (a1 = a2) (post (-1 : Int32) σ) (br (a3 < (0 : Int32)) (post (-1 : Int32) σ) (br (a3 ≤ (9 : Int32)) (w_X0_limitOf σ a1 a2 (fun r10 => w_X0_limit σ a1 a2 a3 (fun σ13 => w_X11_beginAnew σ13 (fun σ15 => post r10 σ15)))) (post (-1 : Int32) σ)))))))
set_option maxHeartbeats 4000000 in
set_option maxRecDepth 100000 in
theorem c_X11_bound (l : Launch) (D : va_G) (cy : Nat → ClassId) (ad : Nat → Nat) (tL : Nat) (σ : St) (a1 : Int32) (a2 : Int32) (a3 : Int32) (post : Int32 → St → Prop) (hF : w_X11_bound σ a1 a2 a3 post) : Cti l yX11_bound cX11_bound 5 (some .int) 2 40 D cy ad tL dsC σ [.ref (ad 0), .int a1, .int a2, .int a3] post := by
  refine cti_of (by decide) (Nat.le_of_ble_eq_true rfl) ?_
  intro p e s m args below meth c A hx hb hml hr hlk hg hown hA hK H locs hP hD hS hLB ls hl
  have hown : s.vm.findClass RX11 = some m.cls := hown
  have hl : lv_has ls 5 [(0, .ref (ad 0)), (1, .int a1), (2, .int a2), (3, .int a3)] := hl
  refine lv_iload_n hx hb dX11_bound_0 rfl (lv_at hl 1 rfl) ?_
  refine wi_callSi (As := [.int a1]) (c_X11_isClock l D cy ad tL σ a1 _ hF) sw_RX11_59 hx hb hml hown hg hK hP hD hS hA hLB rfl ⟨Nat.le_of_ble_eq_true rfl, Nat.le_of_ble_eq_true rfl⟩ hl.1 rfl (Nat.le_of_ble_eq_true rfl) dX11_bound_1 (fun r1 σ2 hw H locs hP hD hS => ?_)
  obtain ⟨hF, rfl⟩ := hw
  refine lv_if_eq (tgt := 29) hx hb dX11_bound_4 (by decide) (fun c3 => ?_) (fun c3 => ?_)
  · have hF := brT hF c3
    refine lv_iconst (v := (-1 : Int32)) hx hb dX11_bound_29 (by decide) ?_
    exact wi_iret hx hb hr hlk hK hP hD hS dX11_bound_30 hF
  · have hF := brF hF c3
    refine lv_iload_n hx hb dX11_bound_7 rfl (lv_at hl 2 rfl) ?_
    refine wi_callSi (As := [.int a2]) (c_X11_isClock l D cy ad tL σ a2 _ hF) sw_RX11_59 hx hb hml hown hg hK hP hD hS hA hLB rfl ⟨Nat.le_of_ble_eq_true rfl, Nat.le_of_ble_eq_true rfl⟩ hl.1 rfl (Nat.le_of_ble_eq_true rfl) dX11_bound_8 (fun r4 σ5 hw H locs hP hD hS => ?_)
    obtain ⟨hF, rfl⟩ := hw
    refine lv_if_eq (tgt := 29) hx hb dX11_bound_11 (by decide) (fun c6 => ?_) (fun c6 => ?_)
    · have hF := brT hF c6
      refine lv_iconst (v := (-1 : Int32)) hx hb dX11_bound_29 (by decide) ?_
      exact wi_iret hx hb hr hlk hK hP hD hS dX11_bound_30 hF
    · have hF := brF hF c6
      refine lv_iload_n hx hb dX11_bound_14 rfl (lv_at hl 1 rfl) ?_
      refine lv_iload_n hx hb dX11_bound_15 rfl (lv_at hl 2 rfl) ?_
      refine lv_icmp_eq (tgt := 29) hx hb dX11_bound_16 (by decide) (fun c7 => ?_) (fun c7 => ?_)
      · have hF := brT hF c7
        refine lv_iconst (v := (-1 : Int32)) hx hb dX11_bound_29 (by decide) ?_
        exact wi_iret hx hb hr hlk hK hP hD hS dX11_bound_30 hF
      · have hF := brF hF c7
        refine lv_iload_n hx hb dX11_bound_19 rfl (lv_at hl 3 rfl) ?_
        refine lv_if_lt (tgt := 29) hx hb dX11_bound_20 (by decide) (fun c8 => ?_) (fun c8 => ?_)
        · have hF := brT hF c8
          refine lv_iconst (v := (-1 : Int32)) hx hb dX11_bound_29 (by decide) ?_
          exact wi_iret hx hb hr hlk hK hP hD hS dX11_bound_30 hF
        · have hF := brF hF c8
          refine lv_iload_n hx hb dX11_bound_23 rfl (lv_at hl 3 rfl) ?_
          refine lv_bipush (v := (9 : Int32)) hx hb dX11_bound_24 (by decide) ?_
          refine lv_icmp_le (tgt := 31) hx hb dX11_bound_26 (by decide) (fun c9 => ?_) (fun c9 => ?_)
          · have hF := brT hF c9
            refine lv_aload_n hx hb dX11_bound_31 rfl (lv_at hl 0 rfl) ?_
            refine wi_getr hx hb hg hown hK hP 0 1 2 rfl rfl cb_11 (by decide) kw_352 dX11_bound_32 ?_
            refine lv_iload_n hx hb dX11_bound_35 rfl (lv_at hl 1 rfl) ?_
            refine lv_iload_n hx hb dX11_bound_36 rfl (lv_at hl 2 rfl) ?_
            refine wi_callVi (k := 2) (As := [.int a1, .int a2]) (c_X0_limitOf l D cy ad tL σ a1 a2 _ hF) vw_RX11_88 rfl cb_0 hx hb hml hown hg hK hP hD hS hA hLB rfl ⟨Nat.le_of_ble_eq_true rfl, Nat.le_of_ble_eq_true rfl⟩ hl.1 rfl (Nat.le_of_ble_eq_true rfl) dX11_bound_37 (fun r10 σ11 hw H locs hP hD hS => ?_)
            obtain ⟨hF, rfl⟩ := hw
            refine lv_istore (lv' := [(4, .int r10), (0, .ref (ad 0)), (1, .int a1), (2, .int a2), (3, .int a3)]) hx hb dX11_bound_40 hl (by decide) rfl (fun ls hl => ?_)
            refine lv_aload_n hx hb dX11_bound_42 rfl (lv_at hl 1 rfl) ?_
            refine wi_getr hx hb hg hown hK hP 0 1 2 rfl rfl cb_11 (by decide) kw_352 dX11_bound_43 ?_
            refine lv_iload_n hx hb dX11_bound_46 rfl (lv_at hl 2 rfl) ?_
            refine lv_iload_n hx hb dX11_bound_47 rfl (lv_at hl 3 rfl) ?_
            refine lv_iload_n hx hb dX11_bound_48 rfl (lv_at hl 4 rfl) ?_
            refine wi_callVv (k := 2) (As := [.int a1, .int a2, .int a3]) (c_X0_limit l D cy ad tL σ a1 a2 a3 _ hF) vw_RX11_92 rfl cb_0 hx hb hml hown hg hK hP hD hS hA hLB rfl ⟨Nat.le_of_ble_eq_true rfl, Nat.le_of_ble_eq_true rfl⟩ hl.1 rfl (Nat.le_of_ble_eq_true rfl) dX11_bound_49 (fun σ13 hw H locs hP hD hS => ?_)
            have hF := hw
            refine lv_aload_n hx hb dX11_bound_52 rfl (lv_at hl 1 rfl) ?_
            refine wi_callVv (k := 0) (As := []) (c_X11_beginAnew l D cy ad tL σ13 _ hF) vw_RX11_78 rfl cb_11 hx hb hml hown hg hK hP hD hS hA hLB rfl ⟨Nat.le_of_ble_eq_true rfl, Nat.le_of_ble_eq_true rfl⟩ hl.1 rfl (Nat.le_of_ble_eq_true rfl) dX11_bound_53 (fun σ15 hw H locs hP hD hS => ?_)
            have hF := hw
            refine lv_iload hx hb dX11_bound_56 (lv_at hl 0 rfl) ?_
            exact wi_iret hx hb hr hlk hK hP hD hS dX11_bound_58 hF
          · have hF := brF hF c9
            refine lv_iconst (v := (-1 : Int32)) hx hb dX11_bound_29 (by decide) ?_
            exact wi_iret hx hb hr hlk hK hP hD hS dX11_bound_30 hF
def w_X11_still (σ : St) (a1 : Int32) (a2 : Int32) (post : Int32 → St → Prop) : Prop := w_X4_isBit σ a1 (fun r1 => br (r1 = (0 : Int32)) (post (-1 : Int32) σ) (rd (σ.1 13) 24 a1 (fun v4 => nm ((1 : Int32) <<< (v4 &&& 31)) (fun x5 => jn (α := Int32 → Prop) (fun (y7 : Int32) => jn (α := Int32 → Prop) (fun (y9 : Int32) => nm (upI σ 1 3 y9) (fun σ10 => post y7 σ10)) (fun J8 => br (a2 = (0 : Int32)) (J8 ((σ.1 1 3) &&& (x5 ^^^ (-1 : Int32)))) (J8 ((σ.1 1 3) ||| x5)))) (fun J6 => br (((σ.1 1 3) &&& x5) = (0 : Int32)) (J6 (0 : Int32)) (J6 (1 : Int32)))))))
set_option maxHeartbeats 4000000 in
set_option maxRecDepth 100000 in
theorem c_X11_still (l : Launch) (D : va_G) (cy : Nat → ClassId) (ad : Nat → Nat) (tL : Nat) (σ : St) (a1 : Int32) (a2 : Int32) (post : Int32 → St → Prop) (hF : w_X11_still σ a1 a2 post) : Cti l yX11_still cX11_still 5 (some .int) 2 42 D cy ad tL dsC σ [.ref (ad 0), .int a1, .int a2] post := by
  refine cti_of (by decide) (Nat.le_of_ble_eq_true rfl) ?_
  intro p e s m args below meth c A hx hb hml hr hlk hg hown hA hK H locs hP hD hS hLB ls hl
  have hown : s.vm.findClass RX11 = some m.cls := hown
  have hl : lv_has ls 5 [(0, .ref (ad 0)), (1, .int a1), (2, .int a2)] := hl
  refine lv_aload_n hx hb dX11_still_0 rfl (lv_at hl 0 rfl) ?_
  refine wi_getr hx hb hg hown hK hP 0 0 1 rfl rfl cb_11 (by decide) kw_349 dX11_still_1 ?_
  refine lv_iload_n hx hb dX11_still_4 rfl (lv_at hl 1 rfl) ?_
  refine wi_callVi (k := 1) (As := [.int a1]) (c_X4_isBit l D cy ad tL σ a1 _ hF) vw_RX11_96 rfl cb_4 hx hb hml hown hg hK hP hD hS hA hLB rfl ⟨Nat.le_of_ble_eq_true rfl, Nat.le_of_ble_eq_true rfl⟩ hl.1 rfl (Nat.le_of_ble_eq_true rfl) dX11_still_5 (fun r1 σ2 hw H locs hP hD hS => ?_)
  obtain ⟨hF, rfl⟩ := hw
  refine lv_if_ne (tgt := 13) hx hb dX11_still_8 (by decide) (fun c3 => ?_) (fun c3 => ?_)
  · have hF := brF hF c3
    refine lv_iconst (v := (1 : Int32)) hx hb dX11_still_13 (by decide) ?_
    refine lv_aload_n hx hb dX11_still_14 rfl (lv_at hl 0 rfl) ?_
    refine wi_getr hx hb hg hown hK hP 0 0 1 rfl rfl cb_11 (by decide) kw_349 dX11_still_15 ?_
    refine wi_getr hx hb hg hown hK hP 1 10 13 rfl rfl cb_4 (by decide) kw_416 dX11_still_18 ?_
    refine lv_iload_n hx hb dX11_still_21 rfl (lv_at hl 1 rfl) ?_
    obtain ⟨hin, hF⟩ := hF
    refine wi_iald hx hb hK hP 13 rfl hin dX11_still_22 (fun v4 ev4 => ?_)
    have hF := hF v4 ev4
    refine lv_ishl hx hb dX11_still_23 ?_
    refine lv_topi (fun x5 ex5 => ?_)
    have hF := hF x5 ex5
    refine lv_istore_n (lv' := [(3, .int x5), (0, .ref (ad 0)), (1, .int a1), (2, .int a2)]) hx hb dX11_still_24 rfl hl (by decide) rfl (fun ls hl => ?_)
    refine lv_aload_n hx hb dX11_still_25 rfl (lv_at hl 1 rfl) ?_
    refine wi_getr hx hb hg hown hK hP 0 0 1 rfl rfl cb_11 (by decide) kw_349 dX11_still_26 ?_
    refine wi_geti hx hb hg hown hK hP 1 3 rfl rfl cb_4 (by decide) kw_417 dX11_still_29 ?_
    refine lv_iload_n hx hb dX11_still_32 rfl (lv_at hl 0 rfl) ?_
    refine lv_iand hx hb dX11_still_33 ?_
    refine jn_use hF (fun K => ∀ (y7 : Int32) (H : Heap) (locs : List Loc) (ls : Array Slot), K y7 → va_P D vwCl (wld cy ad dsC σ) H → va_D A (wld cy ad dsC σ) → va_S A s.heap H locs → lv_has ls 5 [(0, .ref (ad 0)), (2, .int a2), (3, .int x5)] → W p l e (rmO 2 42) s m args below meth c H locs 0 0 (MQ below (va_Qi post (cBk D cy ad dsC A) A) args s 0 0 A) (F0 m 42 ls [.int y7])) (fun y7 H locs ls hF hP hD hS hl => ?_) (fun J6 hJ6 hF => ?_)
    · refine lv_istore (lv' := [(4, .int y7), (0, .ref (ad 0)), (2, .int a2), (3, .int x5)]) hx hb dX11_still_42 hl (by decide) rfl (fun ls hl => ?_)
      refine lv_aload_n hx hb dX11_still_44 rfl (lv_at hl 1 rfl) ?_
      refine wi_getr hx hb hg hown hK hP 0 0 1 rfl rfl cb_11 (by decide) kw_349 dX11_still_45 ?_
      refine lv_iload_n hx hb dX11_still_48 rfl (lv_at hl 2 rfl) ?_
      refine jn_use hF (fun K => ∀ (y9 : Int32) (H : Heap) (locs : List Loc) (ls : Array Slot), K y9 → va_P D vwCl (wld cy ad dsC σ) H → va_D A (wld cy ad dsC σ) → va_S A s.heap H locs → lv_has ls 5 [(4, .int y7)] → W p l e (rmO 2 42) s m args below meth c H locs 0 0 (MQ below (va_Qi post (cBk D cy ad dsC A) A) args s 0 0 A) (F0 m 75 ls [.int y9, .ref (ad 1)])) (fun y9 H locs ls hF hP hD hS hl => ?_) (fun J8 hJ8 hF => ?_)
      · refine wi_puti hx hb hg hown hK hP hD hS 1 3 rfl rfl cb_4 (by decide) kw_417 rfl rfl rfl dX11_still_75 (fun σ10 eσ10 H locs hP hD hS => ?_)
        have hF := hF σ10 eσ10
        refine lv_iload hx hb dX11_still_78 (lv_at hl 0 rfl) ?_
        exact wi_iret hx hb hr hlk hK hP hD hS dX11_still_80 hF
      · refine lv_if_eq (tgt := 64) hx hb dX11_still_49 (by decide) (fun c11 => ?_) (fun c11 => ?_)
        · have hF := brT hF c11
          refine lv_aload_n hx hb dX11_still_64 rfl (lv_at hl 1 rfl) ?_
          refine wi_getr hx hb hg hown hK hP 0 0 1 rfl rfl cb_11 (by decide) kw_349 dX11_still_65 ?_
          refine wi_geti hx hb hg hown hK hP 1 3 rfl rfl cb_4 (by decide) kw_417 dX11_still_68 ?_
          refine lv_iload_n hx hb dX11_still_71 rfl (lv_at hl 3 rfl) ?_
          refine lv_iconst (v := (-1 : Int32)) hx hb dX11_still_72 (by decide) ?_
          refine lv_ixor hx hb dX11_still_73 ?_
          refine lv_iand hx hb dX11_still_74 ?_
          exact hJ8 ((σ.1 1 3) &&& (x5 ^^^ (-1 : Int32))) H locs ls hF hP hD hS (lv_sub hl [0] rfl)
        · have hF := brF hF c11
          refine lv_aload_n hx hb dX11_still_52 rfl (lv_at hl 1 rfl) ?_
          refine wi_getr hx hb hg hown hK hP 0 0 1 rfl rfl cb_11 (by decide) kw_349 dX11_still_53 ?_
          refine wi_geti hx hb hg hown hK hP 1 3 rfl rfl cb_4 (by decide) kw_417 dX11_still_56 ?_
          refine lv_iload_n hx hb dX11_still_59 rfl (lv_at hl 3 rfl) ?_
          refine lv_ior hx hb dX11_still_60 ?_
          refine lv_goto (tgt := 75) hx hb dX11_still_61 (by decide) ?_
          exact hJ8 ((σ.1 1 3) ||| x5) H locs ls hF hP hD hS (lv_sub hl [0] rfl)
    · refine lv_if_eq (tgt := 41) hx hb dX11_still_34 (by decide) (fun c12 => ?_) (fun c12 => ?_)
      · have hF := brT hF c12
        refine lv_iconst (v := (0 : Int32)) hx hb dX11_still_41 (by decide) ?_
        exact hJ6 (0 : Int32) H locs ls hF hP hD hS (lv_sub hl [1, 3, 0] rfl)
      · have hF := brF hF c12
        refine lv_iconst (v := (1 : Int32)) hx hb dX11_still_37 (by decide) ?_
        refine lv_goto (tgt := 42) hx hb dX11_still_38 (by decide) ?_
        exact hJ6 (1 : Int32) H locs ls hF hP hD hS (lv_sub hl [1, 3, 0] rfl)
  · have hF := brT hF c3
    refine lv_iconst (v := (-1 : Int32)) hx hb dX11_still_11 (by decide) ?_
    exact wi_iret hx hb hr hlk hK hP hD hS dX11_still_12 hF
def w_X11_promise (σ : St) (a1 : Int32) (a2 : Int32) (a3 : Int32) (post : Int32 → St → Prop) : Prop := jn (α := Int32 → Prop) (fun (y2 : Int32) => br (a1 < (0 : Int32)) (post (-1 : Int32) σ) (br ((3 : Int32) < a1) (post (-1 : Int32) σ) (w_X4_isCell σ a2 (fun r5 => br (r5 = (0 : Int32)) (post (-1 : Int32) σ) (jn (α := Prop) (jn (α := Prop) (br ((σ.1 3 1) < (8 : Int32)) (w_X9_forget σ (fun σ12 => jn (α := Int32 → Prop) (fun (y14 : Int32) => w_X5_add σ12 a1 a2 y14 (fun r15 σ16 => post r15 σ16)) (fun J13 => br (y2 = (0 : Int32)) (J13 a2) (J13 a3)))) (post (-2 : Int32) σ)) (fun J9 => br (a1 = (3 : Int32)) (br (a2 ≤ a3) (J9) (post (-1 : Int32) σ)) (J9))) (fun J8 => br (y2 = (0 : Int32)) (J8) (w_X4_isCell σ a3 (fun r21 => br (r21 = (0 : Int32)) (post (-1 : Int32) σ) (J8))))))))) (fun J1 => br (a1 = (0 : Int32)) (J1 (0 : Int32)) (J1 (1 : Int32)))
set_option maxHeartbeats 4000000 in
set_option maxRecDepth 100000 in
theorem c_X11_promise (l : Launch) (D : va_G) (cy : Nat → ClassId) (ad : Nat → Nat) (tL : Nat) (σ : St) (a1 : Int32) (a2 : Int32) (a3 : Int32) (post : Int32 → St → Prop) (hF : w_X11_promise σ a1 a2 a3 post) : Cti l yX11_promise cX11_promise 5 (some .int) 2 48 D cy ad tL dsC σ [.ref (ad 0), .int a1, .int a2, .int a3] post := by
  refine cti_of (by decide) (Nat.le_of_ble_eq_true rfl) ?_
  intro p e s m args below meth c A hx hb hml hr hlk hg hown hA hK H locs hP hD hS hLB ls hl
  have hown : s.vm.findClass RX11 = some m.cls := hown
  have hl : lv_has ls 5 [(0, .ref (ad 0)), (1, .int a1), (2, .int a2), (3, .int a3)] := hl
  refine lv_iload_n hx hb dX11_promise_0 rfl (lv_at hl 1 rfl) ?_
  refine jn_use hF (fun K => ∀ (y2 : Int32) (H : Heap) (locs : List Loc) (ls : Array Slot), K y2 → va_P D vwCl (wld cy ad dsC σ) H → va_D A (wld cy ad dsC σ) → va_S A s.heap H locs → lv_has ls 5 [(0, .ref (ad 0)), (1, .int a1), (2, .int a2), (3, .int a3)] → W p l e (rmO 2 48) s m args below meth c H locs 0 0 (MQ below (va_Qi post (cBk D cy ad dsC A) A) args s 0 0 A) (F0 m 9 ls [.int y2])) (fun y2 H locs ls hF hP hD hS hl => ?_) (fun J1 hJ1 hF => ?_)
  · refine lv_istore (lv' := [(4, .int y2), (0, .ref (ad 0)), (1, .int a1), (2, .int a2), (3, .int a3)]) hx hb dX11_promise_9 hl (by decide) rfl (fun ls hl => ?_)
    refine lv_iload_n hx hb dX11_promise_11 rfl (lv_at hl 2 rfl) ?_
    refine lv_if_lt (tgt := 57) hx hb dX11_promise_12 (by decide) (fun c3 => ?_) (fun c3 => ?_)
    · have hF := brT hF c3
      refine lv_iconst (v := (-1 : Int32)) hx hb dX11_promise_57 (by decide) ?_
      exact wi_iret hx hb hr hlk hK hP hD hS dX11_promise_58 hF
    · have hF := brF hF c3
      refine lv_iload_n hx hb dX11_promise_15 rfl (lv_at hl 2 rfl) ?_
      refine lv_iconst (v := (3 : Int32)) hx hb dX11_promise_16 (by decide) ?_
      refine lv_icmp_gt (tgt := 57) hx hb dX11_promise_17 (by decide) (fun c4 => ?_) (fun c4 => ?_)
      · have hF := brT hF c4
        refine lv_iconst (v := (-1 : Int32)) hx hb dX11_promise_57 (by decide) ?_
        exact wi_iret hx hb hr hlk hK hP hD hS dX11_promise_58 hF
      · have hF := brF hF c4
        refine lv_aload_n hx hb dX11_promise_20 rfl (lv_at hl 1 rfl) ?_
        refine wi_getr hx hb hg hown hK hP 0 0 1 rfl rfl cb_11 (by decide) kw_349 dX11_promise_21 ?_
        refine lv_iload_n hx hb dX11_promise_24 rfl (lv_at hl 3 rfl) ?_
        refine wi_callVi (k := 1) (As := [.int a2]) (c_X4_isCell l D cy ad tL σ a2 _ hF) vw_RX11_67 rfl cb_4 hx hb hml hown hg hK hP hD hS hA hLB rfl ⟨Nat.le_of_ble_eq_true rfl, Nat.le_of_ble_eq_true rfl⟩ hl.1 rfl (Nat.le_of_ble_eq_true rfl) dX11_promise_25 (fun r5 σ6 hw H locs hP hD hS => ?_)
        obtain ⟨hF, rfl⟩ := hw
        refine lv_if_eq (tgt := 57) hx hb dX11_promise_28 (by decide) (fun c7 => ?_) (fun c7 => ?_)
        · have hF := brT hF c7
          refine lv_iconst (v := (-1 : Int32)) hx hb dX11_promise_57 (by decide) ?_
          exact wi_iret hx hb hr hlk hK hP hD hS dX11_promise_58 hF
        · have hF := brF hF c7
          refine lv_iload hx hb dX11_promise_31 (lv_at hl 0 rfl) ?_
          refine jn_use hF (fun K => ∀ (H : Heap) (locs : List Loc) (ls : Array Slot), K → va_P D vwCl (wld cy ad dsC σ) H → va_D A (wld cy ad dsC σ) → va_S A s.heap H locs → lv_has ls 5 [(0, .ref (ad 0)), (1, .int a1), (2, .int a2), (3, .int a3), (4, .int y2)] → W p l e (rmO 2 48) s m args below meth c H locs 0 0 (MQ below (va_Qi post (cBk D cy ad dsC A) A) args s 0 0 A) (F0 m 47 ls [])) (fun H locs ls hF hP hD hS hl => ?_) (fun J8 hJ8 hF => ?_)
          · refine lv_iload_n hx hb dX11_promise_47 rfl (lv_at hl 1 rfl) ?_
            refine lv_iconst (v := (3 : Int32)) hx hb dX11_promise_48 (by decide) ?_
            refine jn_use hF (fun K => ∀ (H : Heap) (locs : List Loc) (ls : Array Slot), K → va_P D vwCl (wld cy ad dsC σ) H → va_D A (wld cy ad dsC σ) → va_S A s.heap H locs → lv_has ls 5 [(0, .ref (ad 0)), (1, .int a1), (2, .int a2), (3, .int a3), (4, .int y2)] → W p l e (rmO 2 48) s m args below meth c H locs 0 0 (MQ below (va_Qi post (cBk D cy ad dsC A) A) args s 0 0 A) (F0 m 59 ls [])) (fun H locs ls hF hP hD hS hl => ?_) (fun J9 hJ9 hF => ?_)
            · refine lv_aload_n hx hb dX11_promise_59 rfl (lv_at hl 0 rfl) ?_
              refine wi_getr hx hb hg hown hK hP 0 2 3 rfl rfl cb_11 (by decide) kw_355 dX11_promise_60 ?_
              refine wi_geti hx hb hg hown hK hP 3 1 rfl rfl cb_5 (by decide) kw_419 dX11_promise_63 ?_
              refine lv_bipush (v := (8 : Int32)) hx hb dX11_promise_66 (by decide) ?_
              refine lv_icmp_lt (tgt := 74) hx hb dX11_promise_68 (by decide) (fun c10 => ?_) (fun c10 => ?_)
              · have hF := brT hF c10
                refine lv_aload_n hx hb dX11_promise_74 rfl (lv_at hl 0 rfl) ?_
                refine wi_getr hx hb hg hown hK hP 0 4 6 rfl rfl cb_11 (by decide) kw_363 dX11_promise_75 ?_
                refine wi_callVv (k := 6) (As := []) (c_X9_forget l D cy ad tL σ _ hF) vw_RX11_108 rfl cb_9 hx hb hml hown hg hK hP hD hS hA hLB rfl ⟨Nat.le_of_ble_eq_true rfl, Nat.le_of_ble_eq_true rfl⟩ hl.1 rfl (Nat.le_of_ble_eq_true rfl) dX11_promise_78 (fun σ12 hw H locs hP hD hS => ?_)
                have hF := hw
                refine lv_aload_n hx hb dX11_promise_81 rfl (lv_at hl 0 rfl) ?_
                refine wi_getr hx hb hg hown hK hP 0 2 3 rfl rfl cb_11 (by decide) kw_355 dX11_promise_82 ?_
                refine lv_iload_n hx hb dX11_promise_85 rfl (lv_at hl 1 rfl) ?_
                refine lv_iload_n hx hb dX11_promise_86 rfl (lv_at hl 2 rfl) ?_
                refine lv_iload hx hb dX11_promise_87 (lv_at hl 4 rfl) ?_
                refine jn_use hF (fun K => ∀ (y14 : Int32) (H : Heap) (locs : List Loc) (ls : Array Slot), K y14 → va_P D vwCl (wld cy ad dsC σ12) H → va_D A (wld cy ad dsC σ12) → va_S A s.heap H locs → lv_has ls 5 [] → W p l e (rmO 2 48) s m args below meth c H locs 0 0 (MQ below (va_Qi post (cBk D cy ad dsC A) A) args s 0 0 A) (F0 m 97 ls [.int y14, .int a2, .int a1, .ref (ad 3)])) (fun y14 H locs ls hF hP hD hS hl => ?_) (fun J13 hJ13 hF => ?_)
                · refine wi_callVi (k := 3) (As := [.int a1, .int a2, .int y14]) (c_X5_add l D cy ad tL σ12 a1 a2 y14 _ hF) vw_RX11_111 rfl cb_5 hx hb hml hown hg hK hP hD hS hA hLB rfl ⟨Nat.le_of_ble_eq_true rfl, Nat.le_of_ble_eq_true rfl⟩ hl.1 rfl (Nat.le_of_ble_eq_true rfl) dX11_promise_97 (fun r15 σ16 hw H locs hP hD hS => ?_)
                  have hF := hw
                  exact wi_iret hx hb hr hlk hK hP hD hS dX11_promise_100 hF
                · refine lv_if_eq (tgt := 96) hx hb dX11_promise_89 (by decide) (fun c17 => ?_) (fun c17 => ?_)
                  · have hF := brT hF c17
                    refine lv_iload_n hx hb dX11_promise_96 rfl (lv_at hl 2 rfl) ?_
                    exact hJ13 a2 H locs ls hF hP hD hS (lv_sub hl [] rfl)
                  · have hF := brF hF c17
                    refine lv_iload_n hx hb dX11_promise_92 rfl (lv_at hl 3 rfl) ?_
                    refine lv_goto (tgt := 97) hx hb dX11_promise_93 (by decide) ?_
                    exact hJ13 a3 H locs ls hF hP hD hS (lv_sub hl [] rfl)
              · have hF := brF hF c10
                refine lv_bipush (v := (-2 : Int32)) hx hb dX11_promise_71 (by decide) ?_
                exact wi_iret hx hb hr hlk hK hP hD hS dX11_promise_73 hF
            · refine lv_icmp_ne (tgt := 59) hx hb dX11_promise_49 (by decide) (fun c18 => ?_) (fun c18 => ?_)
              · have hF := brF hF c18
                exact hJ9  H locs ls hF hP hD hS (lv_sub hl [0, 1, 2, 3, 4] rfl)
              · have hF := brT hF c18
                refine lv_iload_n hx hb dX11_promise_52 rfl (lv_at hl 2 rfl) ?_
                refine lv_iload_n hx hb dX11_promise_53 rfl (lv_at hl 3 rfl) ?_
                refine lv_icmp_le (tgt := 59) hx hb dX11_promise_54 (by decide) (fun c19 => ?_) (fun c19 => ?_)
                · have hF := brT hF c19
                  exact hJ9  H locs ls hF hP hD hS (lv_sub hl [0, 1, 2, 3, 4] rfl)
                · have hF := brF hF c19
                  refine lv_iconst (v := (-1 : Int32)) hx hb dX11_promise_57 (by decide) ?_
                  exact wi_iret hx hb hr hlk hK hP hD hS dX11_promise_58 hF
          · refine lv_if_eq (tgt := 47) hx hb dX11_promise_33 (by decide) (fun c20 => ?_) (fun c20 => ?_)
            · have hF := brT hF c20
              exact hJ8  H locs ls hF hP hD hS (lv_sub hl [1, 2, 3, 4, 0] rfl)
            · have hF := brF hF c20
              refine lv_aload_n hx hb dX11_promise_36 rfl (lv_at hl 1 rfl) ?_
              refine wi_getr hx hb hg hown hK hP 0 0 1 rfl rfl cb_11 (by decide) kw_349 dX11_promise_37 ?_
              refine lv_iload_n hx hb dX11_promise_40 rfl (lv_at hl 4 rfl) ?_
              refine wi_callVi (k := 1) (As := [.int a3]) (c_X4_isCell l D cy ad tL σ a3 _ hF) vw_RX11_67 rfl cb_4 hx hb hml hown hg hK hP hD hS hA hLB rfl ⟨Nat.le_of_ble_eq_true rfl, Nat.le_of_ble_eq_true rfl⟩ hl.1 rfl (Nat.le_of_ble_eq_true rfl) dX11_promise_41 (fun r21 σ22 hw H locs hP hD hS => ?_)
              obtain ⟨hF, rfl⟩ := hw
              refine lv_if_eq (tgt := 57) hx hb dX11_promise_44 (by decide) (fun c23 => ?_) (fun c23 => ?_)
              · have hF := brT hF c23
                refine lv_iconst (v := (-1 : Int32)) hx hb dX11_promise_57 (by decide) ?_
                exact wi_iret hx hb hr hlk hK hP hD hS dX11_promise_58 hF
              · have hF := brF hF c23
                exact hJ8  H locs ls hF hP hD hS (lv_sub hl [1, 2, 3, 4, 0] rfl)
  · refine lv_if_eq (tgt := 8) hx hb dX11_promise_1 (by decide) (fun c24 => ?_) (fun c24 => ?_)
    · have hF := brT hF c24
      refine lv_iconst (v := (0 : Int32)) hx hb dX11_promise_8 (by decide) ?_
      exact hJ1 (0 : Int32) H locs ls hF hP hD hS (lv_sub hl [0, 1, 2, 3] rfl)
    · have hF := brF hF c24
      refine lv_iconst (v := (1 : Int32)) hx hb dX11_promise_4 (by decide) ?_
      refine lv_goto (tgt := 9) hx hb dX11_promise_5 (by decide) ?_
      exact hJ1 (1 : Int32) H locs ls hF hP hD hS (lv_sub hl [0, 1, 2, 3] rfl)
def w_X11_start (σ : St) (post : Int32 → St → Prop) : Prop := nm (σ.1 5 3) (fun x1 => w_X7_begin σ (fun σ3 => post x1 σ3))
set_option maxHeartbeats 4000000 in
set_option maxRecDepth 100000 in
theorem c_X11_start (l : Launch) (D : va_G) (cy : Nat → ClassId) (ad : Nat → Nat) (tL : Nat) (σ : St) (post : Int32 → St → Prop) (hF : w_X11_start σ post) : Cti l yX11_start cX11_start 2 (some .int) 1 20 D cy ad tL dsC σ [.ref (ad 0)] post := by
  refine cti_of (by decide) (Nat.le_of_ble_eq_true rfl) ?_
  intro p e s m args below meth c A hx hb hml hr hlk hg hown hA hK H locs hP hD hS hLB ls hl
  have hown : s.vm.findClass RX11 = some m.cls := hown
  have hl : lv_has ls 2 [(0, .ref (ad 0))] := hl
  refine lv_aload_n hx hb dX11_start_0 rfl (lv_at hl 0 rfl) ?_
  refine wi_getr hx hb hg hown hK hP 0 3 5 rfl rfl cb_11 (by decide) kw_360 dX11_start_1 ?_
  refine wi_geti hx hb hg hown hK hP 5 3 rfl rfl cb_7 (by decide) kw_425 dX11_start_4 ?_
  refine lv_topi (fun x1 ex1 => ?_)
  have hF := hF x1 ex1
  refine lv_istore_n (lv' := [(1, .int x1), (0, .ref (ad 0))]) hx hb dX11_start_7 rfl hl (by decide) rfl (fun ls hl => ?_)
  refine lv_aload_n hx hb dX11_start_8 rfl (lv_at hl 1 rfl) ?_
  refine wi_getr hx hb hg hown hK hP 0 3 5 rfl rfl cb_11 (by decide) kw_360 dX11_start_9 ?_
  refine wi_callVv (k := 5) (As := []) (c_X7_begin l D cy ad tL σ _ hF) vw_RX11_117 rfl cb_7 hx hb hml hown hg hK hP hD hS hA hLB rfl ⟨Nat.le_of_ble_eq_true rfl, Nat.le_of_ble_eq_true rfl⟩ hl.1 rfl (Nat.le_of_ble_eq_true rfl) dX11_start_12 (fun σ3 hw H locs hP hD hS => ?_)
  have hF := hw
  refine lv_iload_n hx hb dX11_start_15 rfl (lv_at hl 0 rfl) ?_
  exact wi_iret hx hb hr hlk hK hP hD hS dX11_start_16 hF
