def w_X9_judge_L25 (a1 : Int32) (a2 : Int32) (a3 : Int32) (a4 : Int32) (a5 : Int32) (y2 : Int32) (J3 : St → Prop) (rec7 : Int32 → St → Prop) (y5 : Int32) (σ6 : St) : Prop := br ((σ6.1 3 1) ≤ y5) (J3 σ6) (w_X9_breaks σ6 y5 (fun r9 => br (r9 = (0 : Int32)) (rd (σ6.1 25) 250 a5 (fun v13 => w_X5_holds σ6 y5 y2 v13 (fun r14 => br (r14 = (0 : Int32)) (w_X9_tell_30 σ6 y5 a1 a2 a3 a4 a5 (fun σ19 => nm (y5 + (1 : Int32)) (fun x20 => rec7 x20 σ19))) (nm (y5 + (1 : Int32)) (fun x17 => rec7 x17 σ6))))) (nm (y5 + (1 : Int32)) (fun x12 => rec7 x12 σ6))))
def w_X9_judge (σ : St) (a1 : Int32) (a2 : Int32) (a3 : Int32) (a4 : Int32) (a5 : Int32) (post : St → Prop) : Prop := jn (α := Int32 → Prop) (fun (y2 : Int32) => jn (α := St → Prop) (fun (σ4 : St) => post σ4) (fun J3 => lpE2 (w_X9_judge_L25 a1 a2 a3 a4 a5 y2 J3) (0 : Int32) σ)) (fun J1 => br ((0 : Int32) ≤ a1) (rd (σ.1 25) 250 a1 (fun v22 => J1 v22)) (rd (σ.1 25) 250 a5 (fun v23 => J1 v23)))
set_option maxHeartbeats 4000000 in
set_option maxRecDepth 100000 in
theorem c_X9_judge (l : Launch) (D : va_G) (cy : Nat → ClassId) (ad : Nat → Nat) (tL : Nat) (σ : St) (a1 : Int32) (a2 : Int32) (a3 : Int32) (a4 : Int32) (a5 : Int32) (post : St → Prop) (hF : w_X9_judge σ a1 a2 a3 a4 a5 post) : Ctv l yX9_judge cX9_judge 8 none 2 45 D cy ad tL dsC σ [.ref (ad 6), .int a1, .int a2, .int a3, .int a4, .int a5] post := by
  refine ctv_of (by decide) (Nat.le_of_ble_eq_true rfl) ?_
  intro p e s m args below meth c A hx hb hml hr hlk hg hown hA hK H locs hP hD hS hLB ls hl
  have hown : s.vm.findClass RX9 = some m.cls := hown
  have hl : lv_has ls 8 [(0, .ref (ad 6)), (1, .int a1), (2, .int a2), (3, .int a3), (4, .int a4), (5, .int a5)] := hl
  refine lv_iload_n hx hb dX9_judge_0 rfl (lv_at hl 1 rfl) ?_
  refine jn_use hF (fun K => ∀ (y2 : Int32) (H : Heap) (locs : List Loc) (ls : Array Slot), K y2 → va_P D vwCl (wld cy ad dsC σ) H → va_D A (wld cy ad dsC σ) → va_S A s.heap H locs → lv_has ls 8 [(0, .ref (ad 6)), (1, .int a1), (2, .int a2), (3, .int a3), (4, .int a4), (5, .int a5)] → W p l e (rmO 2 45) s m args below meth c H locs 0 0 (MQ below (va_Qv post (cBk D cy ad dsC A) A) args s 0 0 A) (F0 m 20 ls [.int y2])) (fun y2 H locs ls hF hP hD hS hl => ?_) (fun J1 hJ1 hF => ?_)
  · refine lv_istore (lv' := [(6, .int y2), (0, .ref (ad 6)), (1, .int a1), (2, .int a2), (3, .int a3), (4, .int a4), (5, .int a5)]) hx hb dX9_judge_20 hl (by decide) rfl (fun ls hl => ?_)
    refine lv_iconst (v := (0 : Int32)) hx hb dX9_judge_22 (by decide) ?_
    refine lv_istore (lv' := [(7, .int (0 : Int32)), (6, .int y2), (0, .ref (ad 6)), (1, .int a1), (2, .int a2), (3, .int a3), (4, .int a4), (5, .int a5)]) hx hb dX9_judge_23 hl (by decide) rfl (fun ls hl => ?_)
    refine jn_use hF (fun K => ∀ (σ4 : St) (H : Heap) (locs : List Loc) (ls : Array Slot), K σ4 → va_P D vwCl (wld cy ad dsC σ4) H → va_D A (wld cy ad dsC σ4) → va_S A s.heap H locs → lv_has ls 8 [] → W p l e (rmO 2 45) s m args below meth c H locs 0 0 (MQ below (va_Qv post (cBk D cy ad dsC A) A) args s 0 0 A) (F0 m 89 ls [])) (fun σ4 H locs ls hF hP hD hS hl => ?_) (fun J3 hJ3 hF => ?_)
    · exact wi_vret hx hb hr hlk hK hP hD hS dX9_judge_89 hF
    · refine lpE2_use hF (fun (y5 : Int32) (σ6 : St) => ∀ (H : Heap) (locs : List Loc) (ls : Array Slot), va_P D vwCl (wld cy ad dsC σ6) H → va_D A (wld cy ad dsC σ6) → va_S A s.heap H locs → lv_has ls 8 [(0, .ref (ad 6)), (1, .int a1), (2, .int a2), (3, .int a3), (4, .int a4), (5, .int a5), (6, .int y2), (7, .int y5)] → W p l e (rmO 2 45) s m args below meth c H locs 0 0 (MQ below (va_Qv post (cBk D cy ad dsC A) A) args s 0 0 A) (F0 m 25 ls [])) (fun rec7 hrec7 y5 σ6 hF H locs ls hP hD hS hl => ?_) H locs ls hP hD hS (lv_sub hl [2, 3, 4, 5, 6, 7, 1, 0] rfl)
      refine lv_iload hx hb dX9_judge_25 (lv_at hl 7 rfl) ?_
      refine lv_aload_n hx hb dX9_judge_27 rfl (lv_at hl 0 rfl) ?_
      refine wi_getr hx hb hg hown hK hP 6 2 3 rfl rfl cb_9 (by decide) kw_249 dX9_judge_28 ?_
      refine wi_geti hx hb hg hown hK hP 3 1 rfl rfl cb_5 (by decide) kw_267 dX9_judge_31 ?_
      refine lv_icmp_ge (tgt := 89) hx hb dX9_judge_34 (by decide) (fun c8 => ?_) (fun c8 => ?_)
      · have hF := brT hF c8
        exact hJ3 σ6 H locs ls hF hP hD hS (lv_sub hl [] rfl)
      · have hF := brF hF c8
        refine lv_aload_n hx hb dX9_judge_37 rfl (lv_at hl 0 rfl) ?_
        refine lv_iload hx hb dX9_judge_38 (lv_at hl 7 rfl) ?_
        refine wi_callVi (k := 6) (As := [.int y5]) (c_X9_breaks l D cy ad tL σ6 y5 _ hF) vw_RX9_169 rfl cb_9 hx hb hml hown hg hK hP hD hS hA hLB rfl ⟨Nat.le_of_ble_eq_true rfl, Nat.le_of_ble_eq_true rfl⟩ hl.1 rfl (Nat.le_of_ble_eq_true rfl) dX9_judge_40 (fun r9 σ10 hw H locs hP hD hS => ?_)
        obtain ⟨hF, rfl⟩ := hw
        refine lv_if_ne (tgt := 83) hx hb dX9_judge_43 (by decide) (fun c11 => ?_) (fun c11 => ?_)
        · have hF := brF hF c11
          obtain ⟨x12, ex12⟩ : ∃ z : Int32, z = (y5 + (1 : Int32)) := ⟨_, rfl⟩
          have hF := hF x12 ex12
          refine lv_iinc (v := x12) (lv' := [(7, .int x12), (0, .ref (ad 6)), (1, .int a1), (2, .int a2), (3, .int a3), (4, .int a4), (5, .int a5), (6, .int y2)]) hx hb dX9_judge_83 hl (k := 7) rfl (by rw [ex12]; rfl) (by decide) rfl (fun ls hl => ?_)
          refine lv_goto (tgt := 25) hx hb dX9_judge_86 (by decide) ?_
          exact hrec7 x12 σ6 hF H locs ls hP hD hS (lv_sub hl [1, 2, 3, 4, 5, 6, 7, 0] rfl)
        · have hF := brT hF c11
          refine lv_aload_n hx hb dX9_judge_46 rfl (lv_at hl 0 rfl) ?_
          refine wi_getr hx hb hg hown hK hP 6 2 3 rfl rfl cb_9 (by decide) kw_249 dX9_judge_47 ?_
          refine lv_iload hx hb dX9_judge_50 (lv_at hl 7 rfl) ?_
          refine lv_iload hx hb dX9_judge_52 (lv_at hl 6 rfl) ?_
          refine lv_aload_n hx hb dX9_judge_54 rfl (lv_at hl 0 rfl) ?_
          refine wi_getr hx hb hg hown hK hP 6 9 25 rfl rfl cb_9 (by decide) kw_239 dX9_judge_55 ?_
          refine lv_iload hx hb dX9_judge_58 (lv_at hl 5 rfl) ?_
          obtain ⟨hin, hF⟩ := hF
          refine wi_iald hx hb hK hP 25 rfl hin dX9_judge_60 (fun v13 ev13 => ?_)
          have hF := hF v13 ev13
          refine wi_callVi (k := 3) (As := [.int y5, .int y2, .int v13]) (c_X5_holds l D cy ad tL σ6 y5 y2 v13 _ hF) vw_RX9_173 rfl cb_5 hx hb hml hown hg hK hP hD hS hA hLB rfl ⟨Nat.le_of_ble_eq_true rfl, Nat.le_of_ble_eq_true rfl⟩ hl.1 rfl (Nat.le_of_ble_eq_true rfl) dX9_judge_61 (fun r14 σ15 hw H locs hP hD hS => ?_)
          obtain ⟨hF, rfl⟩ := hw
          refine lv_if_ne (tgt := 83) hx hb dX9_judge_64 (by decide) (fun c16 => ?_) (fun c16 => ?_)
          · have hF := brF hF c16
            obtain ⟨x17, ex17⟩ : ∃ z : Int32, z = (y5 + (1 : Int32)) := ⟨_, rfl⟩
            have hF := hF x17 ex17
            refine lv_iinc (v := x17) (lv' := [(7, .int x17), (0, .ref (ad 6)), (1, .int a1), (2, .int a2), (3, .int a3), (4, .int a4), (5, .int a5), (6, .int y2)]) hx hb dX9_judge_83 hl (k := 7) rfl (by rw [ex17]; rfl) (by decide) rfl (fun ls hl => ?_)
            refine lv_goto (tgt := 25) hx hb dX9_judge_86 (by decide) ?_
            exact hrec7 x17 σ6 hF H locs ls hP hD hS (lv_sub hl [1, 2, 3, 4, 5, 6, 7, 0] rfl)
          · have hF := brT hF c16
            refine lv_aload_n hx hb dX9_judge_67 rfl (lv_at hl 0 rfl) ?_
            refine wi_getr hx hb hg hown hK hP 6 14 30 rfl rfl cb_9 (by decide) kw_244 dX9_judge_68 ?_
            refine lv_iload hx hb dX9_judge_71 (lv_at hl 7 rfl) ?_
            refine lv_iload_n hx hb dX9_judge_73 rfl (lv_at hl 1 rfl) ?_
            refine lv_iload_n hx hb dX9_judge_74 rfl (lv_at hl 2 rfl) ?_
            refine lv_iload_n hx hb dX9_judge_75 rfl (lv_at hl 3 rfl) ?_
            refine lv_iload hx hb dX9_judge_76 (lv_at hl 4 rfl) ?_
            refine lv_iload hx hb dX9_judge_78 (lv_at hl 5 rfl) ?_
            refine wi_callSv (As := [.ref (ad 30), .int y5, .int a1, .int a2, .int a3, .int a4, .int a5]) (c_X9_tell_30 l D cy ad tL σ6 y5 a1 a2 a3 a4 a5 _ hF) sw_RX9_99 hx hb hml hown hg hK hP hD hS hA hLB rfl ⟨Nat.le_of_ble_eq_true rfl, Nat.le_of_ble_eq_true rfl⟩ hl.1 rfl (Nat.le_of_ble_eq_true rfl) dX9_judge_80 (fun σ19 hw H locs hP hD hS => ?_)
            have hF := hw
            obtain ⟨x20, ex20⟩ : ∃ z : Int32, z = (y5 + (1 : Int32)) := ⟨_, rfl⟩
            have hF := hF x20 ex20
            refine lv_iinc (v := x20) (lv' := [(7, .int x20), (0, .ref (ad 6)), (1, .int a1), (2, .int a2), (3, .int a3), (4, .int a4), (5, .int a5), (6, .int y2)]) hx hb dX9_judge_83 hl (k := 7) rfl (by rw [ex20]; rfl) (by decide) rfl (fun ls hl => ?_)
            refine lv_goto (tgt := 25) hx hb dX9_judge_86 (by decide) ?_
            exact hrec7 x20 σ19 hF H locs ls hP hD hS (lv_sub hl [1, 2, 3, 4, 5, 6, 7, 0] rfl)
  · refine lv_if_ge (tgt := 14) hx hb dX9_judge_1 (by decide) (fun c21 => ?_) (fun c21 => ?_)
    · have hF := brT hF c21
      refine lv_aload_n hx hb dX9_judge_14 rfl (lv_at hl 0 rfl) ?_
      refine wi_getr hx hb hg hown hK hP 6 9 25 rfl rfl cb_9 (by decide) kw_239 dX9_judge_15 ?_
      refine lv_iload_n hx hb dX9_judge_18 rfl (lv_at hl 1 rfl) ?_
      obtain ⟨hin, hF⟩ := hF
      refine wi_iald hx hb hK hP 25 rfl hin dX9_judge_19 (fun v22 ev22 => ?_)
      have hF := hF v22 ev22
      exact hJ1 v22 H locs ls hF hP hD hS (lv_sub hl [0, 1, 2, 3, 4, 5] rfl)
    · have hF := brF hF c21
      refine lv_aload_n hx hb dX9_judge_4 rfl (lv_at hl 0 rfl) ?_
      refine wi_getr hx hb hg hown hK hP 6 9 25 rfl rfl cb_9 (by decide) kw_239 dX9_judge_5 ?_
      refine lv_iload hx hb dX9_judge_8 (lv_at hl 5 rfl) ?_
      obtain ⟨hin, hF⟩ := hF
      refine wi_iald hx hb hK hP 25 rfl hin dX9_judge_10 (fun v23 ev23 => ?_)
      have hF := hF v23 ev23
      refine lv_goto (tgt := 20) hx hb dX9_judge_11 (by decide) ?_
      exact hJ1 v23 H locs ls hF hP hD hS (lv_sub hl [0, 1, 2, 3, 4, 5] rfl)
def w_X9_begin (σ : St) (post : St → Prop) : Prop := w_X9_forget σ (fun σ2 => w_X10_clear σ2 (fun σ4 => w_J7_fill_53178_31 σ4 (0 : Int32) (fun σ6 => w_J7_fill_53178_30 σ6 (-2 : Int32) (fun σ8 => nm (σ8.1 1 2) (fun x9 => w_X9_slotOf σ8 x9 (0 : Int64) (fun r10 => w_X9_addState σ8 r10 x9 (0 : Int64) (0 : Int32) (fun σ13 => w_X9_tell_29 σ13 (0 : Int32) (-2 : Int32) (0 : Int32) (0 : Int32) (0 : Int32) (0 : Int32) (fun σ15 => w_X9_judge σ15 (-2 : Int32) (0 : Int32) (0 : Int32) (0 : Int32) (0 : Int32) (fun σ17 => post σ17)))))))))
set_option maxHeartbeats 4000000 in
set_option maxRecDepth 100000 in
theorem c_X9_begin (l : Launch) (D : va_G) (cy : Nat → ClassId) (ad : Nat → Nat) (tL : Nat) (σ : St) (post : St → Prop) (hF : w_X9_begin σ post) : Ctv l yX9_begin cX9_begin 2 none 3 72 D cy ad tL dsC σ [.ref (ad 6)] post := by
  refine ctv_of (by decide) (Nat.le_of_ble_eq_true rfl) ?_
  intro p e s m args below meth c A hx hb hml hr hlk hg hown hA hK H locs hP hD hS hLB ls hl
  have hown : s.vm.findClass RX9 = some m.cls := hown
  have hl : lv_has ls 2 [(0, .ref (ad 6))] := hl
  refine lv_aload_n hx hb dX9_begin_0 rfl (lv_at hl 0 rfl) ?_
  refine wi_callVv (k := 6) (As := []) (c_X9_forget l D cy ad tL σ _ hF) vw_RX9_74 rfl cb_9 hx hb hml hown hg hK hP hD hS hA hLB rfl ⟨Nat.le_of_ble_eq_true rfl, Nat.le_of_ble_eq_true rfl⟩ hl.1 rfl (Nat.le_of_ble_eq_true rfl) dX9_begin_1 (fun σ2 hw H locs hP hD hS => ?_)
  have hF := hw
  refine lv_aload_n hx hb dX9_begin_4 rfl (lv_at hl 0 rfl) ?_
  refine wi_getr hx hb hg hown hK hP 6 4 7 rfl rfl cb_9 (by decide) kw_234 dX9_begin_5 ?_
  refine wi_callVv (k := 7) (As := []) (c_X10_clear l D cy ad tL σ2 _ hF) vw_RX9_77 rfl cb_10 hx hb hml hown hg hK hP hD hS hA hLB rfl ⟨Nat.le_of_ble_eq_true rfl, Nat.le_of_ble_eq_true rfl⟩ hl.1 rfl (Nat.le_of_ble_eq_true rfl) dX9_begin_8 (fun σ4 hw H locs hP hD hS => ?_)
  have hF := hw
  refine lv_aload_n hx hb dX9_begin_11 rfl (lv_at hl 0 rfl) ?_
  refine wi_getr hx hb hg hown hK hP 6 15 31 rfl rfl cb_9 (by decide) kw_245 dX9_begin_12 ?_
  refine lv_iconst (v := (0 : Int32)) hx hb dX9_begin_15 (by decide) ?_
  refine wi_callSv (As := [.ref (ad 31), .int (0 : Int32)]) (c_J7_fill_53178_31 l D cy ad tL σ4 (0 : Int32) _ hF) sw_RX9_80 hx hb hml hown hg hK hP hD hS hA hLB rfl ⟨Nat.le_of_ble_eq_true rfl, Nat.le_of_ble_eq_true rfl⟩ hl.1 rfl (Nat.le_of_ble_eq_true rfl) dX9_begin_16 (fun σ6 hw H locs hP hD hS => ?_)
  have hF := hw
  refine lv_aload_n hx hb dX9_begin_19 rfl (lv_at hl 0 rfl) ?_
  refine wi_getr hx hb hg hown hK hP 6 14 30 rfl rfl cb_9 (by decide) kw_244 dX9_begin_20 ?_
  refine lv_bipush (v := (-2 : Int32)) hx hb dX9_begin_23 (by decide) ?_
  refine wi_callSv (As := [.ref (ad 30), .int (-2 : Int32)]) (c_J7_fill_53178_30 l D cy ad tL σ6 (-2 : Int32) _ hF) sw_RX9_80 hx hb hml hown hg hK hP hD hS hA hLB rfl ⟨Nat.le_of_ble_eq_true rfl, Nat.le_of_ble_eq_true rfl⟩ hl.1 rfl (Nat.le_of_ble_eq_true rfl) dX9_begin_25 (fun σ8 hw H locs hP hD hS => ?_)
  have hF := hw
  refine lv_aload_n hx hb dX9_begin_28 rfl (lv_at hl 0 rfl) ?_
  refine wi_getr hx hb hg hown hK hP 6 0 1 rfl rfl cb_9 (by decide) kw_247 dX9_begin_29 ?_
  refine wi_geti hx hb hg hown hK hP 1 2 rfl rfl cb_4 (by decide) kw_279 dX9_begin_32 ?_
  refine lv_topi (fun x9 ex9 => ?_)
  have hF := hF x9 ex9
  refine lv_istore_n (lv' := [(1, .int x9), (0, .ref (ad 6))]) hx hb dX9_begin_35 rfl hl (by decide) rfl (fun ls hl => ?_)
  refine lv_aload_n hx hb dX9_begin_36 rfl (lv_at hl 1 rfl) ?_
  refine lv_aload_n hx hb dX9_begin_37 rfl (lv_at hl 1 rfl) ?_
  refine lv_iload_n hx hb dX9_begin_38 rfl (lv_at hl 0 rfl) ?_
  refine lv_lconst (v := (0 : Int64)) hx hb dX9_begin_39 (by decide) ?_
  refine wi_callVi (k := 6) (As := [.int x9, .long (0 : Int64)]) (c_X9_slotOf l D cy ad tL σ8 x9 (0 : Int64) _ hF) vw_RX9_91 rfl cb_9 hx hb hml hown hg hK hP hD hS hA hLB rfl ⟨Nat.le_of_ble_eq_true rfl, Nat.le_of_ble_eq_true rfl⟩ hl.1 rfl (Nat.le_of_ble_eq_true rfl) dX9_begin_40 (fun r10 σ11 hw H locs hP hD hS => ?_)
  obtain ⟨hF, rfl⟩ := hw
  refine lv_iload_n hx hb dX9_begin_43 rfl (lv_at hl 0 rfl) ?_
  refine lv_lconst (v := (0 : Int64)) hx hb dX9_begin_44 (by decide) ?_
  refine lv_iconst (v := (0 : Int32)) hx hb dX9_begin_45 (by decide) ?_
  refine wi_callVv (k := 6) (As := [.int r10, .int x9, .long (0 : Int64), .int (0 : Int32)]) (c_X9_addState l D cy ad tL σ8 r10 x9 (0 : Int64) (0 : Int32) _ hF) vw_RX9_95 rfl cb_9 hx hb hml hown hg hK hP hD hS hA hLB rfl ⟨Nat.le_of_ble_eq_true rfl, Nat.le_of_ble_eq_true rfl⟩ hl.1 rfl (Nat.le_of_ble_eq_true rfl) dX9_begin_46 (fun σ13 hw H locs hP hD hS => ?_)
  have hF := hw
  refine lv_aload_n hx hb dX9_begin_49 rfl (lv_at hl 1 rfl) ?_
  refine wi_getr hx hb hg hown hK hP 6 13 29 rfl rfl cb_9 (by decide) kw_243 dX9_begin_50 ?_
  refine lv_iconst (v := (0 : Int32)) hx hb dX9_begin_53 (by decide) ?_
  refine lv_bipush (v := (-2 : Int32)) hx hb dX9_begin_54 (by decide) ?_
  refine lv_iconst (v := (0 : Int32)) hx hb dX9_begin_56 (by decide) ?_
  refine lv_iconst (v := (0 : Int32)) hx hb dX9_begin_57 (by decide) ?_
  refine lv_iconst (v := (0 : Int32)) hx hb dX9_begin_58 (by decide) ?_
  refine lv_iconst (v := (0 : Int32)) hx hb dX9_begin_59 (by decide) ?_
  refine wi_callSv (As := [.ref (ad 29), .int (0 : Int32), .int (-2 : Int32), .int (0 : Int32), .int (0 : Int32), .int (0 : Int32), .int (0 : Int32)]) (c_X9_tell_29 l D cy ad tL σ13 (0 : Int32) (-2 : Int32) (0 : Int32) (0 : Int32) (0 : Int32) (0 : Int32) _ hF) sw_RX9_99 hx hb hml hown hg hK hP hD hS hA hLB rfl ⟨Nat.le_of_ble_eq_true rfl, Nat.le_of_ble_eq_true rfl⟩ hl.1 rfl (Nat.le_of_ble_eq_true rfl) dX9_begin_60 (fun σ15 hw H locs hP hD hS => ?_)
  have hF := hw
  refine lv_aload_n hx hb dX9_begin_63 rfl (lv_at hl 1 rfl) ?_
  refine lv_bipush (v := (-2 : Int32)) hx hb dX9_begin_64 (by decide) ?_
  refine lv_iconst (v := (0 : Int32)) hx hb dX9_begin_66 (by decide) ?_
  refine lv_iconst (v := (0 : Int32)) hx hb dX9_begin_67 (by decide) ?_
  refine lv_iconst (v := (0 : Int32)) hx hb dX9_begin_68 (by decide) ?_
  refine lv_iconst (v := (0 : Int32)) hx hb dX9_begin_69 (by decide) ?_
  refine wi_callVv (k := 6) (As := [.int (-2 : Int32), .int (0 : Int32), .int (0 : Int32), .int (0 : Int32), .int (0 : Int32)]) (c_X9_judge l D cy ad tL σ15 (-2 : Int32) (0 : Int32) (0 : Int32) (0 : Int32) (0 : Int32) _ hF) vw_RX9_103 rfl cb_9 hx hb hml hown hg hK hP hD hS hA hLB rfl ⟨Nat.le_of_ble_eq_true rfl, Nat.le_of_ble_eq_true rfl⟩ hl.1 rfl (Nat.le_of_ble_eq_true rfl) dX9_begin_70 (fun σ17 hw H locs hP hD hS => ?_)
  have hF := hw
  exact wi_vret hx hb hr hlk hK hP hD hS dX9_begin_73 hF
def w_X9_goesOn (σ : St) (a1 : Int32) (post : Int32 → Prop) : Prop := br ((σ.1 6 5) ≤ a1) (post (0 : Int32)) (br ((σ.1 6 8) = (0 : Int32)) (post (1 : Int32)) (post (0 : Int32)))
set_option maxHeartbeats 4000000 in
set_option maxRecDepth 100000 in
theorem c_X9_goesOn (l : Launch) (D : va_G) (cy : Nat → ClassId) (ad : Nat → Nat) (tL : Nat) (σ : St) (a1 : Int32) (post : Int32 → Prop) (hF : w_X9_goesOn σ a1 post) : Cti l yX9_goesOn cX9_goesOn 2 (some .boolean) 0 0 D cy ad tL dsC σ [.ref (ad 6), .int a1] (fun r u => post r ∧ σ = u) := by
  refine cti_of (by decide) (Nat.le_of_ble_eq_true rfl) ?_
  intro p e s m args below meth c A hx hb hml hr hlk hg hown hA hK H locs hP hD hS hLB ls hl
  have hown : s.vm.findClass RX9 = some m.cls := hown
  have hl : lv_has ls 2 [(0, .ref (ad 6)), (1, .int a1)] := hl
  refine lv_iload_n hx hb dX9_goesOn_0 rfl (lv_at hl 1 rfl) ?_
  refine lv_aload_n hx hb dX9_goesOn_1 rfl (lv_at hl 0 rfl) ?_
  refine wi_geti hx hb hg hown hK hP 6 5 rfl rfl cb_9 (by decide) kw_235 dX9_goesOn_2 ?_
  refine lv_icmp_ge (tgt := 19) hx hb dX9_goesOn_5 (by decide) (fun c1 => ?_) (fun c1 => ?_)
  · have hF := brT hF c1
    refine lv_iconst (v := (0 : Int32)) hx hb dX9_goesOn_19 (by decide) ?_
    exact wi_zret hx hb hr hlk hK hP hD hS dX9_goesOn_20 (by decide) ⟨hF, rfl⟩
  · have hF := brF hF c1
    refine lv_aload_n hx hb dX9_goesOn_8 rfl (lv_at hl 0 rfl) ?_
    refine wi_geti hx hb hg hown hK hP 6 8 rfl rfl cb_9 (by decide) kw_238 dX9_goesOn_9 ?_
    refine lv_if_ne (tgt := 19) hx hb dX9_goesOn_12 (by decide) (fun c2 => ?_) (fun c2 => ?_)
    · have hF := brF hF c2
      refine lv_iconst (v := (0 : Int32)) hx hb dX9_goesOn_19 (by decide) ?_
      exact wi_zret hx hb hr hlk hK hP hD hS dX9_goesOn_20 (by decide) ⟨hF, rfl⟩
    · have hF := brT hF c2
      refine lv_iconst (v := (1 : Int32)) hx hb dX9_goesOn_15 (by decide) ?_
      refine lv_goto (tgt := 20) hx hb dX9_goesOn_16 (by decide) ?_
      exact wi_zret hx hb hr hlk hK hP hD hS dX9_goesOn_20 (by decide) ⟨hF, rfl⟩
def w_X9_lead_L49 (v1 : Int32) (J5 : St → Prop) (rec9 : Int32 → St → Prop) (y7 : Int32) (σ8 : St) : Prop := br (v1 ≤ y7) (J5 σ8) (rd (σ8.1 32) 60 y7 (fun v11 => nm (v11 * (5 : Int32)) (fun x12 => rd (σ8.1 29) 1250 (x12 + (1 : Int32)) (fun v13 => rd (σ8.1 29) 1250 (x12 + (2 : Int32)) (fun v14 => rd (σ8.1 29) 1250 (x12 + (3 : Int32)) (fun v15 => w_X7_go σ8 v13 v14 v15 (fun r16 σ17 => nm (y7 + (1 : Int32)) (fun x18 => rec9 x18 σ17))))))))
def w_X9_lead_L15 (J3 : St → Prop) (rec22 : Int32 → Int32 → St → Prop) (y19 : Int32) (y20 : Int32) (σ21 : St) : Prop := br (y20 < (0 : Int32)) (J3 σ21) (ck y20 60 (nm (upI σ21 32 (y20).toNatClampNeg y19) (fun σ24 => rd (σ24.1 29) 1250 (y19 * (5 : Int32)) (fun v25 => nm (y20 + (-1 : Int32)) (fun x26 => rec22 v25 x26 σ24)))))
def w_X9_lead (σ : St) (a1 : Int32) (post : St → Prop) : Prop := rd (σ.1 27) 250 a1 (fun v1 => nm (v1 - (1 : Int32)) (fun x2 => jn (α := St → Prop) (fun (σ4 : St) => jn (α := St → Prop) (fun (σ6 : St) => post σ6) (fun J5 => lpE2 (w_X9_lead_L49 v1 J5) (0 : Int32) σ4)) (fun J3 => lpE3 (w_X9_lead_L15 J3) a1 x2 σ)))
set_option maxHeartbeats 4000000 in
set_option maxRecDepth 100000 in
theorem c_X9_lead (l : Launch) (D : va_G) (cy : Nat → ClassId) (ad : Nat → Nat) (tL : Nat) (σ : St) (a1 : Int32) (post : St → Prop) (hF : w_X9_lead σ a1 post) : Ctv l yX9_lead cX9_lead 7 none 4 106 D cy ad tL dsC σ [.ref (ad 6), .int a1, .ref (ad 5)] post := by
  refine ctv_of (by decide) (Nat.le_of_ble_eq_true rfl) ?_
  intro p e s m args below meth c A hx hb hml hr hlk hg hown hA hK H locs hP hD hS hLB ls hl
  have hown : s.vm.findClass RX9 = some m.cls := hown
  have hl : lv_has ls 7 [(0, .ref (ad 6)), (1, .int a1), (2, .ref (ad 5))] := hl
  refine lv_aload_n hx hb dX9_lead_0 rfl (lv_at hl 0 rfl) ?_
  refine wi_getr hx hb hg hown hK hP 6 11 27 rfl rfl cb_9 (by decide) kw_241 dX9_lead_1 ?_
  refine lv_iload_n hx hb dX9_lead_4 rfl (lv_at hl 1 rfl) ?_
  obtain ⟨hin, hF⟩ := hF
  refine wi_iald hx hb hK hP 27 rfl hin dX9_lead_5 (fun v1 ev1 => ?_)
  have hF := hF v1 ev1
  refine lv_istore_n (lv' := [(3, .int v1), (0, .ref (ad 6)), (1, .int a1), (2, .ref (ad 5))]) hx hb dX9_lead_6 rfl hl (by decide) rfl (fun ls hl => ?_)
  refine lv_iload_n hx hb dX9_lead_7 rfl (lv_at hl 2 rfl) ?_
  refine lv_istore (lv' := [(4, .int a1), (3, .int v1), (0, .ref (ad 6)), (1, .int a1), (2, .ref (ad 5))]) hx hb dX9_lead_8 hl (by decide) rfl (fun ls hl => ?_)
  refine lv_iload_n hx hb dX9_lead_10 rfl (lv_at hl 1 rfl) ?_
  refine lv_iconst (v := (1 : Int32)) hx hb dX9_lead_11 (by decide) ?_
  refine lv_isub hx hb dX9_lead_12 ?_
  refine lv_topi (fun x2 ex2 => ?_)
  have hF := hF x2 ex2
  refine lv_istore (lv' := [(5, .int x2), (4, .int a1), (3, .int v1), (0, .ref (ad 6)), (1, .int a1), (2, .ref (ad 5))]) hx hb dX9_lead_13 hl (by decide) rfl (fun ls hl => ?_)
  refine jn_use hF (fun K => ∀ (σ4 : St) (H : Heap) (locs : List Loc) (ls : Array Slot), K σ4 → va_P D vwCl (wld cy ad dsC σ4) H → va_D A (wld cy ad dsC σ4) → va_S A s.heap H locs → lv_has ls 7 [(0, .ref (ad 6)), (2, .ref (ad 5)), (3, .int v1)] → W p l e (rmO 4 106) s m args below meth c H locs 0 0 (MQ below (va_Qv post (cBk D cy ad dsC A) A) args s 0 0 A) (F0 m 46 ls [])) (fun σ4 H locs ls hF hP hD hS hl => ?_) (fun J3 hJ3 hF => ?_)
  · refine lv_iconst (v := (0 : Int32)) hx hb dX9_lead_46 (by decide) ?_
    refine lv_istore (lv' := [(5, .int (0 : Int32)), (0, .ref (ad 6)), (2, .ref (ad 5)), (3, .int v1)]) hx hb dX9_lead_47 hl (by decide) rfl (fun ls hl => ?_)
    refine jn_use hF (fun K => ∀ (σ6 : St) (H : Heap) (locs : List Loc) (ls : Array Slot), K σ6 → va_P D vwCl (wld cy ad dsC σ6) H → va_D A (wld cy ad dsC σ6) → va_S A s.heap H locs → lv_has ls 7 [] → W p l e (rmO 4 106) s m args below meth c H locs 0 0 (MQ below (va_Qv post (cBk D cy ad dsC A) A) args s 0 0 A) (F0 m 104 ls [])) (fun σ6 H locs ls hF hP hD hS hl => ?_) (fun J5 hJ5 hF => ?_)
    · exact wi_vret hx hb hr hlk hK hP hD hS dX9_lead_104 hF
    · refine lpE2_use hF (fun (y7 : Int32) (σ8 : St) => ∀ (H : Heap) (locs : List Loc) (ls : Array Slot), va_P D vwCl (wld cy ad dsC σ8) H → va_D A (wld cy ad dsC σ8) → va_S A s.heap H locs → lv_has ls 7 [(0, .ref (ad 6)), (2, .ref (ad 5)), (3, .int v1), (5, .int y7)] → W p l e (rmO 4 106) s m args below meth c H locs 0 0 (MQ below (va_Qv post (cBk D cy ad dsC A) A) args s 0 0 A) (F0 m 49 ls [])) (fun rec9 hrec9 y7 σ8 hF H locs ls hP hD hS hl => ?_) H locs ls hP hD hS (lv_sub hl [1, 2, 3, 0] rfl)
      refine lv_iload hx hb dX9_lead_49 (lv_at hl 3 rfl) ?_
      refine lv_iload_n hx hb dX9_lead_51 rfl (lv_at hl 2 rfl) ?_
      refine lv_icmp_ge (tgt := 104) hx hb dX9_lead_52 (by decide) (fun c10 => ?_) (fun c10 => ?_)
      · have hF := brT hF c10
        exact hJ5 σ8 H locs ls hF hP hD hS (lv_sub hl [] rfl)
      · have hF := brF hF c10
        refine lv_aload_n hx hb dX9_lead_55 rfl (lv_at hl 0 rfl) ?_
        refine wi_getr hx hb hg hown hK hP 6 16 32 rfl rfl cb_9 (by decide) kw_246 dX9_lead_56 ?_
        refine lv_iload hx hb dX9_lead_59 (lv_at hl 3 rfl) ?_
        obtain ⟨hin, hF⟩ := hF
        refine wi_iald hx hb hK hP 32 rfl hin dX9_lead_61 (fun v11 ev11 => ?_)
        have hF := hF v11 ev11
        refine lv_iconst (v := (5 : Int32)) hx hb dX9_lead_62 (by decide) ?_
        refine lv_imul hx hb dX9_lead_63 ?_
        refine lv_topi (fun x12 ex12 => ?_)
        have hF := hF x12 ex12
        refine lv_istore (lv' := [(6, .int x12), (0, .ref (ad 6)), (2, .ref (ad 5)), (3, .int v1), (5, .int y7)]) hx hb dX9_lead_64 hl (by decide) rfl (fun ls hl => ?_)
        refine lv_aload_n hx hb dX9_lead_66 rfl (lv_at hl 2 rfl) ?_
        refine lv_aload_n hx hb dX9_lead_67 rfl (lv_at hl 1 rfl) ?_
        refine wi_getr hx hb hg hown hK hP 6 13 29 rfl rfl cb_9 (by decide) kw_243 dX9_lead_68 ?_
        refine lv_iload hx hb dX9_lead_71 (lv_at hl 0 rfl) ?_
        refine lv_iconst (v := (1 : Int32)) hx hb dX9_lead_73 (by decide) ?_
        refine lv_iadd hx hb dX9_lead_74 ?_
        obtain ⟨hin, hF⟩ := hF
        refine wi_iald hx hb hK hP 29 rfl hin dX9_lead_75 (fun v13 ev13 => ?_)
        have hF := hF v13 ev13
        refine lv_aload_n hx hb dX9_lead_76 rfl (lv_at hl 1 rfl) ?_
        refine wi_getr hx hb hg hown hK hP 6 13 29 rfl rfl cb_9 (by decide) kw_243 dX9_lead_77 ?_
        refine lv_iload hx hb dX9_lead_80 (lv_at hl 0 rfl) ?_
        refine lv_iconst (v := (2 : Int32)) hx hb dX9_lead_82 (by decide) ?_
        refine lv_iadd hx hb dX9_lead_83 ?_
        obtain ⟨hin, hF⟩ := hF
        refine wi_iald hx hb hK hP 29 rfl hin dX9_lead_84 (fun v14 ev14 => ?_)
        have hF := hF v14 ev14
        refine lv_aload_n hx hb dX9_lead_85 rfl (lv_at hl 1 rfl) ?_
        refine wi_getr hx hb hg hown hK hP 6 13 29 rfl rfl cb_9 (by decide) kw_243 dX9_lead_86 ?_
        refine lv_iload hx hb dX9_lead_89 (lv_at hl 0 rfl) ?_
        refine lv_iconst (v := (3 : Int32)) hx hb dX9_lead_91 (by decide) ?_
        refine lv_iadd hx hb dX9_lead_92 ?_
        obtain ⟨hin, hF⟩ := hF
        refine wi_iald hx hb hK hP 29 rfl hin dX9_lead_93 (fun v15 ev15 => ?_)
        have hF := hF v15 ev15
        refine wi_callVi (k := 5) (As := [.int v13, .int v14, .int v15]) (c_X7_go l D cy ad tL σ8 v13 v14 v15 _ hF) vw_RX9_107 rfl cb_7 hx hb hml hown hg hK hP hD hS hA hLB rfl ⟨Nat.le_of_ble_eq_true rfl, Nat.le_of_ble_eq_true rfl⟩ hl.1 rfl (Nat.le_of_ble_eq_true rfl) dX9_lead_94 (fun r16 σ17 hw H locs hP hD hS => ?_)
        have hF := hw
        refine lv_pop hx hb dX9_lead_97 rfl ?_
        obtain ⟨x18, ex18⟩ : ∃ z : Int32, z = (y7 + (1 : Int32)) := ⟨_, rfl⟩
        have hF := hF x18 ex18
        refine lv_iinc (v := x18) (lv' := [(5, .int x18), (6, .int x12), (0, .ref (ad 6)), (2, .ref (ad 5)), (3, .int v1)]) hx hb dX9_lead_98 hl (k := 4) rfl (by rw [ex18]; rfl) (by decide) rfl (fun ls hl => ?_)
        refine lv_goto (tgt := 49) hx hb dX9_lead_101 (by decide) ?_
        exact hrec9 x18 σ17 hF H locs ls hP hD hS (lv_sub hl [2, 3, 4, 0] rfl)
  · refine lpE3_use hF (fun (y19 : Int32) (y20 : Int32) (σ21 : St) => ∀ (H : Heap) (locs : List Loc) (ls : Array Slot), va_P D vwCl (wld cy ad dsC σ21) H → va_D A (wld cy ad dsC σ21) → va_S A s.heap H locs → lv_has ls 7 [(0, .ref (ad 6)), (2, .ref (ad 5)), (3, .int v1), (4, .int y19), (5, .int y20)] → W p l e (rmO 4 106) s m args below meth c H locs 0 0 (MQ below (va_Qv post (cBk D cy ad dsC A) A) args s 0 0 A) (F0 m 15 ls [])) (fun rec22 hrec22 y19 y20 σ21 hF H locs ls hP hD hS hl => ?_) H locs ls hP hD hS (lv_sub hl [3, 5, 2, 1, 0] rfl)
    refine lv_iload hx hb dX9_lead_15 (lv_at hl 4 rfl) ?_
    refine lv_if_lt (tgt := 46) hx hb dX9_lead_17 (by decide) (fun c23 => ?_) (fun c23 => ?_)
    · have hF := brT hF c23
      exact hJ3 σ21 H locs ls hF hP hD hS (lv_sub hl [0, 1, 2] rfl)
    · have hF := brF hF c23
      refine lv_aload_n hx hb dX9_lead_20 rfl (lv_at hl 0 rfl) ?_
      refine wi_getr hx hb hg hown hK hP 6 16 32 rfl rfl cb_9 (by decide) kw_246 dX9_lead_21 ?_
      refine lv_iload hx hb dX9_lead_24 (lv_at hl 4 rfl) ?_
      refine lv_iload hx hb dX9_lead_26 (lv_at hl 3 rfl) ?_
      obtain ⟨hin, hF⟩ := hF
      refine wi_iast hx hb hK hP hD hS 32 rfl hin dX9_lead_28 (fun σ24 eσ24 H locs hP hD hS => ?_)
      have hF := hF σ24 eσ24
      refine lv_aload_n hx hb dX9_lead_29 rfl (lv_at hl 0 rfl) ?_
      refine wi_getr hx hb hg hown hK hP 6 13 29 rfl rfl cb_9 (by decide) kw_243 dX9_lead_30 ?_
      refine lv_iload hx hb dX9_lead_33 (lv_at hl 3 rfl) ?_
      refine lv_iconst (v := (5 : Int32)) hx hb dX9_lead_35 (by decide) ?_
      refine lv_imul hx hb dX9_lead_36 ?_
      obtain ⟨hin, hF⟩ := hF
      refine wi_iald hx hb hK hP 29 rfl hin dX9_lead_37 (fun v25 ev25 => ?_)
      have hF := hF v25 ev25
      refine lv_istore (lv' := [(4, .int v25), (0, .ref (ad 6)), (2, .ref (ad 5)), (3, .int v1), (5, .int y20)]) hx hb dX9_lead_38 hl (by decide) rfl (fun ls hl => ?_)
      obtain ⟨x26, ex26⟩ : ∃ z : Int32, z = (y20 + (-1 : Int32)) := ⟨_, rfl⟩
      have hF := hF x26 ex26
      refine lv_iinc (v := x26) (lv' := [(5, .int x26), (4, .int v25), (0, .ref (ad 6)), (2, .ref (ad 5)), (3, .int v1)]) hx hb dX9_lead_40 hl (k := 4) rfl (by rw [ex26]; rfl) (by decide) rfl (fun ls hl => ?_)
      refine lv_goto (tgt := 15) hx hb dX9_lead_43 (by decide) ?_
      exact hrec22 v25 x26 σ24 hF H locs ls hP hD hS (lv_sub hl [2, 3, 4, 1, 0] rfl)
def w_X10_close (σ : St) (a1 : Int32) (a2 : Int32) (post : St → Prop) : Prop := ck a1 250 (nm (upI σ 34 (a1).toNatClampNeg a2) (fun σ1 => post σ1))
set_option maxHeartbeats 4000000 in
set_option maxRecDepth 100000 in
theorem c_X10_close (l : Launch) (D : va_G) (cy : Nat → ClassId) (ad : Nat → Nat) (tL : Nat) (σ : St) (a1 : Int32) (a2 : Int32) (post : St → Prop) (hF : w_X10_close σ a1 a2 post) : Ctv l yX10_close cX10_close 3 none 0 0 D cy ad tL dsC σ [.ref (ad 7), .int a1, .int a2] post := by
  refine ctv_of (by decide) (Nat.le_of_ble_eq_true rfl) ?_
  intro p e s m args below meth c A hx hb hml hr hlk hg hown hA hK H locs hP hD hS hLB ls hl
  have hown : s.vm.findClass RX10 = some m.cls := hown
  have hl : lv_has ls 3 [(0, .ref (ad 7)), (1, .int a1), (2, .int a2)] := hl
  refine lv_aload_n hx hb dX10_close_0 rfl (lv_at hl 0 rfl) ?_
  refine wi_getr hx hb hg hown hK hP 7 1 34 rfl rfl cb_10 (by decide) kw_225 dX10_close_1 ?_
  refine lv_iload_n hx hb dX10_close_4 rfl (lv_at hl 1 rfl) ?_
  refine lv_iload_n hx hb dX10_close_5 rfl (lv_at hl 2 rfl) ?_
  obtain ⟨hin, hF⟩ := hF
  refine wi_iast hx hb hK hP hD hS 34 rfl hin dX10_close_6 (fun σ1 eσ1 H locs hP hD hS => ?_)
  have hF := hF σ1 eσ1
  exact wi_vret hx hb hr hlk hK hP hD hS dX10_close_7 hF
def w_X10_add (σ : St) (a1 : Int32) (a2 : Int32) (a3 : Int32) (post : St → Prop) : Prop := rd (σ.2 33) 4000 (a1 / (5 : Int32)) (fun v1 => ck (a1 / (5 : Int32)) 4000 (nm (upJ σ 33 ((a1 / (5 : Int32))).toNatClampNeg (v1 ||| (((((a2 <<< ((4 : Int32) &&& 31)) ||| a3) : Int32).toInt64) <<< ((((a1 - a1 / (5 : Int32) * (5 : Int32)) * (12 : Int32)) : Int32).toInt64 &&& 63)))) (fun σ2 => post σ2)))
set_option maxHeartbeats 4000000 in
set_option maxRecDepth 100000 in
theorem c_X10_add (l : Launch) (D : va_G) (cy : Nat → ClassId) (ad : Nat → Nat) (tL : Nat) (σ : St) (a1 : Int32) (a2 : Int32) (a3 : Int32) (post : St → Prop) (hF : w_X10_add σ a1 a2 a3 post) : Ctv l yX10_add cX10_add 4 none 0 0 D cy ad tL dsC σ [.ref (ad 7), .int a1, .int a2, .int a3] post := by
  refine ctv_of (by decide) (Nat.le_of_ble_eq_true rfl) ?_
  intro p e s m args below meth c A hx hb hml hr hlk hg hown hA hK H locs hP hD hS hLB ls hl
  have hown : s.vm.findClass RX10 = some m.cls := hown
  have hl : lv_has ls 4 [(0, .ref (ad 7)), (1, .int a1), (2, .int a2), (3, .int a3)] := hl
  refine lv_aload_n hx hb dX10_add_0 rfl (lv_at hl 0 rfl) ?_
  refine wi_getr hx hb hg hown hK hP 7 0 33 rfl rfl cb_10 (by decide) kw_224 dX10_add_1 ?_
  refine lv_iload_n hx hb dX10_add_4 rfl (lv_at hl 1 rfl) ?_
  refine lv_iconst (v := (5 : Int32)) hx hb dX10_add_5 (by decide) ?_
  refine lv_idiv hx hb dX10_add_6 (by decide) ?_
  refine lv_dup2_11 hx hb dX10_add_7 rfl rfl ?_
  obtain ⟨hin, hF⟩ := hF
  refine wi_lald hx hb hK hP 33 rfl hin dX10_add_8 (fun v1 ev1 => ?_)
  have hF := hF v1 ev1
  refine lv_iload_n hx hb dX10_add_9 rfl (lv_at hl 2 rfl) ?_
  refine lv_iconst (v := (4 : Int32)) hx hb dX10_add_10 (by decide) ?_
  refine lv_ishl hx hb dX10_add_11 ?_
  refine lv_iload_n hx hb dX10_add_12 rfl (lv_at hl 3 rfl) ?_
  refine lv_ior hx hb dX10_add_13 ?_
  refine lv_i2l hx hb dX10_add_14 rfl ?_
  refine lv_iload_n hx hb dX10_add_15 rfl (lv_at hl 1 rfl) ?_
  refine lv_iconst (v := (5 : Int32)) hx hb dX10_add_16 (by decide) ?_
  refine lv_irem hx hb dX10_add_17 (by decide) ?_
  refine lv_bipush (v := (12 : Int32)) hx hb dX10_add_18 (by decide) ?_
  refine lv_imul hx hb dX10_add_20 ?_
  refine lv_lshl hx hb dX10_add_21 rfl ?_
  refine lv_lor hx hb dX10_add_22 ?_
  obtain ⟨hin, hF⟩ := hF
  refine wi_last hx hb hK hP hD hS 33 rfl hin dX10_add_23 (fun σ2 eσ2 H locs hP hD hS => ?_)
  have hF := hF σ2 eσ2
  exact wi_vret hx hb hr hlk hK hP hD hS dX10_add_24 hF
def w_X9_arrive (σ : St) (a1 : Int32) (a2 : Int32) (a3 : Int32) (a4 : Int32) (a5 : Int64) (post : St → Prop) : Prop := w_X8_behind σ a4 (fun r1 => w_X9_slotOf σ r1 a5 (fun r3 => rd (σ.1 31) 512 r3 (fun v5 => jn (α := Int32 → Prop) (fun (y7 : Int32) => jn (α := Prop) (nm (upI σ 6 8 (1 : Int32)) (fun σ9 => post σ9)) (fun J8 => br ((20000 : Int32) ≤ (σ.1 6 7)) (J8) (jn (α := Prop) (jn (α := St → Prop) (fun (σ13 : St) => rd (σ13.1 31) 512 r3 (fun v14 => nm (v14 - (1 : Int32)) (fun x15 => w_J6_bitCount_0f7a4 a4 (fun r16 => w_X10_add σ13 (σ13.1 6 7) x15 r16 (fun σ19 => nm (upI σ19 6 7 ((σ19.1 6 7) + (1 : Int32))) (fun σ20 => w_X9_judge σ20 a1 a2 a3 a4 x15 (fun σ22 => post σ22))))))) (fun J12 => br (y7 = (0 : Int32)) (J12 σ) (w_X9_tell_29 σ (σ.1 6 5) a1 a2 a3 a4 (σ.1 6 5) (fun σ25 => rd (σ25.1 27) 250 a1 (fun v26 => w_X9_addState σ25 r3 r1 a5 (v26 + (1 : Int32)) (fun σ28 => J12 σ28)))))) (fun J11 => br (y7 = (0 : Int32)) (J11) (br ((σ.1 6 5) < (250 : Int32)) (J11) (J8)))))) (fun J6 => br (v5 = (0 : Int32)) (J6 (1 : Int32)) (J6 (0 : Int32))))))
set_option maxHeartbeats 4000000 in
set_option maxRecDepth 100000 in
theorem c_X9_arrive (l : Launch) (D : va_G) (cy : Nat → ClassId) (ad : Nat → Nat) (tL : Nat) (σ : St) (a1 : Int32) (a2 : Int32) (a3 : Int32) (a4 : Int32) (a5 : Int64) (post : St → Prop) (hF : w_X9_arrive σ a1 a2 a3 a4 a5 post) : Ctv l yX9_arrive cX9_arrive 11 none 3 72 D cy ad tL dsC σ [.ref (ad 6), .int a1, .int a2, .int a3, .int a4, .long a5] post := by
  refine ctv_of (by decide) (Nat.le_of_ble_eq_true rfl) ?_
  intro p e s m args below meth c A hx hb hml hr hlk hg hown hA hK H locs hP hD hS hLB ls hl
  have hown : s.vm.findClass RX9 = some m.cls := hown
  have hl : lv_has ls 11 [(0, .ref (ad 6)), (1, .int a1), (2, .int a2), (3, .int a3), (4, .int a4), (5, .long a5)] := hl
  refine lv_aload_n hx hb dX9_arrive_0 rfl (lv_at hl 0 rfl) ?_
  refine wi_getr hx hb hg hown hK hP 6 3 4 rfl rfl cb_9 (by decide) kw_250 dX9_arrive_1 ?_
  refine lv_iload hx hb dX9_arrive_4 (lv_at hl 4 rfl) ?_
  refine wi_callVi (k := 4) (As := [.int a4]) (c_X8_behind l D cy ad tL σ a4 _ hF) vw_RX9_158 rfl cb_8 hx hb hml hown hg hK hP hD hS hA hLB rfl ⟨Nat.le_of_ble_eq_true rfl, Nat.le_of_ble_eq_true rfl⟩ hl.1 rfl (Nat.le_of_ble_eq_true rfl) dX9_arrive_6 (fun r1 σ2 hw H locs hP hD hS => ?_)
  obtain ⟨hF, rfl⟩ := hw
  refine lv_istore (lv' := [(7, .int r1), (0, .ref (ad 6)), (1, .int a1), (2, .int a2), (3, .int a3), (4, .int a4), (5, .long a5)]) hx hb dX9_arrive_9 hl (by decide) rfl (fun ls hl => ?_)
  refine lv_aload_n hx hb dX9_arrive_11 rfl (lv_at hl 1 rfl) ?_
  refine lv_iload hx hb dX9_arrive_12 (lv_at hl 0 rfl) ?_
  refine lv_lload hx hb dX9_arrive_14 (lv_at hl 6 rfl) ?_
  refine wi_callVi (k := 6) (As := [.int r1, .long a5]) (c_X9_slotOf l D cy ad tL σ r1 a5 _ hF) vw_RX9_91 rfl cb_9 hx hb hml hown hg hK hP hD hS hA hLB rfl ⟨Nat.le_of_ble_eq_true rfl, Nat.le_of_ble_eq_true rfl⟩ hl.1 rfl (Nat.le_of_ble_eq_true rfl) dX9_arrive_16 (fun r3 σ4 hw H locs hP hD hS => ?_)
  obtain ⟨hF, rfl⟩ := hw
  refine lv_istore (lv' := [(8, .int r3), (7, .int r1), (0, .ref (ad 6)), (1, .int a1), (2, .int a2), (3, .int a3), (4, .int a4), (5, .long a5)]) hx hb dX9_arrive_19 hl (by decide) rfl (fun ls hl => ?_)
  refine lv_aload_n hx hb dX9_arrive_21 rfl (lv_at hl 2 rfl) ?_
  refine wi_getr hx hb hg hown hK hP 6 15 31 rfl rfl cb_9 (by decide) kw_245 dX9_arrive_22 ?_
  refine lv_iload hx hb dX9_arrive_25 (lv_at hl 0 rfl) ?_
  obtain ⟨hin, hF⟩ := hF
  refine wi_iald hx hb hK hP 31 rfl hin dX9_arrive_27 (fun v5 ev5 => ?_)
  have hF := hF v5 ev5
  refine jn_use hF (fun K => ∀ (y7 : Int32) (H : Heap) (locs : List Loc) (ls : Array Slot), K y7 → va_P D vwCl (wld cy ad dsC σ) H → va_D A (wld cy ad dsC σ) → va_S A s.heap H locs → lv_has ls 11 [(0, .ref (ad 6)), (1, .int a1), (2, .int a2), (3, .int a3), (4, .int a4), (5, .long a5), (7, .int r1), (8, .int r3)] → W p l e (rmO 3 72) s m args below meth c H locs 0 0 (MQ below (va_Qv post (cBk D cy ad dsC A) A) args s 0 0 A) (F0 m 36 ls [.int y7])) (fun y7 H locs ls hF hP hD hS hl => ?_) (fun J6 hJ6 hF => ?_)
  · refine lv_istore (lv' := [(9, .int y7), (0, .ref (ad 6)), (1, .int a1), (2, .int a2), (3, .int a3), (4, .int a4), (5, .long a5), (7, .int r1), (8, .int r3)]) hx hb dX9_arrive_36 hl (by decide) rfl (fun ls hl => ?_)
    refine lv_aload_n hx hb dX9_arrive_38 rfl (lv_at hl 1 rfl) ?_
    refine wi_geti hx hb hg hown hK hP 6 7 rfl rfl cb_9 (by decide) kw_237 dX9_arrive_39 ?_
    refine lv_sipush (v := (20000 : Int32)) hx hb dX9_arrive_42 (by decide) ?_
    refine jn_use hF (fun K => ∀ (H : Heap) (locs : List Loc) (ls : Array Slot), K → va_P D vwCl (wld cy ad dsC σ) H → va_D A (wld cy ad dsC σ) → va_S A s.heap H locs → lv_has ls 11 [(0, .ref (ad 6))] → W p l e (rmO 3 72) s m args below meth c H locs 0 0 (MQ below (va_Qv post (cBk D cy ad dsC A) A) args s 0 0 A) (F0 m 63 ls [])) (fun H locs ls hF hP hD hS hl => ?_) (fun J8 hJ8 hF => ?_)
    · refine lv_aload_n hx hb dX9_arrive_63 rfl (lv_at hl 0 rfl) ?_
      refine lv_iconst (v := (1 : Int32)) hx hb dX9_arrive_64 (by decide) ?_
      refine wi_puti hx hb hg hown hK hP hD hS 6 8 rfl rfl cb_9 (by decide) kw_238 rfl (by decide) (by decide) dX9_arrive_65 (fun σ9 eσ9 H locs hP hD hS => ?_)
      have hF := hF σ9 eσ9
      exact wi_vret hx hb hr hlk hK hP hD hS dX9_arrive_68 hF
    · refine lv_icmp_ge (tgt := 63) hx hb dX9_arrive_45 (by decide) (fun c10 => ?_) (fun c10 => ?_)
      · have hF := brT hF c10
        exact hJ8  H locs ls hF hP hD hS (lv_sub hl [1] rfl)
      · have hF := brF hF c10
        refine lv_iload hx hb dX9_arrive_48 (lv_at hl 0 rfl) ?_
        refine jn_use hF (fun K => ∀ (H : Heap) (locs : List Loc) (ls : Array Slot), K → va_P D vwCl (wld cy ad dsC σ) H → va_D A (wld cy ad dsC σ) → va_S A s.heap H locs → lv_has ls 11 [(0, .ref (ad 6)), (1, .int a1), (2, .int a2), (3, .int a3), (4, .int a4), (5, .long a5), (7, .int r1), (8, .int r3), (9, .int y7)] → W p l e (rmO 3 72) s m args below meth c H locs 0 0 (MQ below (va_Qv post (cBk D cy ad dsC A) A) args s 0 0 A) (F0 m 69 ls [])) (fun H locs ls hF hP hD hS hl => ?_) (fun J11 hJ11 hF => ?_)
        · refine lv_iload hx hb dX9_arrive_69 (lv_at hl 8 rfl) ?_
          refine jn_use hF (fun K => ∀ (σ13 : St) (H : Heap) (locs : List Loc) (ls : Array Slot), K σ13 → va_P D vwCl (wld cy ad dsC σ13) H → va_D A (wld cy ad dsC σ13) → va_S A s.heap H locs → lv_has ls 11 [(0, .ref (ad 6)), (1, .int a1), (2, .int a2), (3, .int a3), (4, .int a4), (8, .int r3)] → W p l e (rmO 3 72) s m args below meth c H locs 0 0 (MQ below (va_Qv post (cBk D cy ad dsC A) A) args s 0 0 A) (F0 m 112 ls [])) (fun σ13 H locs ls hF hP hD hS hl => ?_) (fun J12 hJ12 hF => ?_)
          · refine lv_aload_n hx hb dX9_arrive_112 rfl (lv_at hl 0 rfl) ?_
            refine wi_getr hx hb hg hown hK hP 6 15 31 rfl rfl cb_9 (by decide) kw_245 dX9_arrive_113 ?_
            refine lv_iload hx hb dX9_arrive_116 (lv_at hl 5 rfl) ?_
            obtain ⟨hin, hF⟩ := hF
            refine wi_iald hx hb hK hP 31 rfl hin dX9_arrive_118 (fun v14 ev14 => ?_)
            have hF := hF v14 ev14
            refine lv_iconst (v := (1 : Int32)) hx hb dX9_arrive_119 (by decide) ?_
            refine lv_isub hx hb dX9_arrive_120 ?_
            refine lv_topi (fun x15 ex15 => ?_)
            have hF := hF x15 ex15
            refine lv_istore (lv' := [(10, .int x15), (0, .ref (ad 6)), (1, .int a1), (2, .int a2), (3, .int a3), (4, .int a4), (8, .int r3)]) hx hb dX9_arrive_121 hl (by decide) rfl (fun ls hl => ?_)
            refine lv_aload_n hx hb dX9_arrive_123 rfl (lv_at hl 1 rfl) ?_
            refine wi_getr hx hb hg hown hK hP 6 4 7 rfl rfl cb_9 (by decide) kw_234 dX9_arrive_124 ?_
            refine lv_aload_n hx hb dX9_arrive_127 rfl (lv_at hl 1 rfl) ?_
            refine wi_geti hx hb hg hown hK hP 6 7 rfl rfl cb_9 (by decide) kw_237 dX9_arrive_128 ?_
            refine lv_iload hx hb dX9_arrive_131 (lv_at hl 0 rfl) ?_
            refine lv_iload hx hb dX9_arrive_133 (lv_at hl 5 rfl) ?_
            refine wi_callSi (As := [.int a4]) (c_J6_bitCount_0f7a4 l D cy ad tL σ13 a4 _ hF) sw_RX9_141 hx hb hml hown hg hK hP hD hS hA hLB rfl ⟨Nat.le_of_ble_eq_true rfl, Nat.le_of_ble_eq_true rfl⟩ hl.1 rfl (Nat.le_of_ble_eq_true rfl) dX9_arrive_135 (fun r16 σ17 hw H locs hP hD hS => ?_)
            obtain ⟨hF, rfl⟩ := hw
            refine wi_callVv (k := 7) (As := [.int (σ13.1 6 7), .int x15, .int r16]) (c_X10_add l D cy ad tL σ13 (σ13.1 6 7) x15 r16 _ hF) vw_RX9_160 rfl cb_10 hx hb hml hown hg hK hP hD hS hA hLB rfl ⟨Nat.le_of_ble_eq_true rfl, Nat.le_of_ble_eq_true rfl⟩ hl.1 rfl (Nat.le_of_ble_eq_true rfl) dX9_arrive_138 (fun σ19 hw H locs hP hD hS => ?_)
            have hF := hw
            refine lv_aload_n hx hb dX9_arrive_141 rfl (lv_at hl 1 rfl) ?_
            refine lv_dup hx hb dX9_arrive_142 rfl ?_
            refine wi_geti hx hb hg hown hK hP 6 7 rfl rfl cb_9 (by decide) kw_237 dX9_arrive_143 ?_
            refine lv_iconst (v := (1 : Int32)) hx hb dX9_arrive_146 (by decide) ?_
            refine lv_iadd hx hb dX9_arrive_147 ?_
            refine wi_puti hx hb hg hown hK hP hD hS 6 7 rfl rfl cb_9 (by decide) kw_237 rfl rfl rfl dX9_arrive_148 (fun σ20 eσ20 H locs hP hD hS => ?_)
            have hF := hF σ20 eσ20
            refine lv_aload_n hx hb dX9_arrive_151 rfl (lv_at hl 1 rfl) ?_
            refine lv_iload_n hx hb dX9_arrive_152 rfl (lv_at hl 2 rfl) ?_
            refine lv_iload_n hx hb dX9_arrive_153 rfl (lv_at hl 3 rfl) ?_
            refine lv_iload_n hx hb dX9_arrive_154 rfl (lv_at hl 4 rfl) ?_
            refine lv_iload hx hb dX9_arrive_155 (lv_at hl 5 rfl) ?_
            refine lv_iload hx hb dX9_arrive_157 (lv_at hl 0 rfl) ?_
            refine wi_callVv (k := 6) (As := [.int a1, .int a2, .int a3, .int a4, .int x15]) (c_X9_judge l D cy ad tL σ20 a1 a2 a3 a4 x15 _ hF) vw_RX9_103 rfl cb_9 hx hb hml hown hg hK hP hD hS hA hLB rfl ⟨Nat.le_of_ble_eq_true rfl, Nat.le_of_ble_eq_true rfl⟩ hl.1 rfl (Nat.le_of_ble_eq_true rfl) dX9_arrive_159 (fun σ22 hw H locs hP hD hS => ?_)
            have hF := hw
            exact wi_vret hx hb hr hlk hK hP hD hS dX9_arrive_162 hF
          · refine lv_if_eq (tgt := 112) hx hb dX9_arrive_71 (by decide) (fun c23 => ?_) (fun c23 => ?_)
            · have hF := brT hF c23
              exact hJ12 σ H locs ls hF hP hD hS (lv_sub hl [0, 1, 2, 3, 4, 7] rfl)
            · have hF := brF hF c23
              refine lv_aload_n hx hb dX9_arrive_74 rfl (lv_at hl 0 rfl) ?_
              refine wi_getr hx hb hg hown hK hP 6 13 29 rfl rfl cb_9 (by decide) kw_243 dX9_arrive_75 ?_
              refine lv_aload_n hx hb dX9_arrive_78 rfl (lv_at hl 0 rfl) ?_
              refine wi_geti hx hb hg hown hK hP 6 5 rfl rfl cb_9 (by decide) kw_235 dX9_arrive_79 ?_
              refine lv_iload_n hx hb dX9_arrive_82 rfl (lv_at hl 1 rfl) ?_
              refine lv_iload_n hx hb dX9_arrive_83 rfl (lv_at hl 2 rfl) ?_
              refine lv_iload_n hx hb dX9_arrive_84 rfl (lv_at hl 3 rfl) ?_
              refine lv_iload hx hb dX9_arrive_85 (lv_at hl 4 rfl) ?_
              refine lv_aload_n hx hb dX9_arrive_87 rfl (lv_at hl 0 rfl) ?_
              refine wi_geti hx hb hg hown hK hP 6 5 rfl rfl cb_9 (by decide) kw_235 dX9_arrive_88 ?_
              refine wi_callSv (As := [.ref (ad 29), .int (σ.1 6 5), .int a1, .int a2, .int a3, .int a4, .int (σ.1 6 5)]) (c_X9_tell_29 l D cy ad tL σ (σ.1 6 5) a1 a2 a3 a4 (σ.1 6 5) _ hF) sw_RX9_99 hx hb hml hown hg hK hP hD hS hA hLB rfl ⟨Nat.le_of_ble_eq_true rfl, Nat.le_of_ble_eq_true rfl⟩ hl.1 rfl (Nat.le_of_ble_eq_true rfl) dX9_arrive_91 (fun σ25 hw H locs hP hD hS => ?_)
              have hF := hw
              refine lv_aload_n hx hb dX9_arrive_94 rfl (lv_at hl 0 rfl) ?_
              refine lv_iload hx hb dX9_arrive_95 (lv_at hl 7 rfl) ?_
              refine lv_iload hx hb dX9_arrive_97 (lv_at hl 6 rfl) ?_
              refine lv_lload hx hb dX9_arrive_99 (lv_at hl 5 rfl) ?_
              refine lv_aload_n hx hb dX9_arrive_101 rfl (lv_at hl 0 rfl) ?_
              refine wi_getr hx hb hg hown hK hP 6 11 27 rfl rfl cb_9 (by decide) kw_241 dX9_arrive_102 ?_
              refine lv_iload_n hx hb dX9_arrive_105 rfl (lv_at hl 1 rfl) ?_
              obtain ⟨hin, hF⟩ := hF
              refine wi_iald hx hb hK hP 27 rfl hin dX9_arrive_106 (fun v26 ev26 => ?_)
              have hF := hF v26 ev26
              refine lv_iconst (v := (1 : Int32)) hx hb dX9_arrive_107 (by decide) ?_
              refine lv_iadd hx hb dX9_arrive_108 ?_
              refine wi_callVv (k := 6) (As := [.int r3, .int r1, .long a5, .int (v26 + (1 : Int32))]) (c_X9_addState l D cy ad tL σ25 r3 r1 a5 (v26 + (1 : Int32)) _ hF) vw_RX9_95 rfl cb_9 hx hb hml hown hg hK hP hD hS hA hLB rfl ⟨Nat.le_of_ble_eq_true rfl, Nat.le_of_ble_eq_true rfl⟩ hl.1 rfl (Nat.le_of_ble_eq_true rfl) dX9_arrive_109 (fun σ28 hw H locs hP hD hS => ?_)
              have hF := hw
              exact hJ12 σ28 H locs ls hF hP hD hS (lv_sub hl [0, 1, 2, 3, 4, 7] rfl)
        · refine lv_if_eq (tgt := 69) hx hb dX9_arrive_50 (by decide) (fun c29 => ?_) (fun c29 => ?_)
          · have hF := brT hF c29
            exact hJ11  H locs ls hF hP hD hS (lv_sub hl [1, 2, 3, 4, 5, 6, 7, 8, 0] rfl)
          · have hF := brF hF c29
            refine lv_aload_n hx hb dX9_arrive_53 rfl (lv_at hl 1 rfl) ?_
            refine wi_geti hx hb hg hown hK hP 6 5 rfl rfl cb_9 (by decide) kw_235 dX9_arrive_54 ?_
            refine lv_sipush (v := (250 : Int32)) hx hb dX9_arrive_57 (by decide) ?_
            refine lv_icmp_lt (tgt := 69) hx hb dX9_arrive_60 (by decide) (fun c30 => ?_) (fun c30 => ?_)
            · have hF := brT hF c30
              exact hJ11  H locs ls hF hP hD hS (lv_sub hl [1, 2, 3, 4, 5, 6, 7, 8, 0] rfl)
            · have hF := brF hF c30
              exact hJ8  H locs ls hF hP hD hS (lv_sub hl [1] rfl)
  · refine lv_if_ne (tgt := 35) hx hb dX9_arrive_28 (by decide) (fun c31 => ?_) (fun c31 => ?_)
    · have hF := brF hF c31
      refine lv_iconst (v := (0 : Int32)) hx hb dX9_arrive_35 (by decide) ?_
      exact hJ6 (0 : Int32) H locs ls hF hP hD hS (lv_sub hl [2, 3, 4, 5, 6, 7, 1, 0] rfl)
    · have hF := brT hF c31
      refine lv_iconst (v := (1 : Int32)) hx hb dX9_arrive_31 (by decide) ?_
      refine lv_goto (tgt := 36) hx hb dX9_arrive_32 (by decide) ?_
      exact hJ6 (1 : Int32) H locs ls hF hP hD hS (lv_sub hl [2, 3, 4, 5, 6, 7, 1, 0] rfl)
def w_X9_lookAtSet_L64 (a1 : Int32) (a2 : Int32) (a3 : Int64) (y9 : Int32) (x17 : Int32) (post : St → Prop) (J18 : St → Prop) (rec23 : Int32 → St → Prop) (y21 : Int32) (σ22 : St) : Prop := br (x17 ≤ y21) (J18 σ22) (w_X9_arrive σ22 a1 a2 y9 y21 a3 (fun σ26 => br ((σ26.1 6 8) = (0 : Int32)) (nm (y21 + (1 : Int32)) (fun x28 => rec23 x28 σ26)) (post σ26)))
def w_X9_lookAtSet_L31 (a1 : Int32) (a2 : Int32) (a3 : Int64) (x6 : Int32) (post : St → Prop) (J7 : St → Prop) (rec11 : Int32 → St → Prop) (y9 : Int32) (σ10 : St) : Prop := br (x6 ≤ y9) (J7 σ10) (w_X8_choose σ10 y9 (fun σ14 => w_J6_bitCount_0f7a4 (σ14.1 4 6) (fun r15 => nm ((1 : Int32) <<< (r15 &&& 31)) (fun x17 => jn (α := St → Prop) (fun (σ19 : St) => nm (y9 + (1 : Int32)) (fun x20 => rec11 x20 σ19)) (fun J18 => lpE2 (w_X9_lookAtSet_L64 a1 a2 a3 y9 x17 post J18) (0 : Int32) σ14)))))
def w_X9_lookAtSet (σ : St) (a1 : Int32) (a2 : Int32) (a3 : Int64) (post : St → Prop) : Prop := rd (σ.1 25) 250 a1 (fun v1 => w_X8_tick σ v1 a2 (fun σ3 => w_J6_bitCount_0f7a4 (σ3.1 4 5) (fun r4 => nm ((1 : Int32) <<< (r4 &&& 31)) (fun x6 => jn (α := St → Prop) (fun (σ8 : St) => post σ8) (fun J7 => lpE2 (w_X9_lookAtSet_L31 a1 a2 a3 x6 post J7) (0 : Int32) σ3)))))
set_option maxHeartbeats 4000000 in
set_option maxRecDepth 100000 in
theorem c_X9_lookAtSet (l : Launch) (D : va_G) (cy : Nat → ClassId) (ad : Nat → Nat) (tL : Nat) (σ : St) (a1 : Int32) (a2 : Int32) (a3 : Int64) (post : St → Prop) (hF : w_X9_lookAtSet σ a1 a2 a3 post) : Ctv l yX9_lookAtSet cX9_lookAtSet 9 none 4 102 D cy ad tL dsC σ [.ref (ad 6), .int a1, .int a2, .long a3] post := by
  refine ctv_of (by decide) (Nat.le_of_ble_eq_true rfl) ?_
  intro p e s m args below meth c A hx hb hml hr hlk hg hown hA hK H locs hP hD hS hLB ls hl
  have hown : s.vm.findClass RX9 = some m.cls := hown
  have hl : lv_has ls 9 [(0, .ref (ad 6)), (1, .int a1), (2, .int a2), (3, .long a3)] := hl
  refine lv_aload_n hx hb dX9_lookAtSet_0 rfl (lv_at hl 0 rfl) ?_
  refine wi_getr hx hb hg hown hK hP 6 3 4 rfl rfl cb_9 (by decide) kw_250 dX9_lookAtSet_1 ?_
  refine lv_aload_n hx hb dX9_lookAtSet_4 rfl (lv_at hl 0 rfl) ?_
  refine wi_getr hx hb hg hown hK hP 6 9 25 rfl rfl cb_9 (by decide) kw_239 dX9_lookAtSet_5 ?_
  refine lv_iload_n hx hb dX9_lookAtSet_8 rfl (lv_at hl 1 rfl) ?_
  obtain ⟨hin, hF⟩ := hF
  refine wi_iald hx hb hK hP 25 rfl hin dX9_lookAtSet_9 (fun v1 ev1 => ?_)
  have hF := hF v1 ev1
  refine lv_iload_n hx hb dX9_lookAtSet_10 rfl (lv_at hl 2 rfl) ?_
  refine wi_callVv (k := 4) (As := [.int v1, .int a2]) (c_X8_tick l D cy ad tL σ v1 a2 _ hF) vw_RX9_133 rfl cb_8 hx hb hml hown hg hK hP hD hS hA hLB rfl ⟨Nat.le_of_ble_eq_true rfl, Nat.le_of_ble_eq_true rfl⟩ hl.1 rfl (Nat.le_of_ble_eq_true rfl) dX9_lookAtSet_11 (fun σ3 hw H locs hP hD hS => ?_)
  have hF := hw
  refine lv_iconst (v := (1 : Int32)) hx hb dX9_lookAtSet_14 (by decide) ?_
  refine lv_aload_n hx hb dX9_lookAtSet_15 rfl (lv_at hl 0 rfl) ?_
  refine wi_getr hx hb hg hown hK hP 6 3 4 rfl rfl cb_9 (by decide) kw_250 dX9_lookAtSet_16 ?_
  refine wi_geti hx hb hg hown hK hP 4 5 rfl rfl cb_8 (by decide) kw_311 dX9_lookAtSet_19 ?_
  refine wi_callSi (As := [.int (σ3.1 4 5)]) (c_J6_bitCount_0f7a4 l D cy ad tL σ3 (σ3.1 4 5) _ hF) sw_RX9_141 hx hb hml hown hg hK hP hD hS hA hLB rfl ⟨Nat.le_of_ble_eq_true rfl, Nat.le_of_ble_eq_true rfl⟩ hl.1 rfl (Nat.le_of_ble_eq_true rfl) dX9_lookAtSet_22 (fun r4 σ5 hw H locs hP hD hS => ?_)
  obtain ⟨hF, rfl⟩ := hw
  refine lv_ishl hx hb dX9_lookAtSet_25 ?_
  refine lv_topi (fun x6 ex6 => ?_)
  have hF := hF x6 ex6
  refine lv_istore (lv' := [(5, .int x6), (0, .ref (ad 6)), (1, .int a1), (2, .int a2), (3, .long a3)]) hx hb dX9_lookAtSet_26 hl (by decide) rfl (fun ls hl => ?_)
  refine lv_iconst (v := (0 : Int32)) hx hb dX9_lookAtSet_28 (by decide) ?_
  refine lv_istore (lv' := [(6, .int (0 : Int32)), (5, .int x6), (0, .ref (ad 6)), (1, .int a1), (2, .int a2), (3, .long a3)]) hx hb dX9_lookAtSet_29 hl (by decide) rfl (fun ls hl => ?_)
  refine jn_use hF (fun K => ∀ (σ8 : St) (H : Heap) (locs : List Loc) (ls : Array Slot), K σ8 → va_P D vwCl (wld cy ad dsC σ8) H → va_D A (wld cy ad dsC σ8) → va_S A s.heap H locs → lv_has ls 9 [] → W p l e (rmO 4 102) s m args below meth c H locs 0 0 (MQ below (va_Qv post (cBk D cy ad dsC A) A) args s 0 0 A) (F0 m 102 ls [])) (fun σ8 H locs ls hF hP hD hS hl => ?_) (fun J7 hJ7 hF => ?_)
  · exact wi_vret hx hb hr hlk hK hP hD hS dX9_lookAtSet_102 hF
  · refine lpE2_use hF (fun (y9 : Int32) (σ10 : St) => ∀ (H : Heap) (locs : List Loc) (ls : Array Slot), va_P D vwCl (wld cy ad dsC σ10) H → va_D A (wld cy ad dsC σ10) → va_S A s.heap H locs → lv_has ls 9 [(0, .ref (ad 6)), (1, .int a1), (2, .int a2), (3, .long a3), (5, .int x6), (6, .int y9)] → W p l e (rmO 4 102) s m args below meth c H locs 0 0 (MQ below (va_Qv post (cBk D cy ad dsC A) A) args s 0 0 A) (F0 m 31 ls [])) (fun rec11 hrec11 y9 σ10 hF H locs ls hP hD hS hl => ?_) H locs ls hP hD hS (lv_sub hl [2, 3, 4, 5, 1, 0] rfl)
    refine lv_iload hx hb dX9_lookAtSet_31 (lv_at hl 5 rfl) ?_
    refine lv_iload hx hb dX9_lookAtSet_33 (lv_at hl 4 rfl) ?_
    refine lv_icmp_ge (tgt := 102) hx hb dX9_lookAtSet_35 (by decide) (fun c12 => ?_) (fun c12 => ?_)
    · have hF := brT hF c12
      exact hJ7 σ10 H locs ls hF hP hD hS (lv_sub hl [] rfl)
    · have hF := brF hF c12
      refine lv_aload_n hx hb dX9_lookAtSet_38 rfl (lv_at hl 0 rfl) ?_
      refine wi_getr hx hb hg hown hK hP 6 3 4 rfl rfl cb_9 (by decide) kw_250 dX9_lookAtSet_39 ?_
      refine lv_iload hx hb dX9_lookAtSet_42 (lv_at hl 5 rfl) ?_
      refine wi_callVv (k := 4) (As := [.int y9]) (c_X8_choose l D cy ad tL σ10 y9 _ hF) vw_RX9_147 rfl cb_8 hx hb hml hown hg hK hP hD hS hA hLB rfl ⟨Nat.le_of_ble_eq_true rfl, Nat.le_of_ble_eq_true rfl⟩ hl.1 rfl (Nat.le_of_ble_eq_true rfl) dX9_lookAtSet_44 (fun σ14 hw H locs hP hD hS => ?_)
      have hF := hw
      refine lv_iconst (v := (1 : Int32)) hx hb dX9_lookAtSet_47 (by decide) ?_
      refine lv_aload_n hx hb dX9_lookAtSet_48 rfl (lv_at hl 0 rfl) ?_
      refine wi_getr hx hb hg hown hK hP 6 3 4 rfl rfl cb_9 (by decide) kw_250 dX9_lookAtSet_49 ?_
      refine wi_geti hx hb hg hown hK hP 4 6 rfl rfl cb_8 (by decide) kw_312 dX9_lookAtSet_52 ?_
      refine wi_callSi (As := [.int (σ14.1 4 6)]) (c_J6_bitCount_0f7a4 l D cy ad tL σ14 (σ14.1 4 6) _ hF) sw_RX9_141 hx hb hml hown hg hK hP hD hS hA hLB rfl ⟨Nat.le_of_ble_eq_true rfl, Nat.le_of_ble_eq_true rfl⟩ hl.1 rfl (Nat.le_of_ble_eq_true rfl) dX9_lookAtSet_55 (fun r15 σ16 hw H locs hP hD hS => ?_)
      obtain ⟨hF, rfl⟩ := hw
      refine lv_ishl hx hb dX9_lookAtSet_58 ?_
      refine lv_topi (fun x17 ex17 => ?_)
      have hF := hF x17 ex17
      refine lv_istore (lv' := [(7, .int x17), (0, .ref (ad 6)), (1, .int a1), (2, .int a2), (3, .long a3), (5, .int x6), (6, .int y9)]) hx hb dX9_lookAtSet_59 hl (by decide) rfl (fun ls hl => ?_)
      refine lv_iconst (v := (0 : Int32)) hx hb dX9_lookAtSet_61 (by decide) ?_
      refine lv_istore (lv' := [(8, .int (0 : Int32)), (7, .int x17), (0, .ref (ad 6)), (1, .int a1), (2, .int a2), (3, .long a3), (5, .int x6), (6, .int y9)]) hx hb dX9_lookAtSet_62 hl (by decide) rfl (fun ls hl => ?_)
      refine jn_use hF (fun K => ∀ (σ19 : St) (H : Heap) (locs : List Loc) (ls : Array Slot), K σ19 → va_P D vwCl (wld cy ad dsC σ19) H → va_D A (wld cy ad dsC σ19) → va_S A s.heap H locs → lv_has ls 9 [(0, .ref (ad 6)), (1, .int a1), (2, .int a2), (3, .long a3), (5, .int x6), (6, .int y9)] → W p l e (rmO 4 102) s m args below meth c H locs 0 0 (MQ below (va_Qv post (cBk D cy ad dsC A) A) args s 0 0 A) (F0 m 96 ls [])) (fun σ19 H locs ls hF hP hD hS hl => ?_) (fun J18 hJ18 hF => ?_)
      · obtain ⟨x20, ex20⟩ : ∃ z : Int32, z = (y9 + (1 : Int32)) := ⟨_, rfl⟩
        have hF := hF x20 ex20
        refine lv_iinc (v := x20) (lv' := [(6, .int x20), (0, .ref (ad 6)), (1, .int a1), (2, .int a2), (3, .long a3), (5, .int x6)]) hx hb dX9_lookAtSet_96 hl (k := 5) rfl (by rw [ex20]; rfl) (by decide) rfl (fun ls hl => ?_)
        refine lv_goto (tgt := 31) hx hb dX9_lookAtSet_99 (by decide) ?_
        exact hrec11 x20 σ19 hF H locs ls hP hD hS (lv_sub hl [1, 2, 3, 4, 5, 0] rfl)
      · refine lpE2_use hF (fun (y21 : Int32) (σ22 : St) => ∀ (H : Heap) (locs : List Loc) (ls : Array Slot), va_P D vwCl (wld cy ad dsC σ22) H → va_D A (wld cy ad dsC σ22) → va_S A s.heap H locs → lv_has ls 9 [(0, .ref (ad 6)), (1, .int a1), (2, .int a2), (3, .long a3), (5, .int x6), (6, .int y9), (7, .int x17), (8, .int y21)] → W p l e (rmO 4 102) s m args below meth c H locs 0 0 (MQ below (va_Qv post (cBk D cy ad dsC A) A) args s 0 0 A) (F0 m 64 ls [])) (fun rec23 hrec23 y21 σ22 hF H locs ls hP hD hS hl => ?_) H locs ls hP hD hS (lv_sub hl [2, 3, 4, 5, 6, 7, 1, 0] rfl)
        refine lv_iload hx hb dX9_lookAtSet_64 (lv_at hl 7 rfl) ?_
        refine lv_iload hx hb dX9_lookAtSet_66 (lv_at hl 6 rfl) ?_
        refine lv_icmp_ge (tgt := 96) hx hb dX9_lookAtSet_68 (by decide) (fun c24 => ?_) (fun c24 => ?_)
        · have hF := brT hF c24
          exact hJ18 σ22 H locs ls hF hP hD hS (lv_sub hl [0, 1, 2, 3, 4, 5] rfl)
        · have hF := brF hF c24
          refine lv_aload_n hx hb dX9_lookAtSet_71 rfl (lv_at hl 0 rfl) ?_
          refine lv_iload_n hx hb dX9_lookAtSet_72 rfl (lv_at hl 1 rfl) ?_
          refine lv_iload_n hx hb dX9_lookAtSet_73 rfl (lv_at hl 2 rfl) ?_
          refine lv_iload hx hb dX9_lookAtSet_74 (lv_at hl 5 rfl) ?_
          refine lv_iload hx hb dX9_lookAtSet_76 (lv_at hl 7 rfl) ?_
          refine lv_lload_n hx hb dX9_lookAtSet_78 rfl (lv_at hl 3 rfl) ?_
          refine wi_callVv (k := 6) (As := [.int a1, .int a2, .int y9, .int y21, .long a3]) (c_X9_arrive l D cy ad tL σ22 a1 a2 y9 y21 a3 _ hF) vw_RX9_154 rfl cb_9 hx hb hml hown hg hK hP hD hS hA hLB rfl ⟨Nat.le_of_ble_eq_true rfl, Nat.le_of_ble_eq_true rfl⟩ hl.1 rfl (Nat.le_of_ble_eq_true rfl) dX9_lookAtSet_79 (fun σ26 hw H locs hP hD hS => ?_)
          have hF := hw
          refine lv_aload_n hx hb dX9_lookAtSet_82 rfl (lv_at hl 0 rfl) ?_
          refine wi_geti hx hb hg hown hK hP 6 8 rfl rfl cb_9 (by decide) kw_238 dX9_lookAtSet_83 ?_
          refine lv_if_eq (tgt := 90) hx hb dX9_lookAtSet_86 (by decide) (fun c27 => ?_) (fun c27 => ?_)
          · have hF := brT hF c27
            obtain ⟨x28, ex28⟩ : ∃ z : Int32, z = (y21 + (1 : Int32)) := ⟨_, rfl⟩
            have hF := hF x28 ex28
            refine lv_iinc (v := x28) (lv' := [(8, .int x28), (0, .ref (ad 6)), (1, .int a1), (2, .int a2), (3, .long a3), (5, .int x6), (6, .int y9), (7, .int x17)]) hx hb dX9_lookAtSet_90 hl (k := 7) rfl (by rw [ex28]; rfl) (by decide) rfl (fun ls hl => ?_)
            refine lv_goto (tgt := 64) hx hb dX9_lookAtSet_93 (by decide) ?_
            exact hrec23 x28 σ26 hF H locs ls hP hD hS (lv_sub hl [1, 2, 3, 4, 5, 6, 7, 0] rfl)
          · have hF := brF hF c27
            exact wi_vret hx hb hr hlk hK hP hD hS dX9_lookAtSet_89 hF
def w_X9_lookAt_L18 (a1 : Int32) (x4 : Int32) (post : St → Prop) (J5 : St → Prop) (rec13 : Int32 → St → Prop) (y11 : Int32) (σ12 : St) : Prop := br ((16 : Int32) ≤ y11) (J5 σ12) (jn (α := Int64 → Prop) (fun (y16 : Int64) => jn (α := St → Prop) (fun (σ18 : St) => br ((σ18.1 6 8) = (0 : Int32)) (nm (y11 + (1 : Int32)) (fun x20 => rec13 x20 σ18)) (post σ18)) (fun J17 => br ((lg_cmp y16 (-1 : Int64)) = (0 : Int32)) (J17 σ12) (w_X9_lookAtSet σ12 a1 y11 y16 (fun σ23 => J17 σ23)))) (fun J15 => br ((y11 &&& x4) = (0 : Int32)) (rd (σ12.2 26) 250 a1 (fun v25 => w_X0_behind σ12 v25 y11 (fun r26 => J15 r26))) (J15 (-1 : Int64))))
def w_X9_lookAt (σ : St) (a1 : Int32) (post : St → Prop) : Prop := nm (σ.1 6 7) (fun x1 => w_X4_clocksInUse σ (fun r2 => nm (r2 ^^^ (-1 : Int32)) (fun x4 => jn (α := St → Prop) (fun (σ6 : St) => ck a1 250 (nm (upI σ6 28 (a1).toNatClampNeg ((σ6.1 6 7) - x1)) (fun σ7 => nm (upI σ7 6 6 ((σ7.1 6 6) + (1 : Int32))) (fun σ8 => w_X10_close σ8 a1 (σ8.1 6 7) (fun σ10 => post σ10))))) (fun J5 => lpE2 (w_X9_lookAt_L18 a1 x4 post J5) (1 : Int32) σ))))
set_option maxHeartbeats 4000000 in
set_option maxRecDepth 100000 in
theorem c_X9_lookAt (l : Launch) (D : va_G) (cy : Nat → ClassId) (ad : Nat → Nat) (tL : Nat) (σ : St) (a1 : Int32) (post : St → Prop) (hF : w_X9_lookAt σ a1 post) : Ctv l yX9_lookAt cX9_lookAt 7 none 5 130 D cy ad tL dsC σ [.ref (ad 6), .int a1] post := by
  refine ctv_of (by decide) (Nat.le_of_ble_eq_true rfl) ?_
  intro p e s m args below meth c A hx hb hml hr hlk hg hown hA hK H locs hP hD hS hLB ls hl
  have hown : s.vm.findClass RX9 = some m.cls := hown
  have hl : lv_has ls 7 [(0, .ref (ad 6)), (1, .int a1)] := hl
  refine lv_aload_n hx hb dX9_lookAt_0 rfl (lv_at hl 0 rfl) ?_
  refine wi_geti hx hb hg hown hK hP 6 7 rfl rfl cb_9 (by decide) kw_237 dX9_lookAt_1 ?_
  refine lv_topi (fun x1 ex1 => ?_)
  have hF := hF x1 ex1
  refine lv_istore_n (lv' := [(2, .int x1), (0, .ref (ad 6)), (1, .int a1)]) hx hb dX9_lookAt_4 rfl hl (by decide) rfl (fun ls hl => ?_)
  refine lv_aload_n hx hb dX9_lookAt_5 rfl (lv_at hl 1 rfl) ?_
  refine wi_getr hx hb hg hown hK hP 6 0 1 rfl rfl cb_9 (by decide) kw_247 dX9_lookAt_6 ?_
  refine wi_callVi (k := 1) (As := []) (c_X4_clocksInUse l D cy ad tL σ _ hF) vw_RX9_113 rfl cb_4 hx hb hml hown hg hK hP hD hS hA hLB rfl ⟨Nat.le_of_ble_eq_true rfl, Nat.le_of_ble_eq_true rfl⟩ hl.1 rfl (Nat.le_of_ble_eq_true rfl) dX9_lookAt_9 (fun r2 σ3 hw H locs hP hD hS => ?_)
  obtain ⟨hF, rfl⟩ := hw
  refine lv_iconst (v := (-1 : Int32)) hx hb dX9_lookAt_12 (by decide) ?_
  refine lv_ixor hx hb dX9_lookAt_13 ?_
  refine lv_topi (fun x4 ex4 => ?_)
  have hF := hF x4 ex4
  refine lv_istore_n (lv' := [(3, .int x4), (2, .int x1), (0, .ref (ad 6)), (1, .int a1)]) hx hb dX9_lookAt_14 rfl hl (by decide) rfl (fun ls hl => ?_)
  refine lv_iconst (v := (1 : Int32)) hx hb dX9_lookAt_15 (by decide) ?_
  refine lv_istore (lv' := [(4, .int (1 : Int32)), (3, .int x4), (2, .int x1), (0, .ref (ad 6)), (1, .int a1)]) hx hb dX9_lookAt_16 hl (by decide) rfl (fun ls hl => ?_)
  refine jn_use hF (fun K => ∀ (σ6 : St) (H : Heap) (locs : List Loc) (ls : Array Slot), K σ6 → va_P D vwCl (wld cy ad dsC σ6) H → va_D A (wld cy ad dsC σ6) → va_S A s.heap H locs → lv_has ls 7 [(0, .ref (ad 6)), (1, .int a1), (2, .int x1)] → W p l e (rmO 5 130) s m args below meth c H locs 0 0 (MQ below (va_Qv post (cBk D cy ad dsC A) A) args s 0 0 A) (F0 m 87 ls [])) (fun σ6 H locs ls hF hP hD hS hl => ?_) (fun J5 hJ5 hF => ?_)
  · refine lv_aload_n hx hb dX9_lookAt_87 rfl (lv_at hl 0 rfl) ?_
    refine wi_getr hx hb hg hown hK hP 6 12 28 rfl rfl cb_9 (by decide) kw_242 dX9_lookAt_88 ?_
    refine lv_iload_n hx hb dX9_lookAt_91 rfl (lv_at hl 1 rfl) ?_
    refine lv_aload_n hx hb dX9_lookAt_92 rfl (lv_at hl 0 rfl) ?_
    refine wi_geti hx hb hg hown hK hP 6 7 rfl rfl cb_9 (by decide) kw_237 dX9_lookAt_93 ?_
    refine lv_iload_n hx hb dX9_lookAt_96 rfl (lv_at hl 2 rfl) ?_
    refine lv_isub hx hb dX9_lookAt_97 ?_
    obtain ⟨hin, hF⟩ := hF
    refine wi_iast hx hb hK hP hD hS 28 rfl hin dX9_lookAt_98 (fun σ7 eσ7 H locs hP hD hS => ?_)
    have hF := hF σ7 eσ7
    refine lv_aload_n hx hb dX9_lookAt_99 rfl (lv_at hl 0 rfl) ?_
    refine lv_dup hx hb dX9_lookAt_100 rfl ?_
    refine wi_geti hx hb hg hown hK hP 6 6 rfl rfl cb_9 (by decide) kw_236 dX9_lookAt_101 ?_
    refine lv_iconst (v := (1 : Int32)) hx hb dX9_lookAt_104 (by decide) ?_
    refine lv_iadd hx hb dX9_lookAt_105 ?_
    refine wi_puti hx hb hg hown hK hP hD hS 6 6 rfl rfl cb_9 (by decide) kw_236 rfl rfl rfl dX9_lookAt_106 (fun σ8 eσ8 H locs hP hD hS => ?_)
    have hF := hF σ8 eσ8
    refine lv_aload_n hx hb dX9_lookAt_109 rfl (lv_at hl 0 rfl) ?_
    refine wi_getr hx hb hg hown hK hP 6 4 7 rfl rfl cb_9 (by decide) kw_234 dX9_lookAt_110 ?_
    refine lv_iload_n hx hb dX9_lookAt_113 rfl (lv_at hl 1 rfl) ?_
    refine lv_aload_n hx hb dX9_lookAt_114 rfl (lv_at hl 0 rfl) ?_
    refine wi_geti hx hb hg hown hK hP 6 7 rfl rfl cb_9 (by decide) kw_237 dX9_lookAt_115 ?_
    refine wi_callVv (k := 7) (As := [.int a1, .int (σ8.1 6 7)]) (c_X10_close l D cy ad tL σ8 a1 (σ8.1 6 7) _ hF) vw_RX9_129 rfl cb_10 hx hb hml hown hg hK hP hD hS hA hLB rfl ⟨Nat.le_of_ble_eq_true rfl, Nat.le_of_ble_eq_true rfl⟩ hl.1 rfl (Nat.le_of_ble_eq_true rfl) dX9_lookAt_118 (fun σ10 hw H locs hP hD hS => ?_)
    have hF := hw
    exact wi_vret hx hb hr hlk hK hP hD hS dX9_lookAt_121 hF
  · refine lpE2_use hF (fun (y11 : Int32) (σ12 : St) => ∀ (H : Heap) (locs : List Loc) (ls : Array Slot), va_P D vwCl (wld cy ad dsC σ12) H → va_D A (wld cy ad dsC σ12) → va_S A s.heap H locs → lv_has ls 7 [(0, .ref (ad 6)), (1, .int a1), (2, .int x1), (3, .int x4), (4, .int y11)] → W p l e (rmO 5 130) s m args below meth c H locs 0 0 (MQ below (va_Qv post (cBk D cy ad dsC A) A) args s 0 0 A) (F0 m 18 ls [])) (fun rec13 hrec13 y11 σ12 hF H locs ls hP hD hS hl => ?_) H locs ls hP hD hS (lv_sub hl [3, 4, 2, 1, 0] rfl)
    refine lv_iload hx hb dX9_lookAt_18 (lv_at hl 4 rfl) ?_
    refine lv_bipush (v := (16 : Int32)) hx hb dX9_lookAt_20 (by decide) ?_
    refine lv_icmp_ge (tgt := 87) hx hb dX9_lookAt_22 (by decide) (fun c14 => ?_) (fun c14 => ?_)
    · have hF := brT hF c14
      exact hJ5 σ12 H locs ls hF hP hD hS (lv_sub hl [0, 1, 2] rfl)
    · have hF := brF hF c14
      refine lv_iload hx hb dX9_lookAt_25 (lv_at hl 4 rfl) ?_
      refine lv_iload_n hx hb dX9_lookAt_27 rfl (lv_at hl 3 rfl) ?_
      refine lv_iand hx hb dX9_lookAt_28 ?_
      refine jn_use hF (fun K => ∀ (y16 : Int64) (H : Heap) (locs : List Loc) (ls : Array Slot), K y16 → va_P D vwCl (wld cy ad dsC σ12) H → va_D A (wld cy ad dsC σ12) → va_S A s.heap H locs → lv_has ls 7 [(0, .ref (ad 6)), (1, .int a1), (2, .int x1), (3, .int x4), (4, .int y11)] → W p l e (rmO 5 130) s m args below meth c H locs 0 0 (MQ below (va_Qv post (cBk D cy ad dsC A) A) args s 0 0 A) (F0 m 53 ls [.long y16])) (fun y16 H locs ls hF hP hD hS hl => ?_) (fun J15 hJ15 hF => ?_)
      · refine lv_lstore (lv' := [(5, .long y16), (0, .ref (ad 6)), (1, .int a1), (2, .int x1), (3, .int x4), (4, .int y11)]) hx hb dX9_lookAt_53 hl (by decide) rfl (fun ls hl => ?_)
        refine lv_lload hx hb dX9_lookAt_55 (lv_at hl 0 rfl) ?_
        refine lv_ldc2 (v := (-1 : Int64)) hx hb hown (hg _ kw_320) dX9_lookAt_57 ?_
        refine W.lcmp hx hb dX9_lookAt_60 ?_
        refine jn_use hF (fun K => ∀ (σ18 : St) (H : Heap) (locs : List Loc) (ls : Array Slot), K σ18 → va_P D vwCl (wld cy ad dsC σ18) H → va_D A (wld cy ad dsC σ18) → va_S A s.heap H locs → lv_has ls 7 [(0, .ref (ad 6)), (1, .int a1), (2, .int x1), (3, .int x4), (4, .int y11)] → W p l e (rmO 5 130) s m args below meth c H locs 0 0 (MQ below (va_Qv post (cBk D cy ad dsC A) A) args s 0 0 A) (F0 m 73 ls [])) (fun σ18 H locs ls hF hP hD hS hl => ?_) (fun J17 hJ17 hF => ?_)
        · refine lv_aload_n hx hb dX9_lookAt_73 rfl (lv_at hl 0 rfl) ?_
          refine wi_geti hx hb hg hown hK hP 6 8 rfl rfl cb_9 (by decide) kw_238 dX9_lookAt_74 ?_
          refine lv_if_eq (tgt := 81) hx hb dX9_lookAt_77 (by decide) (fun c19 => ?_) (fun c19 => ?_)
          · have hF := brT hF c19
            obtain ⟨x20, ex20⟩ : ∃ z : Int32, z = (y11 + (1 : Int32)) := ⟨_, rfl⟩
            have hF := hF x20 ex20
            refine lv_iinc (v := x20) (lv' := [(4, .int x20), (0, .ref (ad 6)), (1, .int a1), (2, .int x1), (3, .int x4)]) hx hb dX9_lookAt_81 hl (k := 4) rfl (by rw [ex20]; rfl) (by decide) rfl (fun ls hl => ?_)
            refine lv_goto (tgt := 18) hx hb dX9_lookAt_84 (by decide) ?_
            exact hrec13 x20 σ18 hF H locs ls hP hD hS (lv_sub hl [1, 2, 3, 4, 0] rfl)
          · have hF := brF hF c19
            exact wi_vret hx hb hr hlk hK hP hD hS dX9_lookAt_80 hF
        · refine lv_if_eq (tgt := 73) hx hb dX9_lookAt_61 (by decide) (fun c21 => ?_) (fun c21 => ?_)
          · have hF := brT hF c21
            exact hJ17 σ12 H locs ls hF hP hD hS (lv_sub hl [1, 2, 3, 4, 5] rfl)
          · have hF := brF hF c21
            refine lv_aload_n hx hb dX9_lookAt_64 rfl (lv_at hl 1 rfl) ?_
            refine lv_iload_n hx hb dX9_lookAt_65 rfl (lv_at hl 2 rfl) ?_
            refine lv_iload hx hb dX9_lookAt_66 (lv_at hl 5 rfl) ?_
            refine lv_lload hx hb dX9_lookAt_68 (lv_at hl 0 rfl) ?_
            refine wi_callVv (k := 6) (As := [.int a1, .int y11, .long y16]) (c_X9_lookAtSet l D cy ad tL σ12 a1 y11 y16 _ hF) vw_RX9_125 rfl cb_9 hx hb hml hown hg hK hP hD hS hA hLB rfl ⟨Nat.le_of_ble_eq_true rfl, Nat.le_of_ble_eq_true rfl⟩ hl.1 rfl (Nat.le_of_ble_eq_true rfl) dX9_lookAt_70 (fun σ23 hw H locs hP hD hS => ?_)
            have hF := hw
            exact hJ17 σ23 H locs ls hF hP hD hS (lv_sub hl [1, 2, 3, 4, 5] rfl)
      · refine lv_if_eq (tgt := 38) hx hb dX9_lookAt_29 (by decide) (fun c24 => ?_) (fun c24 => ?_)
        · have hF := brT hF c24
          refine lv_aload_n hx hb dX9_lookAt_38 rfl (lv_at hl 0 rfl) ?_
          refine wi_getr hx hb hg hown hK hP 6 1 2 rfl rfl cb_9 (by decide) kw_248 dX9_lookAt_39 ?_
          refine lv_aload_n hx hb dX9_lookAt_42 rfl (lv_at hl 0 rfl) ?_
          refine wi_getr hx hb hg hown hK hP 6 10 26 rfl rfl cb_9 (by decide) kw_240 dX9_lookAt_43 ?_
          refine lv_iload_n hx hb dX9_lookAt_46 rfl (lv_at hl 1 rfl) ?_
          obtain ⟨hin, hF⟩ := hF
          refine wi_lald hx hb hK hP 26 rfl hin dX9_lookAt_47 (fun v25 ev25 => ?_)
          have hF := hF v25 ev25
          refine lv_iload hx hb dX9_lookAt_48 (lv_at hl 4 rfl) ?_
          refine wi_callVl (k := 2) (As := [.long v25, .int y11]) (c_X0_behind l D cy ad tL σ12 v25 y11 _ hF) vw_RX9_121 rfl cb_0 hx hb hml hown hg hK hP hD hS hA hLB rfl ⟨Nat.le_of_ble_eq_true rfl, Nat.le_of_ble_eq_true rfl⟩ hl.1 rfl (Nat.le_of_ble_eq_true rfl) dX9_lookAt_50 (fun r26 σ27 hw H locs hP hD hS => ?_)
          obtain ⟨hF, rfl⟩ := hw
          exact hJ15 r26 H locs ls hF hP hD hS (lv_sub hl [0, 1, 2, 3, 4] rfl)
        · have hF := brF hF c24
          refine lv_ldc2 (v := (-1 : Int64)) hx hb hown (hg _ kw_320) dX9_lookAt_32 ?_
          refine lv_goto (tgt := 53) hx hb dX9_lookAt_35 (by decide) ?_
          exact hJ15 (-1 : Int64) H locs ls hF hP hD hS (lv_sub hl [0, 1, 2, 3, 4] rfl)
def w_X10_nearest_L8 (a1 : Int32) (σ : St) (J1 : Int32 → Prop) (rec6 : Int32 → Int32 → Int32 → Prop) (y3 : Int32) (y4 : Int32) (y5 : Int32) : Prop := br (a1 ≤ y5) (J1 y3) (rd (σ.1 36) 250 y5 (fun v8 => br (v8 = (0 : Int32)) (rd (σ.1 35) 250 y5 (fun v11 => br (y4 ≤ v11) (nm (y5 + (1 : Int32)) (fun x13 => rec6 y3 y4 x13)) (rd (σ.1 35) 250 y5 (fun v14 => nm (y5 + (1 : Int32)) (fun x15 => rec6 y5 v14 x15))))) (nm (y5 + (1 : Int32)) (fun x10 => rec6 y3 y4 x10))))
def w_X10_nearest (σ : St) (a1 : Int32) (post : Int32 → Prop) : Prop := jn (α := Int32 → Prop) (fun (y2 : Int32) => post y2) (fun J1 => lpE3 (w_X10_nearest_L8 a1 σ J1) (-1 : Int32) (1048576 : Int32) (0 : Int32))
set_option maxHeartbeats 4000000 in
set_option maxRecDepth 100000 in
theorem c_X10_nearest (l : Launch) (D : va_G) (cy : Nat → ClassId) (ad : Nat → Nat) (tL : Nat) (σ : St) (a1 : Int32) (post : Int32 → Prop) (hF : w_X10_nearest σ a1 post) : Cti l yX10_nearest cX10_nearest 5 (some .int) 0 0 D cy ad tL dsC σ [.ref (ad 7), .int a1] (fun r u => post r ∧ σ = u) := by
  refine cti_of (by decide) (Nat.le_of_ble_eq_true rfl) ?_
  intro p e s m args below meth c A hx hb hml hr hlk hg hown hA hK H locs hP hD hS hLB ls hl
  have hown : s.vm.findClass RX10 = some m.cls := hown
  have hl : lv_has ls 5 [(0, .ref (ad 7)), (1, .int a1)] := hl
  refine lv_iconst (v := (-1 : Int32)) hx hb dX10_nearest_0 (by decide) ?_
  refine lv_istore_n (lv' := [(2, .int (-1 : Int32)), (0, .ref (ad 7)), (1, .int a1)]) hx hb dX10_nearest_1 rfl hl (by decide) rfl (fun ls hl => ?_)
  refine lv_ldc (v := (1048576 : Int32)) hx hb hown (hg _ kw_333) dX10_nearest_2 ?_
  refine lv_istore_n (lv' := [(3, .int (1048576 : Int32)), (2, .int (-1 : Int32)), (0, .ref (ad 7)), (1, .int a1)]) hx hb dX10_nearest_4 rfl hl (by decide) rfl (fun ls hl => ?_)
  refine lv_iconst (v := (0 : Int32)) hx hb dX10_nearest_5 (by decide) ?_
  refine lv_istore (lv' := [(4, .int (0 : Int32)), (3, .int (1048576 : Int32)), (2, .int (-1 : Int32)), (0, .ref (ad 7)), (1, .int a1)]) hx hb dX10_nearest_6 hl (by decide) rfl (fun ls hl => ?_)
  refine jn_use hF (fun K => ∀ (y2 : Int32) (H : Heap) (locs : List Loc) (ls : Array Slot), K y2 → va_P D vwCl (wld cy ad dsC σ) H → va_D A (wld cy ad dsC σ) → va_S A s.heap H locs → lv_has ls 5 [(2, .int y2)] → W p l e (rmO 0 0) s m args below meth c H locs 0 0 (MQ below (va_Qi (fun r u => post r ∧ σ = u) (cBk D cy ad dsC A) A) args s 0 0 A) (F0 m 52 ls [])) (fun y2 H locs ls hF hP hD hS hl => ?_) (fun J1 hJ1 hF => ?_)
  · refine lv_iload_n hx hb dX10_nearest_52 rfl (lv_at hl 0 rfl) ?_
    exact wi_iret hx hb hr hlk hK hP hD hS dX10_nearest_53 ⟨hF, rfl⟩
  · refine lpE3_use hF (fun (y3 : Int32) (y4 : Int32) (y5 : Int32) => ∀ (H : Heap) (locs : List Loc) (ls : Array Slot), va_P D vwCl (wld cy ad dsC σ) H → va_D A (wld cy ad dsC σ) → va_S A s.heap H locs → lv_has ls 5 [(0, .ref (ad 7)), (1, .int a1), (2, .int y3), (3, .int y4), (4, .int y5)] → W p l e (rmO 0 0) s m args below meth c H locs 0 0 (MQ below (va_Qi (fun r u => post r ∧ σ = u) (cBk D cy ad dsC A) A) args s 0 0 A) (F0 m 8 ls [])) (fun rec6 hrec6 y3 y4 y5 hF H locs ls hP hD hS hl => ?_) H locs ls hP hD hS (lv_sub hl [3, 4, 2, 1, 0] rfl)
    refine lv_iload hx hb dX10_nearest_8 (lv_at hl 4 rfl) ?_
    refine lv_iload_n hx hb dX10_nearest_10 rfl (lv_at hl 1 rfl) ?_
    refine lv_icmp_ge (tgt := 52) hx hb dX10_nearest_11 (by decide) (fun c7 => ?_) (fun c7 => ?_)
    · have hF := brT hF c7
      exact hJ1 y3 H locs ls hF hP hD hS (lv_sub hl [2] rfl)
    · have hF := brF hF c7
      refine lv_aload_n hx hb dX10_nearest_14 rfl (lv_at hl 0 rfl) ?_
      refine wi_getr hx hb hg hown hK hP 7 3 36 rfl rfl cb_10 (by decide) kw_228 dX10_nearest_15 ?_
      refine lv_iload hx hb dX10_nearest_18 (lv_at hl 4 rfl) ?_
      obtain ⟨hin, hF⟩ := hF
      refine wi_zald hx hb hK hP 36 rfl hin dX10_nearest_20 (fun v8 ev8 => ?_)
      have hF := hF v8 ev8
      refine lv_if_ne (tgt := 46) hx hb dX10_nearest_21 (by decide) (fun c9 => ?_) (fun c9 => ?_)
      · have hF := brF hF c9
        obtain ⟨x10, ex10⟩ : ∃ z : Int32, z = (y5 + (1 : Int32)) := ⟨_, rfl⟩
        have hF := hF x10 ex10
        refine lv_iinc (v := x10) (lv' := [(4, .int x10), (0, .ref (ad 7)), (1, .int a1), (2, .int y3), (3, .int y4)]) hx hb dX10_nearest_46 hl (k := 4) rfl (by rw [ex10]; rfl) (by decide) rfl (fun ls hl => ?_)
        refine lv_goto (tgt := 8) hx hb dX10_nearest_49 (by decide) ?_
        exact hrec6 y3 y4 x10 hF H locs ls hP hD hS (lv_sub hl [1, 2, 3, 4, 0] rfl)
      · have hF := brT hF c9
        refine lv_aload_n hx hb dX10_nearest_24 rfl (lv_at hl 0 rfl) ?_
        refine wi_getr hx hb hg hown hK hP 7 2 35 rfl rfl cb_10 (by decide) kw_226 dX10_nearest_25 ?_
        refine lv_iload hx hb dX10_nearest_28 (lv_at hl 4 rfl) ?_
        obtain ⟨hin, hF⟩ := hF
        refine wi_iald hx hb hK hP 35 rfl hin dX10_nearest_30 (fun v11 ev11 => ?_)
        have hF := hF v11 ev11
        refine lv_iload_n hx hb dX10_nearest_31 rfl (lv_at hl 3 rfl) ?_
        refine lv_icmp_ge (tgt := 46) hx hb dX10_nearest_32 (by decide) (fun c12 => ?_) (fun c12 => ?_)
        · have hF := brT hF c12
          obtain ⟨x13, ex13⟩ : ∃ z : Int32, z = (y5 + (1 : Int32)) := ⟨_, rfl⟩
          have hF := hF x13 ex13
          refine lv_iinc (v := x13) (lv' := [(4, .int x13), (0, .ref (ad 7)), (1, .int a1), (2, .int y3), (3, .int y4)]) hx hb dX10_nearest_46 hl (k := 4) rfl (by rw [ex13]; rfl) (by decide) rfl (fun ls hl => ?_)
          refine lv_goto (tgt := 8) hx hb dX10_nearest_49 (by decide) ?_
          exact hrec6 y3 y4 x13 hF H locs ls hP hD hS (lv_sub hl [1, 2, 3, 4, 0] rfl)
        · have hF := brF hF c12
          refine lv_iload hx hb dX10_nearest_35 (lv_at hl 4 rfl) ?_
          refine lv_istore_n (lv' := [(2, .int y5), (0, .ref (ad 7)), (1, .int a1), (3, .int y4), (4, .int y5)]) hx hb dX10_nearest_37 rfl hl (by decide) rfl (fun ls hl => ?_)
          refine lv_aload_n hx hb dX10_nearest_38 rfl (lv_at hl 1 rfl) ?_
          refine wi_getr hx hb hg hown hK hP 7 2 35 rfl rfl cb_10 (by decide) kw_226 dX10_nearest_39 ?_
          refine lv_iload hx hb dX10_nearest_42 (lv_at hl 4 rfl) ?_
          obtain ⟨hin, hF⟩ := hF
          refine wi_iald hx hb hK hP 35 rfl hin dX10_nearest_44 (fun v14 ev14 => ?_)
          have hF := hF v14 ev14
          refine lv_istore_n (lv' := [(3, .int v14), (2, .int y5), (0, .ref (ad 7)), (1, .int a1), (4, .int y5)]) hx hb dX10_nearest_45 rfl hl (by decide) rfl (fun ls hl => ?_)
          obtain ⟨x15, ex15⟩ : ∃ z : Int32, z = (y5 + (1 : Int32)) := ⟨_, rfl⟩
          have hF := hF x15 ex15
          refine lv_iinc (v := x15) (lv' := [(4, .int x15), (3, .int v14), (2, .int y5), (0, .ref (ad 7)), (1, .int a1)]) hx hb dX10_nearest_46 hl (k := 4) rfl (by rw [ex15]; rfl) (by decide) rfl (fun ls hl => ?_)
          refine lv_goto (tgt := 8) hx hb dX10_nearest_49 (by decide) ?_
          exact hrec6 y5 v14 x15 hF H locs ls hP hD hS (lv_sub hl [3, 4, 2, 1, 0] rfl)
