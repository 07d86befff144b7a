def w_X12_stateOf_L29 (y2 : Int32) (σ : St) (J8 : Int32 → Prop) (rec14 : Int32 → Int32 → Prop) (y12 : Int32) (y13 : Int32) : Prop := br ((16 : Int32) ≤ y13) (J8 y12) (br (y12 = (0 : Int32)) (J8 y12) (rd (σ.1 8) 16 y13 (fun v17 => br (v17 = (0 : Int32)) (nm (y13 + (1 : Int32)) (fun x19 => rec14 (1 : Int32) x19)) (rd (σ.1 17) 4000 (((16 : Int32) * y2) + y13) (fun v20 => rd (σ.1 29) 16 y13 (fun v21 => br (v20 = v21) (nm (y13 + (1 : Int32)) (fun x24 => rec14 (1 : Int32) x24)) (nm (y13 + (1 : Int32)) (fun x23 => rec14 (0 : Int32) x23))))))))
def w_X12_stateOf_L2 (a1 : Int32) (σ : St) (post : Int32 → Prop) (J1 : Prop) (rec3 : Int32 → Prop) (y2 : Int32) : Prop := br ((σ.1 0 27) ≤ y2) (J1) (rd (σ.1 16) 250 y2 (fun v5 => jn (α := Int32 → Prop) (fun (y7 : Int32) => jn (α := Int32 → Prop) (fun (y9 : Int32) => br (y9 = (0 : Int32)) (nm (y2 + (1 : Int32)) (fun x11 => rec3 x11)) (post y2)) (fun J8 => lpE2 (w_X12_stateOf_L29 y2 σ J8) y7 (0 : Int32))) (fun J6 => br (v5 = a1) (J6 (1 : Int32)) (J6 (0 : Int32)))))
def w_X12_stateOf (σ : St) (a1 : Int32) (post : Int32 → Prop) : Prop := jn (α := Prop) (post (-1 : Int32)) (fun J1 => lpE1 (w_X12_stateOf_L2 a1 σ post J1) (0 : Int32))
set_option maxHeartbeats 4000000 in
set_option maxRecDepth 100000 in
theorem c_X12_stateOf (l : Launch) (D : va_G) (cy : Nat → ClassId) (ad : Nat → Nat) (tL : Nat) (σ : St) (a1 : Int32) (post : Int32 → Prop) (hF : w_X12_stateOf σ a1 post) : Cti l yX12_stateOf cX12_stateOf 5 (some .int) 0 0 D cy ad tL dsM σ [.ref (ad 0), .int a1] (fun r u => post r ∧ σ = u) := by
  refine cti_of (by decide) (Nat.le_of_ble_eq_true rfl) ?_
  intro p e s m args below meth c A hx hb hml hr hlk hg hown hA hK H locs hP hD hS hLB ls hl
  have hown : s.vm.findClass RX12 = some m.cls := hown
  have hl : lv_has ls 5 [(0, .ref (ad 0)), (1, .int a1)] := hl
  refine lv_iconst (v := (0 : Int32)) hx hb dX12_stateOf_0 (by decide) ?_
  refine lv_istore_n (lv' := [(2, .int (0 : Int32)), (0, .ref (ad 0)), (1, .int a1)]) hx hb dX12_stateOf_1 rfl hl (by decide) rfl (fun ls hl => ?_)
  refine jn_use hF (fun K => ∀ (H : Heap) (locs : List Loc) (ls : Array Slot), K → va_P D vwCl (wld cy ad dsM σ) H → va_D A (wld cy ad dsM σ) → va_S A s.heap H locs → lv_has ls 5 [] → W p l e (rmO 0 0) s m args below meth c H locs 0 0 (MQ below (va_Qi (fun r u => post r ∧ σ = u) (cBk D cy ad dsM A) A) args s 0 0 A) (F0 m 96 ls [])) (fun H locs ls hF hP hD hS hl => ?_) (fun J1 hJ1 hF => ?_)
  · refine lv_iconst (v := (-1 : Int32)) hx hb dX12_stateOf_96 (by decide) ?_
    exact wi_iret hx hb hr hlk hK hP hD hS dX12_stateOf_97 ⟨hF, rfl⟩
  · refine lpE1_use hF (fun (y2 : Int32) => ∀ (H : Heap) (locs : List Loc) (ls : Array Slot), va_P D vwCl (wld cy ad dsM σ) H → va_D A (wld cy ad dsM σ) → va_S A s.heap H locs → lv_has ls 5 [(0, .ref (ad 0)), (1, .int a1), (2, .int y2)] → W p l e (rmO 0 0) s m args below meth c H locs 0 0 (MQ below (va_Qi (fun r u => post r ∧ σ = u) (cBk D cy ad dsM A) A) args s 0 0 A) (F0 m 2 ls [])) (fun rec3 hrec3 y2 hF H locs ls hP hD hS hl => ?_) H locs ls hP hD hS (lv_sub hl [1, 2, 0] rfl)
    refine lv_iload_n hx hb dX12_stateOf_2 rfl (lv_at hl 2 rfl) ?_
    refine lv_aload_n hx hb dX12_stateOf_3 rfl (lv_at hl 0 rfl) ?_
    refine wi_geti hx hb hg hown hK hP 0 27 rfl rfl cb_12 (by decide) kw_626 dX12_stateOf_4 ?_
    refine lv_icmp_ge (tgt := 96) hx hb dX12_stateOf_7 (by decide) (fun c4 => ?_) (fun c4 => ?_)
    · have hF := brT hF c4
      exact hJ1  H locs ls hF hP hD hS (lv_sub hl [] rfl)
    · have hF := brF hF c4
      refine lv_aload_n hx hb dX12_stateOf_10 rfl (lv_at hl 0 rfl) ?_
      refine wi_getr hx hb hg hown hK hP 0 30 16 rfl rfl cb_12 (by decide) kw_589 dX12_stateOf_11 ?_
      refine lv_iload_n hx hb dX12_stateOf_14 rfl (lv_at hl 2 rfl) ?_
      obtain ⟨hin, hF⟩ := hF
      refine wi_iald hx hb hK hP 16 rfl hin dX12_stateOf_15 (fun v5 ev5 => ?_)
      have hF := hF v5 ev5
      refine lv_iload_n hx hb dX12_stateOf_16 rfl (lv_at hl 1 rfl) ?_
      refine jn_use hF (fun K => ∀ (y7 : Int32) (H : Heap) (locs : List Loc) (ls : Array Slot), K y7 → va_P D vwCl (wld cy ad dsM σ) H → va_D A (wld cy ad dsM σ) → va_S A s.heap H locs → lv_has ls 5 [(0, .ref (ad 0)), (1, .int a1), (2, .int y2)] → W p l e (rmO 0 0) s m args below meth c H locs 0 0 (MQ below (va_Qi (fun r u => post r ∧ σ = u) (cBk D cy ad dsM A) A) args s 0 0 A) (F0 m 25 ls [.int y7])) (fun y7 H locs ls hF hP hD hS hl => ?_) (fun J6 hJ6 hF => ?_)
      · refine lv_istore_n (lv' := [(3, .int y7), (0, .ref (ad 0)), (1, .int a1), (2, .int y2)]) hx hb dX12_stateOf_25 rfl hl (by decide) rfl (fun ls hl => ?_)
        refine lv_iconst (v := (0 : Int32)) hx hb dX12_stateOf_26 (by decide) ?_
        refine lv_istore (lv' := [(4, .int (0 : Int32)), (3, .int y7), (0, .ref (ad 0)), (1, .int a1), (2, .int y2)]) hx hb dX12_stateOf_27 hl (by decide) rfl (fun ls hl => ?_)
        refine jn_use hF (fun K => ∀ (y9 : Int32) (H : Heap) (locs : List Loc) (ls : Array Slot), K y9 → va_P D vwCl (wld cy ad dsM σ) H → va_D A (wld cy ad dsM σ) → va_S A s.heap H locs → lv_has ls 5 [(0, .ref (ad 0)), (1, .int a1), (2, .int y2), (3, .int y9)] → W p l e (rmO 0 0) s m args below meth c H locs 0 0 (MQ below (va_Qi (fun r u => post r ∧ σ = u) (cBk D cy ad dsM A) A) args s 0 0 A) (F0 m 84 ls [])) (fun y9 H locs ls hF hP hD hS hl => ?_) (fun J8 hJ8 hF => ?_)
        · refine lv_iload_n hx hb dX12_stateOf_84 rfl (lv_at hl 3 rfl) ?_
          refine lv_if_eq (tgt := 90) hx hb dX12_stateOf_85 (by decide) (fun c10 => ?_) (fun c10 => ?_)
          · have hF := brT hF c10
            obtain ⟨x11, ex11⟩ : ∃ z : Int32, z = (y2 + (1 : Int32)) := ⟨_, rfl⟩
            have hF := hF x11 ex11
            refine lv_iinc (v := x11) (lv' := [(2, .int x11), (0, .ref (ad 0)), (1, .int a1), (3, .int y9)]) hx hb dX12_stateOf_90 hl (k := 2) rfl (by rw [ex11]; rfl) (by decide) rfl (fun ls hl => ?_)
            refine lv_goto (tgt := 2) hx hb dX12_stateOf_93 (by decide) ?_
            exact hrec3 x11 hF H locs ls hP hD hS (lv_sub hl [1, 2, 0] rfl)
          · have hF := brF hF c10
            refine lv_iload_n hx hb dX12_stateOf_88 rfl (lv_at hl 2 rfl) ?_
            exact wi_iret hx hb hr hlk hK hP hD hS dX12_stateOf_89 ⟨hF, rfl⟩
        · refine lpE2_use hF (fun (y12 : Int32) (y13 : Int32) => ∀ (H : Heap) (locs : List Loc) (ls : Array Slot), va_P D vwCl (wld cy ad dsM σ) H → va_D A (wld cy ad dsM σ) → va_S A s.heap H locs → lv_has ls 5 [(0, .ref (ad 0)), (1, .int a1), (2, .int y2), (3, .int y12), (4, .int y13)] → W p l e (rmO 0 0) s m args below meth c H locs 0 0 (MQ below (va_Qi (fun r u => post r ∧ σ = u) (cBk D cy ad dsM A) A) args s 0 0 A) (F0 m 29 ls [])) (fun rec14 hrec14 y12 y13 hF H locs ls hP hD hS hl => ?_) H locs ls hP hD hS (lv_sub hl [2, 3, 4, 1, 0] rfl)
          refine lv_iload hx hb dX12_stateOf_29 (lv_at hl 4 rfl) ?_
          refine lv_bipush (v := (16 : Int32)) hx hb dX12_stateOf_31 (by decide) ?_
          refine lv_icmp_ge (tgt := 84) hx hb dX12_stateOf_33 (by decide) (fun c15 => ?_) (fun c15 => ?_)
          · have hF := brT hF c15
            exact hJ8 y12 H locs ls hF hP hD hS (lv_sub hl [0, 1, 2, 3] rfl)
          · have hF := brF hF c15
            refine lv_iload_n hx hb dX12_stateOf_36 rfl (lv_at hl 3 rfl) ?_
            refine lv_if_eq (tgt := 84) hx hb dX12_stateOf_37 (by decide) (fun c16 => ?_) (fun c16 => ?_)
            · have hF := brT hF c16
              exact hJ8 y12 H locs ls hF hP hD hS (lv_sub hl [0, 1, 2, 3] rfl)
            · have hF := brF hF c16
              refine lv_aload_n hx hb dX12_stateOf_40 rfl (lv_at hl 0 rfl) ?_
              refine wi_getr hx hb hg hown hK hP 0 10 8 rfl rfl cb_12 (by decide) kw_583 dX12_stateOf_41 ?_
              refine lv_iload hx hb dX12_stateOf_44 (lv_at hl 4 rfl) ?_
              obtain ⟨hin, hF⟩ := hF
              refine wi_iald hx hb hK hP 8 rfl hin dX12_stateOf_46 (fun v17 ev17 => ?_)
              have hF := hF v17 ev17
              refine lv_if_eq (tgt := 72) hx hb dX12_stateOf_47 (by decide) (fun c18 => ?_) (fun c18 => ?_)
              · have hF := brT hF c18
                refine lv_iconst (v := (1 : Int32)) hx hb dX12_stateOf_72 (by decide) ?_
                refine lv_goto (tgt := 77) hx hb dX12_stateOf_73 (by decide) ?_
                refine lv_istore_n (lv' := [(3, .int (1 : Int32)), (0, .ref (ad 0)), (1, .int a1), (2, .int y2), (4, .int y13)]) hx hb dX12_stateOf_77 rfl hl (by decide) rfl (fun ls hl => ?_)
                obtain ⟨x19, ex19⟩ : ∃ z : Int32, z = (y13 + (1 : Int32)) := ⟨_, rfl⟩
                have hF := hF x19 ex19
                refine lv_iinc (v := x19) (lv' := [(4, .int x19), (3, .int (1 : Int32)), (0, .ref (ad 0)), (1, .int a1), (2, .int y2)]) hx hb dX12_stateOf_78 hl (k := 4) rfl (by rw [ex19]; rfl) (by decide) rfl (fun ls hl => ?_)
                refine lv_goto (tgt := 29) hx hb dX12_stateOf_81 (by decide) ?_
                exact hrec14 (1 : Int32) x19 hF H locs ls hP hD hS (lv_sub hl [2, 3, 4, 1, 0] rfl)
              · have hF := brF hF c18
                refine lv_aload_n hx hb dX12_stateOf_50 rfl (lv_at hl 0 rfl) ?_
                refine wi_getr hx hb hg hown hK hP 0 31 17 rfl rfl cb_12 (by decide) kw_590 dX12_stateOf_51 ?_
                refine lv_bipush (v := (16 : Int32)) hx hb dX12_stateOf_54 (by decide) ?_
                refine lv_iload_n hx hb dX12_stateOf_56 rfl (lv_at hl 2 rfl) ?_
                refine lv_imul hx hb dX12_stateOf_57 ?_
                refine lv_iload hx hb dX12_stateOf_58 (lv_at hl 4 rfl) ?_
                refine lv_iadd hx hb dX12_stateOf_60 ?_
                obtain ⟨hin, hF⟩ := hF
                refine wi_iald hx hb hK hP 17 rfl hin dX12_stateOf_61 (fun v20 ev20 => ?_)
                have hF := hF v20 ev20
                refine lv_aload_n hx hb dX12_stateOf_62 rfl (lv_at hl 0 rfl) ?_
                refine wi_getr hx hb hg hown hK hP 0 44 29 rfl rfl cb_12 (by decide) kw_602 dX12_stateOf_63 ?_
                refine lv_iload hx hb dX12_stateOf_66 (lv_at hl 4 rfl) ?_
                obtain ⟨hin, hF⟩ := hF
                refine wi_iald hx hb hK hP 29 rfl hin dX12_stateOf_68 (fun v21 ev21 => ?_)
                have hF := hF v21 ev21
                refine lv_icmp_ne (tgt := 76) hx hb dX12_stateOf_69 (by decide) (fun c22 => ?_) (fun c22 => ?_)
                · have hF := brF hF c22
                  refine lv_iconst (v := (0 : Int32)) hx hb dX12_stateOf_76 (by decide) ?_
                  refine lv_istore_n (lv' := [(3, .int (0 : Int32)), (0, .ref (ad 0)), (1, .int a1), (2, .int y2), (4, .int y13)]) hx hb dX12_stateOf_77 rfl hl (by decide) rfl (fun ls hl => ?_)
                  obtain ⟨x23, ex23⟩ : ∃ z : Int32, z = (y13 + (1 : Int32)) := ⟨_, rfl⟩
                  have hF := hF x23 ex23
                  refine lv_iinc (v := x23) (lv' := [(4, .int x23), (3, .int (0 : Int32)), (0, .ref (ad 0)), (1, .int a1), (2, .int y2)]) hx hb dX12_stateOf_78 hl (k := 4) rfl (by rw [ex23]; rfl) (by decide) rfl (fun ls hl => ?_)
                  refine lv_goto (tgt := 29) hx hb dX12_stateOf_81 (by decide) ?_
                  exact hrec14 (0 : Int32) x23 hF H locs ls hP hD hS (lv_sub hl [2, 3, 4, 1, 0] rfl)
                · have hF := brT hF c22
                  refine lv_iconst (v := (1 : Int32)) hx hb dX12_stateOf_72 (by decide) ?_
                  refine lv_goto (tgt := 77) hx hb dX12_stateOf_73 (by decide) ?_
                  refine lv_istore_n (lv' := [(3, .int (1 : Int32)), (0, .ref (ad 0)), (1, .int a1), (2, .int y2), (4, .int y13)]) hx hb dX12_stateOf_77 rfl hl (by decide) rfl (fun ls hl => ?_)
                  obtain ⟨x24, ex24⟩ : ∃ z : Int32, z = (y13 + (1 : Int32)) := ⟨_, rfl⟩
                  have hF := hF x24 ex24
                  refine lv_iinc (v := x24) (lv' := [(4, .int x24), (3, .int (1 : Int32)), (0, .ref (ad 0)), (1, .int a1), (2, .int y2)]) hx hb dX12_stateOf_78 hl (k := 4) rfl (by rw [ex24]; rfl) (by decide) rfl (fun ls hl => ?_)
                  refine lv_goto (tgt := 29) hx hb dX12_stateOf_81 (by decide) ?_
                  exact hrec14 (1 : Int32) x24 hF H locs ls hP hD hS (lv_sub hl [2, 3, 4, 1, 0] rfl)
      · refine lv_icmp_ne (tgt := 24) hx hb dX12_stateOf_17 (by decide) (fun c25 => ?_) (fun c25 => ?_)
        · have hF := brF hF c25
          refine lv_iconst (v := (0 : Int32)) hx hb dX12_stateOf_24 (by decide) ?_
          exact hJ6 (0 : Int32) H locs ls hF hP hD hS (lv_sub hl [0, 1, 2] rfl)
        · have hF := brT hF c25
          refine lv_iconst (v := (1 : Int32)) hx hb dX12_stateOf_20 (by decide) ?_
          refine lv_goto (tgt := 25) hx hb dX12_stateOf_21 (by decide) ?_
          exact hJ6 (1 : Int32) H locs ls hF hP hD hS (lv_sub hl [0, 1, 2] rfl)
def w_X12_addState_L13 (J2 : St → Prop) (rec17 : Int32 → St → Prop) (y15 : Int32) (σ16 : St) : Prop := br ((16 : Int32) ≤ y15) (J2 σ16) (rd (σ16.1 8) 16 y15 (fun v19 => jn (α := Int32 → Prop) (fun (y21 : Int32) => ck (((16 : Int32) * (σ16.1 0 27)) + y15) 4000 (nm (upI σ16 17 ((((16 : Int32) * (σ16.1 0 27)) + y15)).toNatClampNeg y21) (fun σ22 => nm (y15 + (1 : Int32)) (fun x23 => rec17 x23 σ22)))) (fun J20 => br (v19 = (0 : Int32)) (J20 (0 : Int32)) (rd (σ16.1 29) 16 y15 (fun v25 => J20 v25)))))
def w_X12_addState (σ : St) (a1 : Int32) (a2 : Int32) (a3 : Int32) (a4 : Int32) (a5 : Int32) (post : St → Prop) : Prop := ck (σ.1 0 27) 250 (nm (upI σ 16 ((σ.1 0 27)).toNatClampNeg a1) (fun σ1 => jn (α := St → Prop) (fun (σ3 : St) => ck (σ3.1 0 27) 250 (nm (upI σ3 18 ((σ3.1 0 27)).toNatClampNeg a2) (fun σ4 => ck (σ4.1 0 27) 250 (nm (upI σ4 19 ((σ4.1 0 27)).toNatClampNeg a3) (fun σ5 => ck (σ5.1 0 27) 250 (nm (upI σ5 20 ((σ5.1 0 27)).toNatClampNeg a4) (fun σ6 => ck (σ6.1 0 27) 250 (nm (upI σ6 21 ((σ6.1 0 27)).toNatClampNeg a5) (fun σ7 => jn (α := Int32 → Prop) (fun (y9 : Int32) => ck (σ7.1 0 27) 250 (nm (upI σ7 22 ((σ7.1 0 27)).toNatClampNeg y9) (fun σ10 => ck (σ10.1 0 27) 250 (nm (upI σ10 23 ((σ10.1 0 27)).toNatClampNeg (-2 : Int32)) (fun σ11 => nm (upI σ11 0 27 ((σ11.1 0 27) + (1 : Int32))) (fun σ12 => post σ12)))))) (fun J8 => br ((0 : Int32) ≤ a2) (rd (σ7.1 22) 250 a2 (fun v14 => J8 (v14 + (1 : Int32)))) (J8 (0 : Int32)))))))))))) (fun J2 => lpE2 (w_X12_addState_L13 J2) (0 : Int32) σ1)))
set_option maxHeartbeats 4000000 in
set_option maxRecDepth 100000 in
theorem c_X12_addState (l : Launch) (D : va_G) (cy : Nat → ClassId) (ad : Nat → Nat) (tL : Nat) (σ : St) (a1 : Int32) (a2 : Int32) (a3 : Int32) (a4 : Int32) (a5 : Int32) (post : St → Prop) (hF : w_X12_addState σ a1 a2 a3 a4 a5 post) : Ctv l yX12_addState cX12_addState 7 none 0 0 D cy ad tL dsM σ [.ref (ad 0), .int a1, .int a2, .int a3, .int a4, .int a5] post := by
  refine ctv_of (by decide) (Nat.le_of_ble_eq_true rfl) ?_
  intro p e s m args below meth c A hx hb hml hr hlk hg hown hA hK H locs hP hD hS hLB ls hl
  have hown : s.vm.findClass RX12 = some m.cls := hown
  have hl : lv_has ls 7 [(0, .ref (ad 0)), (1, .int a1), (2, .int a2), (3, .int a3), (4, .int a4), (5, .int a5)] := hl
  refine lv_aload_n hx hb dX12_addState_0 rfl (lv_at hl 0 rfl) ?_
  refine wi_getr hx hb hg hown hK hP 0 30 16 rfl rfl cb_12 (by decide) kw_589 dX12_addState_1 ?_
  refine lv_aload_n hx hb dX12_addState_4 rfl (lv_at hl 0 rfl) ?_
  refine wi_geti hx hb hg hown hK hP 0 27 rfl rfl cb_12 (by decide) kw_626 dX12_addState_5 ?_
  refine lv_iload_n hx hb dX12_addState_8 rfl (lv_at hl 1 rfl) ?_
  obtain ⟨hin, hF⟩ := hF
  refine wi_iast hx hb hK hP hD hS 16 rfl hin dX12_addState_9 (fun σ1 eσ1 H locs hP hD hS => ?_)
  have hF := hF σ1 eσ1
  refine lv_iconst (v := (0 : Int32)) hx hb dX12_addState_10 (by decide) ?_
  refine lv_istore (lv' := [(6, .int (0 : Int32)), (0, .ref (ad 0)), (1, .int a1), (2, .int a2), (3, .int a3), (4, .int a4), (5, .int a5)]) hx hb dX12_addState_11 hl (by decide) rfl (fun ls hl => ?_)
  refine jn_use hF (fun K => ∀ (σ3 : St) (H : Heap) (locs : List Loc) (ls : Array Slot), K σ3 → va_P D vwCl (wld cy ad dsM σ3) H → va_D A (wld cy ad dsM σ3) → va_S A s.heap H locs → lv_has ls 7 [(0, .ref (ad 0)), (2, .int a2), (3, .int a3), (4, .int a4), (5, .int a5)] → W p l e (rmO 0 0) s m args below meth c H locs 0 0 (MQ below (va_Qv post (cBk D cy ad dsM A) A) args s 0 0 A) (F0 m 62 ls [])) (fun σ3 H locs ls hF hP hD hS hl => ?_) (fun J2 hJ2 hF => ?_)
  · refine lv_aload_n hx hb dX12_addState_62 rfl (lv_at hl 0 rfl) ?_
    refine wi_getr hx hb hg hown hK hP 0 32 18 rfl rfl cb_12 (by decide) kw_591 dX12_addState_63 ?_
    refine lv_aload_n hx hb dX12_addState_66 rfl (lv_at hl 0 rfl) ?_
    refine wi_geti hx hb hg hown hK hP 0 27 rfl rfl cb_12 (by decide) kw_626 dX12_addState_67 ?_
    refine lv_iload_n hx hb dX12_addState_70 rfl (lv_at hl 1 rfl) ?_
    obtain ⟨hin, hF⟩ := hF
    refine wi_iast hx hb hK hP hD hS 18 rfl hin dX12_addState_71 (fun σ4 eσ4 H locs hP hD hS => ?_)
    have hF := hF σ4 eσ4
    refine lv_aload_n hx hb dX12_addState_72 rfl (lv_at hl 0 rfl) ?_
    refine wi_getr hx hb hg hown hK hP 0 33 19 rfl rfl cb_12 (by decide) kw_592 dX12_addState_73 ?_
    refine lv_aload_n hx hb dX12_addState_76 rfl (lv_at hl 0 rfl) ?_
    refine wi_geti hx hb hg hown hK hP 0 27 rfl rfl cb_12 (by decide) kw_626 dX12_addState_77 ?_
    refine lv_iload_n hx hb dX12_addState_80 rfl (lv_at hl 2 rfl) ?_
    obtain ⟨hin, hF⟩ := hF
    refine wi_iast hx hb hK hP hD hS 19 rfl hin dX12_addState_81 (fun σ5 eσ5 H locs hP hD hS => ?_)
    have hF := hF σ5 eσ5
    refine lv_aload_n hx hb dX12_addState_82 rfl (lv_at hl 0 rfl) ?_
    refine wi_getr hx hb hg hown hK hP 0 34 20 rfl rfl cb_12 (by decide) kw_593 dX12_addState_83 ?_
    refine lv_aload_n hx hb dX12_addState_86 rfl (lv_at hl 0 rfl) ?_
    refine wi_geti hx hb hg hown hK hP 0 27 rfl rfl cb_12 (by decide) kw_626 dX12_addState_87 ?_
    refine lv_iload hx hb dX12_addState_90 (lv_at hl 3 rfl) ?_
    obtain ⟨hin, hF⟩ := hF
    refine wi_iast hx hb hK hP hD hS 20 rfl hin dX12_addState_92 (fun σ6 eσ6 H locs hP hD hS => ?_)
    have hF := hF σ6 eσ6
    refine lv_aload_n hx hb dX12_addState_93 rfl (lv_at hl 0 rfl) ?_
    refine wi_getr hx hb hg hown hK hP 0 35 21 rfl rfl cb_12 (by decide) kw_594 dX12_addState_94 ?_
    refine lv_aload_n hx hb dX12_addState_97 rfl (lv_at hl 0 rfl) ?_
    refine wi_geti hx hb hg hown hK hP 0 27 rfl rfl cb_12 (by decide) kw_626 dX12_addState_98 ?_
    refine lv_iload hx hb dX12_addState_101 (lv_at hl 4 rfl) ?_
    obtain ⟨hin, hF⟩ := hF
    refine wi_iast hx hb hK hP hD hS 21 rfl hin dX12_addState_103 (fun σ7 eσ7 H locs hP hD hS => ?_)
    have hF := hF σ7 eσ7
    refine lv_aload_n hx hb dX12_addState_104 rfl (lv_at hl 0 rfl) ?_
    refine wi_getr hx hb hg hown hK hP 0 36 22 rfl rfl cb_12 (by decide) kw_595 dX12_addState_105 ?_
    refine lv_aload_n hx hb dX12_addState_108 rfl (lv_at hl 0 rfl) ?_
    refine wi_geti hx hb hg hown hK hP 0 27 rfl rfl cb_12 (by decide) kw_626 dX12_addState_109 ?_
    refine lv_iload_n hx hb dX12_addState_112 rfl (lv_at hl 1 rfl) ?_
    refine jn_use hF (fun K => ∀ (y9 : Int32) (H : Heap) (locs : List Loc) (ls : Array Slot), K y9 → va_P D vwCl (wld cy ad dsM σ7) H → va_D A (wld cy ad dsM σ7) → va_S A s.heap H locs → lv_has ls 7 [(0, .ref (ad 0))] → W p l e (rmO 0 0) s m args below meth c H locs 0 0 (MQ below (va_Qv post (cBk D cy ad dsM A) A) args s 0 0 A) (F0 m 128 ls [.int y9, .int (σ7.1 0 27), .ref (ad 22)])) (fun y9 H locs ls hF hP hD hS hl => ?_) (fun J8 hJ8 hF => ?_)
    · obtain ⟨hin, hF⟩ := hF
      refine wi_iast hx hb hK hP hD hS 22 rfl hin dX12_addState_128 (fun σ10 eσ10 H locs hP hD hS => ?_)
      have hF := hF σ10 eσ10
      refine lv_aload_n hx hb dX12_addState_129 rfl (lv_at hl 0 rfl) ?_
      refine wi_getr hx hb hg hown hK hP 0 37 23 rfl rfl cb_12 (by decide) kw_596 dX12_addState_130 ?_
      refine lv_aload_n hx hb dX12_addState_133 rfl (lv_at hl 0 rfl) ?_
      refine wi_geti hx hb hg hown hK hP 0 27 rfl rfl cb_12 (by decide) kw_626 dX12_addState_134 ?_
      refine lv_bipush (v := (-2 : Int32)) hx hb dX12_addState_137 (by decide) ?_
      obtain ⟨hin, hF⟩ := hF
      refine wi_iast hx hb hK hP hD hS 23 rfl hin dX12_addState_139 (fun σ11 eσ11 H locs hP hD hS => ?_)
      have hF := hF σ11 eσ11
      refine lv_aload_n hx hb dX12_addState_140 rfl (lv_at hl 0 rfl) ?_
      refine lv_dup hx hb dX12_addState_141 rfl ?_
      refine wi_geti hx hb hg hown hK hP 0 27 rfl rfl cb_12 (by decide) kw_626 dX12_addState_142 ?_
      refine lv_iconst (v := (1 : Int32)) hx hb dX12_addState_145 (by decide) ?_
      refine lv_iadd hx hb dX12_addState_146 ?_
      refine wi_puti hx hb hg hown hK hP hD hS 0 27 rfl rfl cb_12 (by decide) kw_626 rfl rfl rfl dX12_addState_147 (fun σ12 eσ12 H locs hP hD hS => ?_)
      have hF := hF σ12 eσ12
      exact wi_vret hx hb hr hlk hK hP hD hS dX12_addState_150 hF
    · refine lv_if_ge (tgt := 120) hx hb dX12_addState_113 (by decide) (fun c13 => ?_) (fun c13 => ?_)
      · have hF := brT hF c13
        refine lv_aload_n hx hb dX12_addState_120 rfl (lv_at hl 0 rfl) ?_
        refine wi_getr hx hb hg hown hK hP 0 36 22 rfl rfl cb_12 (by decide) kw_595 dX12_addState_121 ?_
        refine lv_iload_n hx hb dX12_addState_124 rfl (lv_at hl 1 rfl) ?_
        obtain ⟨hin, hF⟩ := hF
        refine wi_iald hx hb hK hP 22 rfl hin dX12_addState_125 (fun v14 ev14 => ?_)
        have hF := hF v14 ev14
        refine lv_iconst (v := (1 : Int32)) hx hb dX12_addState_126 (by decide) ?_
        refine lv_iadd hx hb dX12_addState_127 ?_
        exact hJ8 (v14 + (1 : Int32)) H locs ls hF hP hD hS (lv_sub hl [0] rfl)
      · have hF := brF hF c13
        refine lv_iconst (v := (0 : Int32)) hx hb dX12_addState_116 (by decide) ?_
        refine lv_goto (tgt := 128) hx hb dX12_addState_117 (by decide) ?_
        exact hJ8 (0 : Int32) H locs ls hF hP hD hS (lv_sub hl [0] rfl)
  · refine lpE2_use hF (fun (y15 : Int32) (σ16 : St) => ∀ (H : Heap) (locs : List Loc) (ls : Array Slot), va_P D vwCl (wld cy ad dsM σ16) H → va_D A (wld cy ad dsM σ16) → va_S A s.heap H locs → lv_has ls 7 [(0, .ref (ad 0)), (2, .int a2), (3, .int a3), (4, .int a4), (5, .int a5), (6, .int y15)] → W p l e (rmO 0 0) s m args below meth c H locs 0 0 (MQ below (va_Qv post (cBk D cy ad dsM A) A) args s 0 0 A) (F0 m 13 ls [])) (fun rec17 hrec17 y15 σ16 hF H locs ls hP hD hS hl => ?_) H locs ls hP hD hS (lv_sub hl [1, 3, 4, 5, 6, 0] rfl)
    refine lv_iload hx hb dX12_addState_13 (lv_at hl 5 rfl) ?_
    refine lv_bipush (v := (16 : Int32)) hx hb dX12_addState_15 (by decide) ?_
    refine lv_icmp_ge (tgt := 62) hx hb dX12_addState_17 (by decide) (fun c18 => ?_) (fun c18 => ?_)
    · have hF := brT hF c18
      exact hJ2 σ16 H locs ls hF hP hD hS (lv_sub hl [0, 1, 2, 3, 4] rfl)
    · have hF := brF hF c18
      refine lv_aload_n hx hb dX12_addState_20 rfl (lv_at hl 0 rfl) ?_
      refine wi_getr hx hb hg hown hK hP 0 31 17 rfl rfl cb_12 (by decide) kw_590 dX12_addState_21 ?_
      refine lv_bipush (v := (16 : Int32)) hx hb dX12_addState_24 (by decide) ?_
      refine lv_aload_n hx hb dX12_addState_26 rfl (lv_at hl 0 rfl) ?_
      refine wi_geti hx hb hg hown hK hP 0 27 rfl rfl cb_12 (by decide) kw_626 dX12_addState_27 ?_
      refine lv_imul hx hb dX12_addState_30 ?_
      refine lv_iload hx hb dX12_addState_31 (lv_at hl 5 rfl) ?_
      refine lv_iadd hx hb dX12_addState_33 ?_
      refine lv_aload_n hx hb dX12_addState_34 rfl (lv_at hl 0 rfl) ?_
      refine wi_getr hx hb hg hown hK hP 0 10 8 rfl rfl cb_12 (by decide) kw_583 dX12_addState_35 ?_
      refine lv_iload hx hb dX12_addState_38 (lv_at hl 5 rfl) ?_
      obtain ⟨hin, hF⟩ := hF
      refine wi_iald hx hb hK hP 8 rfl hin dX12_addState_40 (fun v19 ev19 => ?_)
      have hF := hF v19 ev19
      refine jn_use hF (fun K => ∀ (y21 : Int32) (H : Heap) (locs : List Loc) (ls : Array Slot), K y21 → va_P D vwCl (wld cy ad dsM σ16) H → va_D A (wld cy ad dsM σ16) → va_S A s.heap H locs → lv_has ls 7 [(0, .ref (ad 0)), (2, .int a2), (3, .int a3), (4, .int a4), (5, .int a5), (6, .int y15)] → W p l e (rmO 0 0) s m args below meth c H locs 0 0 (MQ below (va_Qv post (cBk D cy ad dsM A) A) args s 0 0 A) (F0 m 55 ls [.int y21, .int (((16 : Int32) * (σ16.1 0 27)) + y15), .ref (ad 17)])) (fun y21 H locs ls hF hP hD hS hl => ?_) (fun J20 hJ20 hF => ?_)
      · obtain ⟨hin, hF⟩ := hF
        refine wi_iast hx hb hK hP hD hS 17 rfl hin dX12_addState_55 (fun σ22 eσ22 H locs hP hD hS => ?_)
        have hF := hF σ22 eσ22
        obtain ⟨x23, ex23⟩ : ∃ z : Int32, z = (y15 + (1 : Int32)) := ⟨_, rfl⟩
        have hF := hF x23 ex23
        refine lv_iinc (v := x23) (lv' := [(6, .int x23), (0, .ref (ad 0)), (2, .int a2), (3, .int a3), (4, .int a4), (5, .int a5)]) hx hb dX12_addState_56 hl (k := 5) rfl (by rw [ex23]; rfl) (by decide) rfl (fun ls hl => ?_)
        refine lv_goto (tgt := 13) hx hb dX12_addState_59 (by decide) ?_
        exact hrec17 x23 σ22 hF H locs ls hP hD hS (lv_sub hl [1, 2, 3, 4, 5, 0] rfl)
      · refine lv_if_ne (tgt := 48) hx hb dX12_addState_41 (by decide) (fun c24 => ?_) (fun c24 => ?_)
        · have hF := brF hF c24
          refine lv_aload_n hx hb dX12_addState_48 rfl (lv_at hl 0 rfl) ?_
          refine wi_getr hx hb hg hown hK hP 0 44 29 rfl rfl cb_12 (by decide) kw_602 dX12_addState_49 ?_
          refine lv_iload hx hb dX12_addState_52 (lv_at hl 5 rfl) ?_
          obtain ⟨hin, hF⟩ := hF
          refine wi_iald hx hb hK hP 29 rfl hin dX12_addState_54 (fun v25 ev25 => ?_)
          have hF := hF v25 ev25
          exact hJ20 v25 H locs ls hF hP hD hS (lv_sub hl [0, 1, 2, 3, 4, 5] rfl)
        · have hF := brT hF c24
          refine lv_iconst (v := (0 : Int32)) hx hb dX12_addState_44 (by decide) ?_
          refine lv_goto (tgt := 55) hx hb dX12_addState_45 (by decide) ?_
          exact hJ20 (0 : Int32) H locs ls hF hP hD hS (lv_sub hl [0, 1, 2, 3, 4, 5] rfl)
def w_X12_lookAtPromises_L3 (a1 : Int32) (a2 : Int32) (a3 : Int32) (a4 : Int32) (a5 : Int32) (a6 : Int32) (a7 : Int32) (J1 : St → Prop) (rec5 : Int32 → St → Prop) (y3 : Int32) (σ4 : St) : Prop := br ((σ4.1 0 11) ≤ y3) (J1 σ4) (rd (σ4.1 28) 8 y3 (fun v7 => br (v7 = (0 : Int32)) (jn (α := Int32 → Prop) (fun (y11 : Int32) => w_X12_isKept σ4 y3 a1 a2 y11 (fun r12 => br (r12 = (0 : Int32)) (ck y3 8 (nm (upI σ4 28 (y3).toNatClampNeg (vp_nar .boolean (1 : Int32))) (fun σ16 => jn (α := Int32 → Prop) (fun (y18 : Int32) => ck ((5 : Int32) * y3) 40 (nm (upI σ16 27 (((5 : Int32) * y3)).toNatClampNeg y18) (fun σ19 => ck (((5 : Int32) * y3) + (1 : Int32)) 40 (nm (upI σ19 27 ((((5 : Int32) * y3) + (1 : Int32))).toNatClampNeg a4) (fun σ20 => ck (((5 : Int32) * y3) + (2 : Int32)) 40 (nm (upI σ20 27 ((((5 : Int32) * y3) + (2 : Int32))).toNatClampNeg a5) (fun σ21 => ck (((5 : Int32) * y3) + (3 : Int32)) 40 (nm (upI σ21 27 ((((5 : Int32) * y3) + (3 : Int32))).toNatClampNeg a6) (fun σ22 => ck (((5 : Int32) * y3) + (4 : Int32)) 40 (nm (upI σ22 27 ((((5 : Int32) * y3) + (4 : Int32))).toNatClampNeg a7) (fun σ23 => nm (y3 + (1 : Int32)) (fun x24 => rec5 x24 σ23)))))))))))) (fun J17 => br ((0 : Int32) ≤ a3) (J17 a3) (J17 (-2 : Int32)))))) (nm (y3 + (1 : Int32)) (fun x15 => rec5 x15 σ4)))) (fun J10 => br ((0 : Int32) ≤ a3) (J10 (0 : Int32)) (J10 (1 : Int32)))) (nm (y3 + (1 : Int32)) (fun x9 => rec5 x9 σ4))))
def w_X12_lookAtPromises (σ : St) (a1 : Int32) (a2 : Int32) (a3 : Int32) (a4 : Int32) (a5 : Int32) (a6 : Int32) (a7 : Int32) (post : St → Prop) : Prop := jn (α := St → Prop) (fun (σ2 : St) => post σ2) (fun J1 => lpE2 (w_X12_lookAtPromises_L3 a1 a2 a3 a4 a5 a6 a7 J1) (0 : Int32) σ)
set_option maxHeartbeats 4000000 in
set_option maxRecDepth 100000 in
theorem c_X12_lookAtPromises (l : Launch) (D : va_G) (cy : Nat → ClassId) (ad : Nat → Nat) (tL : Nat) (σ : St) (a1 : Int32) (a2 : Int32) (a3 : Int32) (a4 : Int32) (a5 : Int32) (a6 : Int32) (a7 : Int32) (post : St → Prop) (hF : w_X12_lookAtPromises σ a1 a2 a3 a4 a5 a6 a7 post) : Ctv l yX12_lookAtPromises cX12_lookAtPromises 9 none 2 48 D cy ad tL dsM σ [.ref (ad 0), .int a1, .int a2, .int a3, .int a4, .int a5, .int a6, .int a7] post := by
  refine ctv_of (by decide) (Nat.le_of_ble_eq_true rfl) ?_
  intro p e s m args below meth c A hx hb hml hr hlk hg hown hA hK H locs hP hD hS hLB ls hl
  have hown : s.vm.findClass RX12 = some m.cls := hown
  have hl : lv_has ls 9 [(0, .ref (ad 0)), (1, .int a1), (2, .int a2), (3, .int a3), (4, .int a4), (5, .int a5), (6, .int a6), (7, .int a7)] := hl
  refine lv_iconst (v := (0 : Int32)) hx hb dX12_lookAtPromises_0 (by decide) ?_
  refine lv_istore (lv' := [(8, .int (0 : Int32)), (0, .ref (ad 0)), (1, .int a1), (2, .int a2), (3, .int a3), (4, .int a4), (5, .int a5), (6, .int a6), (7, .int a7)]) hx hb dX12_lookAtPromises_1 hl (by decide) rfl (fun ls hl => ?_)
  refine jn_use hF (fun K => ∀ (σ2 : St) (H : Heap) (locs : List Loc) (ls : Array Slot), K σ2 → va_P D vwCl (wld cy ad dsM σ2) H → va_D A (wld cy ad dsM σ2) → va_S A s.heap H locs → lv_has ls 9 [] → W p l e (rmO 2 48) s m args below meth c H locs 0 0 (MQ below (va_Qv post (cBk D cy ad dsM A) A) args s 0 0 A) (F0 m 127 ls [])) (fun σ2 H locs ls hF hP hD hS hl => ?_) (fun J1 hJ1 hF => ?_)
  · exact wi_vret hx hb hr hlk hK hP hD hS dX12_lookAtPromises_127 hF
  · refine lpE2_use hF (fun (y3 : Int32) (σ4 : St) => ∀ (H : Heap) (locs : List Loc) (ls : Array Slot), va_P D vwCl (wld cy ad dsM σ4) H → va_D A (wld cy ad dsM σ4) → va_S A s.heap H locs → lv_has ls 9 [(0, .ref (ad 0)), (1, .int a1), (2, .int a2), (3, .int a3), (4, .int a4), (5, .int a5), (6, .int a6), (7, .int a7), (8, .int y3)] → W p l e (rmO 2 48) s m args below meth c H locs 0 0 (MQ below (va_Qv post (cBk D cy ad dsM A) A) args s 0 0 A) (F0 m 3 ls [])) (fun rec5 hrec5 y3 σ4 hF H locs ls hP hD hS hl => ?_) H locs ls hP hD hS (lv_sub hl [1, 2, 3, 4, 5, 6, 7, 8, 0] rfl)
    refine lv_iload hx hb dX12_lookAtPromises_3 (lv_at hl 8 rfl) ?_
    refine lv_aload_n hx hb dX12_lookAtPromises_5 rfl (lv_at hl 0 rfl) ?_
    refine wi_geti hx hb hg hown hK hP 0 11 rfl rfl cb_12 (by decide) kw_659 dX12_lookAtPromises_6 ?_
    refine lv_icmp_ge (tgt := 127) hx hb dX12_lookAtPromises_9 (by decide) (fun c6 => ?_) (fun c6 => ?_)
    · have hF := brT hF c6
      exact hJ1 σ4 H locs ls hF hP hD hS (lv_sub hl [] rfl)
    · have hF := brF hF c6
      refine lv_aload_n hx hb dX12_lookAtPromises_12 rfl (lv_at hl 0 rfl) ?_
      refine wi_getr hx hb hg hown hK hP 0 43 28 rfl rfl cb_12 (by decide) kw_601 dX12_lookAtPromises_13 ?_
      refine lv_iload hx hb dX12_lookAtPromises_16 (lv_at hl 8 rfl) ?_
      obtain ⟨hin, hF⟩ := hF
      refine wi_zald hx hb hK hP 28 rfl hin dX12_lookAtPromises_18 (fun v7 ev7 => ?_)
      have hF := hF v7 ev7
      refine lv_if_ne (tgt := 121) hx hb dX12_lookAtPromises_19 (by decide) (fun c8 => ?_) (fun c8 => ?_)
      · have hF := brF hF c8
        obtain ⟨x9, ex9⟩ : ∃ z : Int32, z = (y3 + (1 : Int32)) := ⟨_, rfl⟩
        have hF := hF x9 ex9
        refine lv_iinc (v := x9) (lv' := [(8, .int x9), (0, .ref (ad 0)), (1, .int a1), (2, .int a2), (3, .int a3), (4, .int a4), (5, .int a5), (6, .int a6), (7, .int a7)]) hx hb dX12_lookAtPromises_121 hl (k := 8) rfl (by rw [ex9]; rfl) (by decide) rfl (fun ls hl => ?_)
        refine lv_goto (tgt := 3) hx hb dX12_lookAtPromises_124 (by decide) ?_
        exact hrec5 x9 σ4 hF H locs ls hP hD hS (lv_sub hl [1, 2, 3, 4, 5, 6, 7, 8, 0] rfl)
      · have hF := brT hF c8
        refine lv_aload_n hx hb dX12_lookAtPromises_22 rfl (lv_at hl 0 rfl) ?_
        refine lv_iload hx hb dX12_lookAtPromises_23 (lv_at hl 8 rfl) ?_
        refine lv_iload_n hx hb dX12_lookAtPromises_25 rfl (lv_at hl 1 rfl) ?_
        refine lv_iload_n hx hb dX12_lookAtPromises_26 rfl (lv_at hl 2 rfl) ?_
        refine lv_iload_n hx hb dX12_lookAtPromises_27 rfl (lv_at hl 3 rfl) ?_
        refine jn_use hF (fun K => ∀ (y11 : Int32) (H : Heap) (locs : List Loc) (ls : Array Slot), K y11 → va_P D vwCl (wld cy ad dsM σ4) H → va_D A (wld cy ad dsM σ4) → va_S A s.heap H locs → lv_has ls 9 [(0, .ref (ad 0)), (1, .int a1), (2, .int a2), (3, .int a3), (4, .int a4), (5, .int a5), (6, .int a6), (7, .int a7), (8, .int y3)] → W p l e (rmO 2 48) s m args below meth c H locs 0 0 (MQ below (va_Qv post (cBk D cy ad dsM A) A) args s 0 0 A) (F0 m 36 ls [.int y11, .int a2, .int a1, .int y3, .ref (ad 0)])) (fun y11 H locs ls hF hP hD hS hl => ?_) (fun J10 hJ10 hF => ?_)
        · refine wi_callVi (k := 0) (As := [.int y3, .int a1, .int a2, .int y11]) (c_X12_isKept l D cy ad tL σ4 y3 a1 a2 y11 _ hF) vw_RX12_229 rfl cb_12 hx hb hml hown hg hK hP hD hS hA hLB rfl ⟨Nat.le_of_ble_eq_true rfl, Nat.le_of_ble_eq_true rfl⟩ hl.1 rfl (Nat.le_of_ble_eq_true rfl) dX12_lookAtPromises_36 (fun r12 σ13 hw H locs hP hD hS => ?_)
          obtain ⟨hF, rfl⟩ := hw
          refine lv_if_ne (tgt := 121) hx hb dX12_lookAtPromises_39 (by decide) (fun c14 => ?_) (fun c14 => ?_)
          · have hF := brF hF c14
            obtain ⟨x15, ex15⟩ : ∃ z : Int32, z = (y3 + (1 : Int32)) := ⟨_, rfl⟩
            have hF := hF x15 ex15
            refine lv_iinc (v := x15) (lv' := [(8, .int x15), (0, .ref (ad 0)), (1, .int a1), (2, .int a2), (3, .int a3), (4, .int a4), (5, .int a5), (6, .int a6), (7, .int a7)]) hx hb dX12_lookAtPromises_121 hl (k := 8) rfl (by rw [ex15]; rfl) (by decide) rfl (fun ls hl => ?_)
            refine lv_goto (tgt := 3) hx hb dX12_lookAtPromises_124 (by decide) ?_
            exact hrec5 x15 σ4 hF H locs ls hP hD hS (lv_sub hl [1, 2, 3, 4, 5, 6, 7, 8, 0] rfl)
          · have hF := brT hF c14
            refine lv_aload_n hx hb dX12_lookAtPromises_42 rfl (lv_at hl 0 rfl) ?_
            refine wi_getr hx hb hg hown hK hP 0 43 28 rfl rfl cb_12 (by decide) kw_601 dX12_lookAtPromises_43 ?_
            refine lv_iload hx hb dX12_lookAtPromises_46 (lv_at hl 8 rfl) ?_
            refine lv_iconst (v := (1 : Int32)) hx hb dX12_lookAtPromises_48 (by decide) ?_
            obtain ⟨hin, hF⟩ := hF
            refine wi_zast hx hb hK hP hD hS 28 rfl hin dX12_lookAtPromises_49 (fun σ16 eσ16 H locs hP hD hS => ?_)
            have hF := hF σ16 eσ16
            refine lv_aload_n hx hb dX12_lookAtPromises_50 rfl (lv_at hl 0 rfl) ?_
            refine wi_getr hx hb hg hown hK hP 0 42 27 rfl rfl cb_12 (by decide) kw_600 dX12_lookAtPromises_51 ?_
            refine lv_iconst (v := (5 : Int32)) hx hb dX12_lookAtPromises_54 (by decide) ?_
            refine lv_iload hx hb dX12_lookAtPromises_55 (lv_at hl 8 rfl) ?_
            refine lv_imul hx hb dX12_lookAtPromises_57 ?_
            refine lv_iload_n hx hb dX12_lookAtPromises_58 rfl (lv_at hl 3 rfl) ?_
            refine jn_use hF (fun K => ∀ (y18 : Int32) (H : Heap) (locs : List Loc) (ls : Array Slot), K y18 → va_P D vwCl (wld cy ad dsM σ16) H → va_D A (wld cy ad dsM σ16) → va_S A s.heap H locs → lv_has ls 9 [(0, .ref (ad 0)), (1, .int a1), (2, .int a2), (3, .int a3), (4, .int a4), (5, .int a5), (6, .int a6), (7, .int a7), (8, .int y3)] → W p l e (rmO 2 48) s m args below meth c H locs 0 0 (MQ below (va_Qv post (cBk D cy ad dsM A) A) args s 0 0 A) (F0 m 68 ls [.int y18, .int ((5 : Int32) * y3), .ref (ad 27)])) (fun y18 H locs ls hF hP hD hS hl => ?_) (fun J17 hJ17 hF => ?_)
            · obtain ⟨hin, hF⟩ := hF
              refine wi_iast hx hb hK hP hD hS 27 rfl hin dX12_lookAtPromises_68 (fun σ19 eσ19 H locs hP hD hS => ?_)
              have hF := hF σ19 eσ19
              refine lv_aload_n hx hb dX12_lookAtPromises_69 rfl (lv_at hl 0 rfl) ?_
              refine wi_getr hx hb hg hown hK hP 0 42 27 rfl rfl cb_12 (by decide) kw_600 dX12_lookAtPromises_70 ?_
              refine lv_iconst (v := (5 : Int32)) hx hb dX12_lookAtPromises_73 (by decide) ?_
              refine lv_iload hx hb dX12_lookAtPromises_74 (lv_at hl 8 rfl) ?_
              refine lv_imul hx hb dX12_lookAtPromises_76 ?_
              refine lv_iconst (v := (1 : Int32)) hx hb dX12_lookAtPromises_77 (by decide) ?_
              refine lv_iadd hx hb dX12_lookAtPromises_78 ?_
              refine lv_iload hx hb dX12_lookAtPromises_79 (lv_at hl 4 rfl) ?_
              obtain ⟨hin, hF⟩ := hF
              refine wi_iast hx hb hK hP hD hS 27 rfl hin dX12_lookAtPromises_81 (fun σ20 eσ20 H locs hP hD hS => ?_)
              have hF := hF σ20 eσ20
              refine lv_aload_n hx hb dX12_lookAtPromises_82 rfl (lv_at hl 0 rfl) ?_
              refine wi_getr hx hb hg hown hK hP 0 42 27 rfl rfl cb_12 (by decide) kw_600 dX12_lookAtPromises_83 ?_
              refine lv_iconst (v := (5 : Int32)) hx hb dX12_lookAtPromises_86 (by decide) ?_
              refine lv_iload hx hb dX12_lookAtPromises_87 (lv_at hl 8 rfl) ?_
              refine lv_imul hx hb dX12_lookAtPromises_89 ?_
              refine lv_iconst (v := (2 : Int32)) hx hb dX12_lookAtPromises_90 (by decide) ?_
              refine lv_iadd hx hb dX12_lookAtPromises_91 ?_
              refine lv_iload hx hb dX12_lookAtPromises_92 (lv_at hl 5 rfl) ?_
              obtain ⟨hin, hF⟩ := hF
              refine wi_iast hx hb hK hP hD hS 27 rfl hin dX12_lookAtPromises_94 (fun σ21 eσ21 H locs hP hD hS => ?_)
              have hF := hF σ21 eσ21
              refine lv_aload_n hx hb dX12_lookAtPromises_95 rfl (lv_at hl 0 rfl) ?_
              refine wi_getr hx hb hg hown hK hP 0 42 27 rfl rfl cb_12 (by decide) kw_600 dX12_lookAtPromises_96 ?_
              refine lv_iconst (v := (5 : Int32)) hx hb dX12_lookAtPromises_99 (by decide) ?_
              refine lv_iload hx hb dX12_lookAtPromises_100 (lv_at hl 8 rfl) ?_
              refine lv_imul hx hb dX12_lookAtPromises_102 ?_
              refine lv_iconst (v := (3 : Int32)) hx hb dX12_lookAtPromises_103 (by decide) ?_
              refine lv_iadd hx hb dX12_lookAtPromises_104 ?_
              refine lv_iload hx hb dX12_lookAtPromises_105 (lv_at hl 6 rfl) ?_
              obtain ⟨hin, hF⟩ := hF
              refine wi_iast hx hb hK hP hD hS 27 rfl hin dX12_lookAtPromises_107 (fun σ22 eσ22 H locs hP hD hS => ?_)
              have hF := hF σ22 eσ22
              refine lv_aload_n hx hb dX12_lookAtPromises_108 rfl (lv_at hl 0 rfl) ?_
              refine wi_getr hx hb hg hown hK hP 0 42 27 rfl rfl cb_12 (by decide) kw_600 dX12_lookAtPromises_109 ?_
              refine lv_iconst (v := (5 : Int32)) hx hb dX12_lookAtPromises_112 (by decide) ?_
              refine lv_iload hx hb dX12_lookAtPromises_113 (lv_at hl 8 rfl) ?_
              refine lv_imul hx hb dX12_lookAtPromises_115 ?_
              refine lv_iconst (v := (4 : Int32)) hx hb dX12_lookAtPromises_116 (by decide) ?_
              refine lv_iadd hx hb dX12_lookAtPromises_117 ?_
              refine lv_iload hx hb dX12_lookAtPromises_118 (lv_at hl 7 rfl) ?_
              obtain ⟨hin, hF⟩ := hF
              refine wi_iast hx hb hK hP hD hS 27 rfl hin dX12_lookAtPromises_120 (fun σ23 eσ23 H locs hP hD hS => ?_)
              have hF := hF σ23 eσ23
              obtain ⟨x24, ex24⟩ : ∃ z : Int32, z = (y3 + (1 : Int32)) := ⟨_, rfl⟩
              have hF := hF x24 ex24
              refine lv_iinc (v := x24) (lv' := [(8, .int x24), (0, .ref (ad 0)), (1, .int a1), (2, .int a2), (3, .int a3), (4, .int a4), (5, .int a5), (6, .int a6), (7, .int a7)]) hx hb dX12_lookAtPromises_121 hl (k := 8) rfl (by rw [ex24]; rfl) (by decide) rfl (fun ls hl => ?_)
              refine lv_goto (tgt := 3) hx hb dX12_lookAtPromises_124 (by decide) ?_
              exact hrec5 x24 σ23 hF H locs ls hP hD hS (lv_sub hl [1, 2, 3, 4, 5, 6, 7, 8, 0] rfl)
            · refine lv_if_ge (tgt := 67) hx hb dX12_lookAtPromises_59 (by decide) (fun c25 => ?_) (fun c25 => ?_)
              · have hF := brT hF c25
                refine lv_iload_n hx hb dX12_lookAtPromises_67 rfl (lv_at hl 3 rfl) ?_
                exact hJ17 a3 H locs ls hF hP hD hS (lv_sub hl [0, 1, 2, 3, 4, 5, 6, 7, 8] rfl)
              · have hF := brF hF c25
                refine lv_bipush (v := (-2 : Int32)) hx hb dX12_lookAtPromises_62 (by decide) ?_
                refine lv_goto (tgt := 68) hx hb dX12_lookAtPromises_64 (by decide) ?_
                exact hJ17 (-2 : Int32) H locs ls hF hP hD hS (lv_sub hl [0, 1, 2, 3, 4, 5, 6, 7, 8] rfl)
        · refine lv_if_ge (tgt := 35) hx hb dX12_lookAtPromises_28 (by decide) (fun c26 => ?_) (fun c26 => ?_)
          · have hF := brT hF c26
            refine lv_iconst (v := (0 : Int32)) hx hb dX12_lookAtPromises_35 (by decide) ?_
            exact hJ10 (0 : Int32) H locs ls hF hP hD hS (lv_sub hl [0, 1, 2, 3, 4, 5, 6, 7, 8] rfl)
          · have hF := brF hF c26
            refine lv_iconst (v := (1 : Int32)) hx hb dX12_lookAtPromises_31 (by decide) ?_
            refine lv_goto (tgt := 36) hx hb dX12_lookAtPromises_32 (by decide) ?_
            exact hJ10 (1 : Int32) H locs ls hF hP hD hS (lv_sub hl [0, 1, 2, 3, 4, 5, 6, 7, 8] rfl)
def w_X12_tryMove (σ : St) (a1 : Int32) (a2 : Int32) (a3 : Int32) (a4 : Int32) (post : St → Prop) : Prop := br ((σ.1 0 29) = (20000 : Int32)) (nm (upI σ 0 26 (1 : Int32)) (fun σ27 => post σ27)) (w_X12_behind σ a4 (fun r2 => w_X12_stateOf σ r2 (fun r4 => jn (α := Prop) (nm (upI σ 0 29 ((σ.1 0 29) + (1 : Int32))) (fun σ7 => jn (α := Int32 → St → Prop) (fun (y9 : Int32) (σ10 : St) => ck (σ10.1 0 38) 20000 (nm (upI σ10 24 ((σ10.1 0 38)).toNatClampNeg a1) (fun σ11 => ck (σ11.1 0 38) 20000 (nm (upI σ11 25 ((σ11.1 0 38)).toNatClampNeg y9) (fun σ12 => w_X12_turned σ12 a4 (fun r13 => ck (σ12.1 0 38) 20000 (nm (upI σ12 26 ((σ12.1 0 38)).toNatClampNeg r13) (fun σ15 => nm (upI σ15 0 38 ((σ15.1 0 38) + (1 : Int32))) (fun σ16 => rd (σ16.1 16) 250 a1 (fun v17 => w_X12_lookAtPromises σ16 v17 r2 a1 a2 a3 a4 y9 (fun σ19 => post σ19))))))))))) (fun J8 => br ((0 : Int32) ≤ r4) (J8 r4 σ7) (w_X12_addState σ7 r2 a1 a2 a3 a4 (fun σ22 => nm ((σ22.1 0 27) - (1 : Int32)) (fun x23 => J8 x23 σ22)))))) (fun J6 => br ((0 : Int32) ≤ r4) (J6) (br ((σ.1 0 27) = (250 : Int32)) (nm (upI σ 0 26 (1 : Int32)) (fun σ26 => post σ26)) (J6))))))
set_option maxHeartbeats 4000000 in
set_option maxRecDepth 100000 in
theorem c_X12_tryMove (l : Launch) (D : va_G) (cy : Nat → ClassId) (ad : Nat → Nat) (tL : Nat) (σ : St) (a1 : Int32) (a2 : Int32) (a3 : Int32) (a4 : Int32) (post : St → Prop) (hF : w_X12_tryMove σ a1 a2 a3 a4 post) : Ctv l yX12_tryMove cX12_tryMove 7 none 3 76 D cy ad tL dsM σ [.ref (ad 0), .int a1, .int a2, .int a3, .int a4] post := by
  refine ctv_of (by decide) (Nat.le_of_ble_eq_true rfl) ?_
  intro p e s m args below meth c A hx hb hml hr hlk hg hown hA hK H locs hP hD hS hLB ls hl
  have hown : s.vm.findClass RX12 = some m.cls := hown
  have hl : lv_has ls 7 [(0, .ref (ad 0)), (1, .int a1), (2, .int a2), (3, .int a3), (4, .int a4)] := hl
  refine lv_aload_n hx hb dX12_tryMove_0 rfl (lv_at hl 0 rfl) ?_
  refine wi_geti hx hb hg hown hK hP 0 29 rfl rfl cb_12 (by decide) kw_628 dX12_tryMove_1 ?_
  refine lv_sipush (v := (20000 : Int32)) hx hb dX12_tryMove_4 (by decide) ?_
  refine lv_icmp_ne (tgt := 16) hx hb dX12_tryMove_7 (by decide) (fun c1 => ?_) (fun c1 => ?_)
  · have hF := brF hF c1
    refine lv_aload_n hx hb dX12_tryMove_16 rfl (lv_at hl 0 rfl) ?_
    refine lv_iload hx hb dX12_tryMove_17 (lv_at hl 4 rfl) ?_
    refine wi_callVi (k := 0) (As := [.int a4]) (c_X12_behind l D cy ad tL σ a4 _ hF) vw_RX12_218 rfl cb_12 hx hb hml hown hg hK hP hD hS hA hLB rfl ⟨Nat.le_of_ble_eq_true rfl, Nat.le_of_ble_eq_true rfl⟩ hl.1 rfl (Nat.le_of_ble_eq_true rfl) dX12_tryMove_19 (fun r2 σ3 hw H locs hP hD hS => ?_)
    obtain ⟨hF, rfl⟩ := hw
    refine lv_istore (lv' := [(5, .int r2), (0, .ref (ad 0)), (1, .int a1), (2, .int a2), (3, .int a3), (4, .int a4)]) hx hb dX12_tryMove_22 hl (by decide) rfl (fun ls hl => ?_)
    refine lv_aload_n hx hb dX12_tryMove_24 rfl (lv_at hl 1 rfl) ?_
    refine lv_iload hx hb dX12_tryMove_25 (lv_at hl 0 rfl) ?_
    refine wi_callVi (k := 0) (As := [.int r2]) (c_X12_stateOf l D cy ad tL σ r2 _ hF) vw_RX12_252 rfl cb_12 hx hb hml hown hg hK hP hD hS hA hLB rfl ⟨Nat.le_of_ble_eq_true rfl, Nat.le_of_ble_eq_true rfl⟩ hl.1 rfl (Nat.le_of_ble_eq_true rfl) dX12_tryMove_27 (fun r4 σ5 hw H locs hP hD hS => ?_)
    obtain ⟨hF, rfl⟩ := hw
    refine lv_istore (lv' := [(6, .int r4), (5, .int r2), (0, .ref (ad 0)), (1, .int a1), (2, .int a2), (3, .int a3), (4, .int a4)]) hx hb dX12_tryMove_30 hl (by decide) rfl (fun ls hl => ?_)
    refine lv_iload hx hb dX12_tryMove_32 (lv_at hl 0 rfl) ?_
    refine jn_use hF (fun K => ∀ (H : Heap) (locs : List Loc) (ls : Array Slot), K → va_P D vwCl (wld cy ad dsM σ) H → va_D A (wld cy ad dsM σ) → va_S A s.heap H locs → lv_has ls 7 [(0, .ref (ad 0)), (1, .int a1), (2, .int a2), (3, .int a3), (4, .int a4), (5, .int r2), (6, .int r4)] → W p l e (rmO 3 76) s m args below meth c H locs 0 0 (MQ below (va_Qv post (cBk D cy ad dsM A) A) args s 0 0 A) (F0 m 53 ls [])) (fun H locs ls hF hP hD hS hl => ?_) (fun J6 hJ6 hF => ?_)
    · refine lv_aload_n hx hb dX12_tryMove_53 rfl (lv_at hl 0 rfl) ?_
      refine lv_dup hx hb dX12_tryMove_54 rfl ?_
      refine wi_geti hx hb hg hown hK hP 0 29 rfl rfl cb_12 (by decide) kw_628 dX12_tryMove_55 ?_
      refine lv_iconst (v := (1 : Int32)) hx hb dX12_tryMove_58 (by decide) ?_
      refine lv_iadd hx hb dX12_tryMove_59 ?_
      refine wi_puti hx hb hg hown hK hP hD hS 0 29 rfl rfl cb_12 (by decide) kw_628 rfl rfl rfl dX12_tryMove_60 (fun σ7 eσ7 H locs hP hD hS => ?_)
      have hF := hF σ7 eσ7
      refine lv_iload hx hb dX12_tryMove_63 (lv_at hl 6 rfl) ?_
      refine jn_use hF (fun K => ∀ (y9 : Int32) (σ10 : St) (H : Heap) (locs : List Loc) (ls : Array Slot), K y9 σ10 → va_P D vwCl (wld cy ad dsM σ10) H → va_D A (wld cy ad dsM σ10) → va_S A s.heap H locs → lv_has ls 7 [(0, .ref (ad 0)), (1, .int a1), (2, .int a2), (3, .int a3), (4, .int a4), (5, .int r2), (6, .int y9)] → W p l e (rmO 3 76) s m args below meth c H locs 0 0 (MQ below (va_Qv post (cBk D cy ad dsM A) A) args s 0 0 A) (F0 m 87 ls [])) (fun y9 σ10 H locs ls hF hP hD hS hl => ?_) (fun J8 hJ8 hF => ?_)
      · refine lv_aload_n hx hb dX12_tryMove_87 rfl (lv_at hl 0 rfl) ?_
        refine wi_getr hx hb hg hown hK hP 0 39 24 rfl rfl cb_12 (by decide) kw_597 dX12_tryMove_88 ?_
        refine lv_aload_n hx hb dX12_tryMove_91 rfl (lv_at hl 0 rfl) ?_
        refine wi_geti hx hb hg hown hK hP 0 38 rfl rfl cb_12 (by decide) kw_629 dX12_tryMove_92 ?_
        refine lv_iload_n hx hb dX12_tryMove_95 rfl (lv_at hl 1 rfl) ?_
        obtain ⟨hin, hF⟩ := hF
        refine wi_iast hx hb hK hP hD hS 24 rfl hin dX12_tryMove_96 (fun σ11 eσ11 H locs hP hD hS => ?_)
        have hF := hF σ11 eσ11
        refine lv_aload_n hx hb dX12_tryMove_97 rfl (lv_at hl 0 rfl) ?_
        refine wi_getr hx hb hg hown hK hP 0 40 25 rfl rfl cb_12 (by decide) kw_598 dX12_tryMove_98 ?_
        refine lv_aload_n hx hb dX12_tryMove_101 rfl (lv_at hl 0 rfl) ?_
        refine wi_geti hx hb hg hown hK hP 0 38 rfl rfl cb_12 (by decide) kw_629 dX12_tryMove_102 ?_
        refine lv_iload hx hb dX12_tryMove_105 (lv_at hl 6 rfl) ?_
        obtain ⟨hin, hF⟩ := hF
        refine wi_iast hx hb hK hP hD hS 25 rfl hin dX12_tryMove_107 (fun σ12 eσ12 H locs hP hD hS => ?_)
        have hF := hF σ12 eσ12
        refine lv_aload_n hx hb dX12_tryMove_108 rfl (lv_at hl 0 rfl) ?_
        refine wi_getr hx hb hg hown hK hP 0 41 26 rfl rfl cb_12 (by decide) kw_599 dX12_tryMove_109 ?_
        refine lv_aload_n hx hb dX12_tryMove_112 rfl (lv_at hl 0 rfl) ?_
        refine wi_geti hx hb hg hown hK hP 0 38 rfl rfl cb_12 (by decide) kw_629 dX12_tryMove_113 ?_
        refine lv_aload_n hx hb dX12_tryMove_116 rfl (lv_at hl 0 rfl) ?_
        refine lv_iload hx hb dX12_tryMove_117 (lv_at hl 4 rfl) ?_
        refine wi_callVi (k := 0) (As := [.int a4]) (c_X12_turned l D cy ad tL σ12 a4 _ hF) vw_RX12_259 rfl cb_12 hx hb hml hown hg hK hP hD hS hA hLB rfl ⟨Nat.le_of_ble_eq_true rfl, Nat.le_of_ble_eq_true rfl⟩ hl.1 rfl (Nat.le_of_ble_eq_true rfl) dX12_tryMove_119 (fun r13 σ14 hw H locs hP hD hS => ?_)
        obtain ⟨hF, rfl⟩ := hw
        obtain ⟨hin, hF⟩ := hF
        refine wi_iast hx hb hK hP hD hS 26 rfl hin dX12_tryMove_122 (fun σ15 eσ15 H locs hP hD hS => ?_)
        have hF := hF σ15 eσ15
        refine lv_aload_n hx hb dX12_tryMove_123 rfl (lv_at hl 0 rfl) ?_
        refine lv_dup hx hb dX12_tryMove_124 rfl ?_
        refine wi_geti hx hb hg hown hK hP 0 38 rfl rfl cb_12 (by decide) kw_629 dX12_tryMove_125 ?_
        refine lv_iconst (v := (1 : Int32)) hx hb dX12_tryMove_128 (by decide) ?_
        refine lv_iadd hx hb dX12_tryMove_129 ?_
        refine wi_puti hx hb hg hown hK hP hD hS 0 38 rfl rfl cb_12 (by decide) kw_629 rfl rfl rfl dX12_tryMove_130 (fun σ16 eσ16 H locs hP hD hS => ?_)
        have hF := hF σ16 eσ16
        refine lv_aload_n hx hb dX12_tryMove_133 rfl (lv_at hl 0 rfl) ?_
        refine lv_aload_n hx hb dX12_tryMove_134 rfl (lv_at hl 0 rfl) ?_
        refine wi_getr hx hb hg hown hK hP 0 30 16 rfl rfl cb_12 (by decide) kw_589 dX12_tryMove_135 ?_
        refine lv_iload_n hx hb dX12_tryMove_138 rfl (lv_at hl 1 rfl) ?_
        obtain ⟨hin, hF⟩ := hF
        refine wi_iald hx hb hK hP 16 rfl hin dX12_tryMove_139 (fun v17 ev17 => ?_)
        have hF := hF v17 ev17
        refine lv_iload hx hb dX12_tryMove_140 (lv_at hl 5 rfl) ?_
        refine lv_iload_n hx hb dX12_tryMove_142 rfl (lv_at hl 1 rfl) ?_
        refine lv_iload_n hx hb dX12_tryMove_143 rfl (lv_at hl 2 rfl) ?_
        refine lv_iload_n hx hb dX12_tryMove_144 rfl (lv_at hl 3 rfl) ?_
        refine lv_iload hx hb dX12_tryMove_145 (lv_at hl 4 rfl) ?_
        refine lv_iload hx hb dX12_tryMove_147 (lv_at hl 6 rfl) ?_
        refine wi_callVv (k := 0) (As := [.int v17, .int r2, .int a1, .int a2, .int a3, .int a4, .int y9]) (c_X12_lookAtPromises l D cy ad tL σ16 v17 r2 a1 a2 a3 a4 y9 _ hF) vw_RX12_262 rfl cb_12 hx hb hml hown hg hK hP hD hS hA hLB rfl ⟨Nat.le_of_ble_eq_true rfl, Nat.le_of_ble_eq_true rfl⟩ hl.1 rfl (Nat.le_of_ble_eq_true rfl) dX12_tryMove_149 (fun σ19 hw H locs hP hD hS => ?_)
        have hF := hw
        exact wi_vret hx hb hr hlk hK hP hD hS dX12_tryMove_152 hF
      · refine lv_if_ge (tgt := 87) hx hb dX12_tryMove_65 (by decide) (fun c20 => ?_) (fun c20 => ?_)
        · have hF := brT hF c20
          exact hJ8 r4 σ7 H locs ls hF hP hD hS (lv_sub hl [0, 1, 2, 3, 4, 5, 6] rfl)
        · have hF := brF hF c20
          refine lv_aload_n hx hb dX12_tryMove_68 rfl (lv_at hl 0 rfl) ?_
          refine lv_iload hx hb dX12_tryMove_69 (lv_at hl 5 rfl) ?_
          refine lv_iload_n hx hb dX12_tryMove_71 rfl (lv_at hl 1 rfl) ?_
          refine lv_iload_n hx hb dX12_tryMove_72 rfl (lv_at hl 2 rfl) ?_
          refine lv_iload_n hx hb dX12_tryMove_73 rfl (lv_at hl 3 rfl) ?_
          refine lv_iload hx hb dX12_tryMove_74 (lv_at hl 4 rfl) ?_
          refine wi_callVv (k := 0) (As := [.int r2, .int a1, .int a2, .int a3, .int a4]) (c_X12_addState l D cy ad tL σ7 r2 a1 a2 a3 a4 _ hF) vw_RX12_255 rfl cb_12 hx hb hml hown hg hK hP hD hS hA hLB rfl ⟨Nat.le_of_ble_eq_true rfl, Nat.le_of_ble_eq_true rfl⟩ hl.1 rfl (Nat.le_of_ble_eq_true rfl) dX12_tryMove_76 (fun σ22 hw H locs hP hD hS => ?_)
          have hF := hw
          refine lv_aload_n hx hb dX12_tryMove_79 rfl (lv_at hl 0 rfl) ?_
          refine wi_geti hx hb hg hown hK hP 0 27 rfl rfl cb_12 (by decide) kw_626 dX12_tryMove_80 ?_
          refine lv_iconst (v := (1 : Int32)) hx hb dX12_tryMove_83 (by decide) ?_
          refine lv_isub hx hb dX12_tryMove_84 ?_
          refine lv_topi (fun x23 ex23 => ?_)
          have hF := hF x23 ex23
          refine lv_istore (lv' := [(6, .int x23), (0, .ref (ad 0)), (1, .int a1), (2, .int a2), (3, .int a3), (4, .int a4), (5, .int r2)]) hx hb dX12_tryMove_85 hl (by decide) rfl (fun ls hl => ?_)
          exact hJ8 x23 σ22 H locs ls hF hP hD hS (lv_sub hl [1, 2, 3, 4, 5, 6, 0] rfl)
    · refine lv_if_ge (tgt := 53) hx hb dX12_tryMove_34 (by decide) (fun c24 => ?_) (fun c24 => ?_)
      · have hF := brT hF c24
        exact hJ6  H locs ls hF hP hD hS (lv_sub hl [2, 3, 4, 5, 6, 1, 0] rfl)
      · have hF := brF hF c24
        refine lv_aload_n hx hb dX12_tryMove_37 rfl (lv_at hl 2 rfl) ?_
        refine wi_geti hx hb hg hown hK hP 0 27 rfl rfl cb_12 (by decide) kw_626 dX12_tryMove_38 ?_
        refine lv_sipush (v := (250 : Int32)) hx hb dX12_tryMove_41 (by decide) ?_
        refine lv_icmp_ne (tgt := 53) hx hb dX12_tryMove_44 (by decide) (fun c25 => ?_) (fun c25 => ?_)
        · have hF := brF hF c25
          exact hJ6  H locs ls hF hP hD hS (lv_sub hl [2, 3, 4, 5, 6, 1, 0] rfl)
        · have hF := brT hF c25
          refine lv_aload_n hx hb dX12_tryMove_47 rfl (lv_at hl 2 rfl) ?_
          refine lv_iconst (v := (1 : Int32)) hx hb dX12_tryMove_48 (by decide) ?_
          refine wi_puti hx hb hg hown hK hP hD hS 0 26 rfl rfl cb_12 (by decide) kw_625 rfl (by decide) (by decide) dX12_tryMove_49 (fun σ26 eσ26 H locs hP hD hS => ?_)
          have hF := hF σ26 eσ26
          exact wi_vret hx hb hr hlk hK hP hD hS dX12_tryMove_52 hF
  · have hF := brT hF c1
    refine lv_aload_n hx hb dX12_tryMove_10 rfl (lv_at hl 0 rfl) ?_
    refine lv_iconst (v := (1 : Int32)) hx hb dX12_tryMove_11 (by decide) ?_
    refine wi_puti hx hb hg hown hK hP hD hS 0 26 rfl rfl cb_12 (by decide) kw_625 rfl (by decide) (by decide) dX12_tryMove_12 (fun σ27 eσ27 H locs hP hD hS => ?_)
    have hF := hF σ27 eσ27
    exact wi_vret hx hb hr hlk hK hP hD hS dX12_tryMove_15 hF
def w_X12_inputsOf_L4 (a1 : Int32) (σ : St) (J1 : Int32 → Prop) (rec5 : Int32 → Int32 → Prop) (y3 : Int32) (y4 : Int32) : Prop := br ((σ.1 0 1) ≤ y4) (J1 y3) (rd (σ.1 1) 24 y4 (fun v7 => jn (α := Int32 → Prop) (fun (y9 : Int32) => nm (y3 + y9) (fun x10 => nm (y4 + (1 : Int32)) (fun x11 => rec5 x10 x11))) (fun J8 => jn (α := Prop) (J8 (0 : Int32)) (fun J12 => br (v7 = (5 : Int32)) (w_X12_isTicking σ a1 y4 (fun r14 => br (r14 = (0 : Int32)) (J12) (J8 (1 : Int32)))) (J12)))))
def w_X12_inputsOf (σ : St) (a1 : Int32) (post : Int32 → Prop) : Prop := jn (α := Int32 → Prop) (fun (y2 : Int32) => post y2) (fun J1 => lpE2 (w_X12_inputsOf_L4 a1 σ J1) (0 : Int32) (0 : Int32))
set_option maxHeartbeats 4000000 in
set_option maxRecDepth 100000 in
theorem c_X12_inputsOf (l : Launch) (D : va_G) (cy : Nat → ClassId) (ad : Nat → Nat) (tL : Nat) (σ : St) (a1 : Int32) (post : Int32 → Prop) (hF : w_X12_inputsOf σ a1 post) : Cti l yX12_inputsOf cX12_inputsOf 4 (some .int) 1 22 D cy ad tL dsM σ [.ref (ad 0), .int a1] (fun r u => post r ∧ σ = u) := by
  refine cti_of (by decide) (Nat.le_of_ble_eq_true rfl) ?_
  intro p e s m args below meth c A hx hb hml hr hlk hg hown hA hK H locs hP hD hS hLB ls hl
  have hown : s.vm.findClass RX12 = some m.cls := hown
  have hl : lv_has ls 4 [(0, .ref (ad 0)), (1, .int a1)] := hl
  refine lv_iconst (v := (0 : Int32)) hx hb dX12_inputsOf_0 (by decide) ?_
  refine lv_istore_n (lv' := [(2, .int (0 : Int32)), (0, .ref (ad 0)), (1, .int a1)]) hx hb dX12_inputsOf_1 rfl hl (by decide) rfl (fun ls hl => ?_)
  refine lv_iconst (v := (0 : Int32)) hx hb dX12_inputsOf_2 (by decide) ?_
  refine lv_istore_n (lv' := [(3, .int (0 : Int32)), (2, .int (0 : Int32)), (0, .ref (ad 0)), (1, .int a1)]) hx hb dX12_inputsOf_3 rfl hl (by decide) rfl (fun ls hl => ?_)
  refine jn_use hF (fun K => ∀ (y2 : Int32) (H : Heap) (locs : List Loc) (ls : Array Slot), K y2 → va_P D vwCl (wld cy ad dsM σ) H → va_D A (wld cy ad dsM σ) → va_S A s.heap H locs → lv_has ls 4 [(2, .int y2)] → W p l e (rmO 1 22) s m args below meth c H locs 0 0 (MQ below (va_Qi (fun r u => post r ∧ σ = u) (cBk D cy ad dsM A) A) args s 0 0 A) (F0 m 45 ls [])) (fun y2 H locs ls hF hP hD hS hl => ?_) (fun J1 hJ1 hF => ?_)
  · refine lv_iload_n hx hb dX12_inputsOf_45 rfl (lv_at hl 0 rfl) ?_
    exact wi_iret hx hb hr hlk hK hP hD hS dX12_inputsOf_46 ⟨hF, rfl⟩
  · refine lpE2_use hF (fun (y3 : Int32) (y4 : Int32) => ∀ (H : Heap) (locs : List Loc) (ls : Array Slot), va_P D vwCl (wld cy ad dsM σ) H → va_D A (wld cy ad dsM σ) → va_S A s.heap H locs → lv_has ls 4 [(0, .ref (ad 0)), (1, .int a1), (2, .int y3), (3, .int y4)] → W p l e (rmO 1 22) s m args below meth c H locs 0 0 (MQ below (va_Qi (fun r u => post r ∧ σ = u) (cBk D cy ad dsM A) A) args s 0 0 A) (F0 m 4 ls [])) (fun rec5 hrec5 y3 y4 hF H locs ls hP hD hS hl => ?_) H locs ls hP hD hS (lv_sub hl [2, 3, 1, 0] rfl)
    refine lv_iload_n hx hb dX12_inputsOf_4 rfl (lv_at hl 3 rfl) ?_
    refine lv_aload_n hx hb dX12_inputsOf_5 rfl (lv_at hl 0 rfl) ?_
    refine wi_geti hx hb hg hown hK hP 0 1 rfl rfl cb_12 (by decide) kw_559 dX12_inputsOf_6 ?_
    refine lv_icmp_ge (tgt := 45) hx hb dX12_inputsOf_9 (by decide) (fun c6 => ?_) (fun c6 => ?_)
    · have hF := brT hF c6
      exact hJ1 y3 H locs ls hF hP hD hS (lv_sub hl [2] rfl)
    · have hF := brF hF c6
      refine lv_iload_n hx hb dX12_inputsOf_12 rfl (lv_at hl 2 rfl) ?_
      refine lv_aload_n hx hb dX12_inputsOf_13 rfl (lv_at hl 0 rfl) ?_
      refine wi_getr hx hb hg hown hK hP 0 3 1 rfl rfl cb_12 (by decide) kw_560 dX12_inputsOf_14 ?_
      refine lv_iload_n hx hb dX12_inputsOf_17 rfl (lv_at hl 3 rfl) ?_
      obtain ⟨hin, hF⟩ := hF
      refine wi_iald hx hb hK hP 1 rfl hin dX12_inputsOf_18 (fun v7 ev7 => ?_)
      have hF := hF v7 ev7
      refine lv_iconst (v := (5 : Int32)) hx hb dX12_inputsOf_19 (by decide) ?_
      refine jn_use hF (fun K => ∀ (y9 : Int32) (H : Heap) (locs : List Loc) (ls : Array Slot), K y9 → va_P D vwCl (wld cy ad dsM σ) H → va_D A (wld cy ad dsM σ) → va_S A s.heap H locs → lv_has ls 4 [(0, .ref (ad 0)), (1, .int a1), (3, .int y4)] → W p l e (rmO 1 22) s m args below meth c H locs 0 0 (MQ below (va_Qi (fun r u => post r ∧ σ = u) (cBk D cy ad dsM A) A) args s 0 0 A) (F0 m 37 ls [.int y9, .int y3])) (fun y9 H locs ls hF hP hD hS hl => ?_) (fun J8 hJ8 hF => ?_)
      · refine lv_iadd hx hb dX12_inputsOf_37 ?_
        refine lv_topi (fun x10 ex10 => ?_)
        have hF := hF x10 ex10
        refine lv_istore_n (lv' := [(2, .int x10), (0, .ref (ad 0)), (1, .int a1), (3, .int y4)]) hx hb dX12_inputsOf_38 rfl hl (by decide) rfl (fun ls hl => ?_)
        obtain ⟨x11, ex11⟩ : ∃ z : Int32, z = (y4 + (1 : Int32)) := ⟨_, rfl⟩
        have hF := hF x11 ex11
        refine lv_iinc (v := x11) (lv' := [(3, .int x11), (2, .int x10), (0, .ref (ad 0)), (1, .int a1)]) hx hb dX12_inputsOf_39 hl (k := 3) rfl (by rw [ex11]; rfl) (by decide) rfl (fun ls hl => ?_)
        refine lv_goto (tgt := 4) hx hb dX12_inputsOf_42 (by decide) ?_
        exact hrec5 x10 x11 hF H locs ls hP hD hS (lv_sub hl [2, 3, 1, 0] rfl)
      · refine jn_use hF (fun K => ∀ (H : Heap) (locs : List Loc) (ls : Array Slot), K → va_P D vwCl (wld cy ad dsM σ) H → va_D A (wld cy ad dsM σ) → va_S A s.heap H locs → lv_has ls 4 [(0, .ref (ad 0)), (1, .int a1), (3, .int y4)] → W p l e (rmO 1 22) s m args below meth c H locs 0 0 (MQ below (va_Qi (fun r u => post r ∧ σ = u) (cBk D cy ad dsM A) A) args s 0 0 A) (F0 m 36 ls [.int y3])) (fun H locs ls hF hP hD hS hl => ?_) (fun J12 hJ12 hF => ?_)
        · refine lv_iconst (v := (0 : Int32)) hx hb dX12_inputsOf_36 (by decide) ?_
          exact hJ8 (0 : Int32) H locs ls hF hP hD hS (lv_sub hl [0, 1, 2] rfl)
        · refine lv_icmp_ne (tgt := 36) hx hb dX12_inputsOf_20 (by decide) (fun c13 => ?_) (fun c13 => ?_)
          · have hF := brF hF c13
            exact hJ12  H locs ls hF hP hD hS (lv_sub hl [0, 1, 3] rfl)
          · have hF := brT hF c13
            refine lv_aload_n hx hb dX12_inputsOf_23 rfl (lv_at hl 0 rfl) ?_
            refine lv_iload_n hx hb dX12_inputsOf_24 rfl (lv_at hl 1 rfl) ?_
            refine lv_iload_n hx hb dX12_inputsOf_25 rfl (lv_at hl 3 rfl) ?_
            refine wi_callVi (k := 0) (As := [.int a1, .int y4]) (c_X12_isTicking l D cy ad tL σ a1 y4 _ hF) vw_RX12_195 rfl cb_12 hx hb hml hown hg hK hP hD hS hA hLB rfl ⟨Nat.le_of_ble_eq_true rfl, Nat.le_of_ble_eq_true rfl⟩ hl.1 rfl (Nat.le_of_ble_eq_true rfl) dX12_inputsOf_26 (fun r14 σ15 hw H locs hP hD hS => ?_)
            obtain ⟨hF, rfl⟩ := hw
            refine lv_if_eq (tgt := 36) hx hb dX12_inputsOf_29 (by decide) (fun c16 => ?_) (fun c16 => ?_)
            · have hF := brT hF c16
              exact hJ12  H locs ls hF hP hD hS (lv_sub hl [0, 1, 3] rfl)
            · have hF := brF hF c16
              refine lv_iconst (v := (1 : Int32)) hx hb dX12_inputsOf_32 (by decide) ?_
              refine lv_goto (tgt := 37) hx hb dX12_inputsOf_33 (by decide) ?_
              exact hJ8 (1 : Int32) H locs ls hF hP hD hS (lv_sub hl [0, 1, 3] rfl)
def w_X12_trySet_L128 (a1 : Int32) (a2 : Int32) (y9 : Int32) (x20 : Int32) (J21 : St → Prop) (rec26 : Int32 → St → Prop) (y24 : Int32) (σ25 : St) : Prop := br (x20 ≤ y24) (J21 σ25) (br ((σ25.1 0 26) = (0 : Int32)) (w_X12_tryMove σ25 a1 a2 y9 y24 (fun σ30 => nm (y24 + (1 : Int32)) (fun x31 => rec26 x31 σ30))) (J21 σ25))
def w_X12_trySet_L82 (a1 : Int32) (a2 : Int32) (y2 : Int32) (x6 : Int32) (J7 : St → Prop) (rec11 : Int32 → St → Prop) (y9 : Int32) (σ10 : St) : Prop := br (x6 ≤ y9) (J7 σ10) (br (y2 = (0 : Int32)) (J7 σ10) (br ((σ10.1 0 26) = (0 : Int32)) (rd (σ10.1 16) 250 a1 (fun v15 => w_X12_look σ10 v15 a2 y9 (fun σ17 => w_X12_countBits (σ17.1 0 24) (fun r18 => nm ((1 : Int32) <<< (r18 &&& 31)) (fun x20 => jn (α := St → Prop) (fun (σ22 : St) => nm (y9 + (1 : Int32)) (fun x23 => rec11 x23 σ22)) (fun J21 => lpE2 (w_X12_trySet_L128 a1 a2 y9 x20 J21) (0 : Int32) σ17)))))) (J7 σ10)))
def w_X12_trySet_L5 (a1 : Int32) (a2 : Int32) (J1 : Int32 → St → Prop) (rec35 : Int32 → Int32 → St → Prop) (y32 : Int32) (y33 : Int32) (σ34 : St) : Prop := br ((16 : Int32) ≤ y33) (J1 y32 σ34) (rd (σ34.1 17) 4000 (((16 : Int32) * a1) + y33) (fun v37 => w_X12_then v37 a2 y33 (fun r38 => ck y33 16 (nm (upI σ34 29 (y33).toNatClampNeg r38) (fun σ40 => br (y32 = (0 : Int32)) (nm (y33 + (1 : Int32)) (fun x42 => rec35 (0 : Int32) x42 σ40)) (rd (σ40.1 29) 16 y33 (fun v43 => w_X12_fits σ40 y33 v43 (fun r44 => br (r44 = (0 : Int32)) (nm (y33 + (1 : Int32)) (fun x47 => rec35 (0 : Int32) x47 σ40)) (nm (y33 + (1 : Int32)) (fun x48 => rec35 (1 : Int32) x48 σ40))))))))))
def w_X12_trySet (σ : St) (a1 : Int32) (a2 : Int32) (post : St → Prop) : Prop := jn (α := Int32 → St → Prop) (fun (y2 : Int32) (σ3 : St) => w_X12_inputsOf σ3 a2 (fun r4 => nm ((1 : Int32) <<< (r4 &&& 31)) (fun x6 => jn (α := St → Prop) (fun (σ8 : St) => post σ8) (fun J7 => lpE2 (w_X12_trySet_L82 a1 a2 y2 x6 J7) (0 : Int32) σ3)))) (fun J1 => lpE3 (w_X12_trySet_L5 a1 a2 J1) (1 : Int32) (0 : Int32) σ)
set_option maxHeartbeats 4000000 in
set_option maxRecDepth 100000 in
theorem c_X12_trySet (l : Launch) (D : va_G) (cy : Nat → ClassId) (ad : Nat → Nat) (tL : Nat) (σ : St) (a1 : Int32) (a2 : Int32) (post : St → Prop) (hF : w_X12_trySet σ a1 a2 post) : Ctv l yX12_trySet cX12_trySet 8 none 5 118 D cy ad tL dsM σ [.ref (ad 0), .int a1, .int a2] post := by
  refine ctv_of (by decide) (Nat.le_of_ble_eq_true rfl) ?_
  intro p e s m args below meth c A hx hb hml hr hlk hg hown hA hK H locs hP hD hS hLB ls hl
  have hown : s.vm.findClass RX12 = some m.cls := hown
  have hl : lv_has ls 8 [(0, .ref (ad 0)), (1, .int a1), (2, .int a2)] := hl
  refine lv_iconst (v := (1 : Int32)) hx hb dX12_trySet_0 (by decide) ?_
  refine lv_istore_n (lv' := [(3, .int (1 : Int32)), (0, .ref (ad 0)), (1, .int a1), (2, .int a2)]) hx hb dX12_trySet_1 rfl hl (by decide) rfl (fun ls hl => ?_)
  refine lv_iconst (v := (0 : Int32)) hx hb dX12_trySet_2 (by decide) ?_
  refine lv_istore (lv' := [(4, .int (0 : Int32)), (3, .int (1 : Int32)), (0, .ref (ad 0)), (1, .int a1), (2, .int a2)]) hx hb dX12_trySet_3 hl (by decide) rfl (fun ls hl => ?_)
  refine jn_use hF (fun K => ∀ (y2 : Int32) (σ3 : St) (H : Heap) (locs : List Loc) (ls : Array Slot), K y2 σ3 → va_P D vwCl (wld cy ad dsM σ3) H → va_D A (wld cy ad dsM σ3) → va_S A s.heap H locs → lv_has ls 8 [(0, .ref (ad 0)), (1, .int a1), (2, .int a2), (3, .int y2)] → W p l e (rmO 5 118) s m args below meth c H locs 0 0 (MQ below (va_Qv post (cBk D cy ad dsM A) A) args s 0 0 A) (F0 m 70 ls [])) (fun y2 σ3 H locs ls hF hP hD hS hl => ?_) (fun J1 hJ1 hF => ?_)
  · refine lv_iconst (v := (1 : Int32)) hx hb dX12_trySet_70 (by decide) ?_
    refine lv_aload_n hx hb dX12_trySet_71 rfl (lv_at hl 0 rfl) ?_
    refine lv_iload_n hx hb dX12_trySet_72 rfl (lv_at hl 2 rfl) ?_
    refine wi_callVi (k := 0) (As := [.int a2]) (c_X12_inputsOf l D cy ad tL σ3 a2 _ hF) vw_RX12_266 rfl cb_12 hx hb hml hown hg hK hP hD hS hA hLB rfl ⟨Nat.le_of_ble_eq_true rfl, Nat.le_of_ble_eq_true rfl⟩ hl.1 rfl (Nat.le_of_ble_eq_true rfl) dX12_trySet_73 (fun r4 σ5 hw H locs hP hD hS => ?_)
    obtain ⟨hF, rfl⟩ := hw
    refine lv_ishl hx hb dX12_trySet_76 ?_
    refine lv_topi (fun x6 ex6 => ?_)
    have hF := hF x6 ex6
    refine lv_istore (lv' := [(4, .int x6), (0, .ref (ad 0)), (1, .int a1), (2, .int a2), (3, .int y2)]) hx hb dX12_trySet_77 hl (by decide) rfl (fun ls hl => ?_)
    refine lv_iconst (v := (0 : Int32)) hx hb dX12_trySet_79 (by decide) ?_
    refine lv_istore (lv' := [(5, .int (0 : Int32)), (4, .int x6), (0, .ref (ad 0)), (1, .int a1), (2, .int a2), (3, .int y2)]) hx hb dX12_trySet_80 hl (by decide) rfl (fun ls hl => ?_)
    refine jn_use hF (fun K => ∀ (σ8 : St) (H : Heap) (locs : List Loc) (ls : Array Slot), K σ8 → va_P D vwCl (wld cy ad dsM σ8) H → va_D A (wld cy ad dsM σ8) → va_S A s.heap H locs → lv_has ls 8 [] → W p l e (rmO 5 118) s m args below meth c H locs 0 0 (MQ below (va_Qv post (cBk D cy ad dsM A) A) args s 0 0 A) (F0 m 164 ls [])) (fun σ8 H locs ls hF hP hD hS hl => ?_) (fun J7 hJ7 hF => ?_)
    · exact wi_vret hx hb hr hlk hK hP hD hS dX12_trySet_164 hF
    · refine lpE2_use hF (fun (y9 : Int32) (σ10 : St) => ∀ (H : Heap) (locs : List Loc) (ls : Array Slot), va_P D vwCl (wld cy ad dsM σ10) H → va_D A (wld cy ad dsM σ10) → va_S A s.heap H locs → lv_has ls 8 [(0, .ref (ad 0)), (1, .int a1), (2, .int a2), (3, .int y2), (4, .int x6), (5, .int y9)] → W p l e (rmO 5 118) s m args below meth c H locs 0 0 (MQ below (va_Qv post (cBk D cy ad dsM A) A) args s 0 0 A) (F0 m 82 ls [])) (fun rec11 hrec11 y9 σ10 hF H locs ls hP hD hS hl => ?_) H locs ls hP hD hS (lv_sub hl [2, 3, 4, 5, 1, 0] rfl)
      refine lv_iload hx hb dX12_trySet_82 (lv_at hl 5 rfl) ?_
      refine lv_iload hx hb dX12_trySet_84 (lv_at hl 4 rfl) ?_
      refine lv_icmp_ge (tgt := 164) hx hb dX12_trySet_86 (by decide) (fun c12 => ?_) (fun c12 => ?_)
      · have hF := brT hF c12
        exact hJ7 σ10 H locs ls hF hP hD hS (lv_sub hl [] rfl)
      · have hF := brF hF c12
        refine lv_iload_n hx hb dX12_trySet_89 rfl (lv_at hl 3 rfl) ?_
        refine lv_if_eq (tgt := 164) hx hb dX12_trySet_90 (by decide) (fun c13 => ?_) (fun c13 => ?_)
        · have hF := brT hF c13
          exact hJ7 σ10 H locs ls hF hP hD hS (lv_sub hl [] rfl)
        · have hF := brF hF c13
          refine lv_aload_n hx hb dX12_trySet_93 rfl (lv_at hl 0 rfl) ?_
          refine wi_geti hx hb hg hown hK hP 0 26 rfl rfl cb_12 (by decide) kw_625 dX12_trySet_94 ?_
          refine lv_if_ne (tgt := 164) hx hb dX12_trySet_97 (by decide) (fun c14 => ?_) (fun c14 => ?_)
          · have hF := brF hF c14
            exact hJ7 σ10 H locs ls hF hP hD hS (lv_sub hl [] rfl)
          · have hF := brT hF c14
            refine lv_aload_n hx hb dX12_trySet_100 rfl (lv_at hl 0 rfl) ?_
            refine lv_aload_n hx hb dX12_trySet_101 rfl (lv_at hl 0 rfl) ?_
            refine wi_getr hx hb hg hown hK hP 0 30 16 rfl rfl cb_12 (by decide) kw_589 dX12_trySet_102 ?_
            refine lv_iload_n hx hb dX12_trySet_105 rfl (lv_at hl 1 rfl) ?_
            obtain ⟨hin, hF⟩ := hF
            refine wi_iald hx hb hK hP 16 rfl hin dX12_trySet_106 (fun v15 ev15 => ?_)
            have hF := hF v15 ev15
            refine lv_iload_n hx hb dX12_trySet_107 rfl (lv_at hl 2 rfl) ?_
            refine lv_iload hx hb dX12_trySet_108 (lv_at hl 5 rfl) ?_
            refine wi_callVv (k := 0) (As := [.int v15, .int a2, .int y9]) (c_X12_look l D cy ad tL σ10 v15 a2 y9 _ hF) vw_RX12_215 rfl cb_12 hx hb hml hown hg hK hP hD hS hA hLB rfl ⟨Nat.le_of_ble_eq_true rfl, Nat.le_of_ble_eq_true rfl⟩ hl.1 rfl (Nat.le_of_ble_eq_true rfl) dX12_trySet_110 (fun σ17 hw H locs hP hD hS => ?_)
            have hF := hw
            refine lv_iconst (v := (1 : Int32)) hx hb dX12_trySet_113 (by decide) ?_
            refine lv_aload_n hx hb dX12_trySet_114 rfl (lv_at hl 0 rfl) ?_
            refine lv_aload_n hx hb dX12_trySet_115 rfl (lv_at hl 0 rfl) ?_
            refine wi_geti hx hb hg hown hK hP 0 24 rfl rfl cb_12 (by decide) kw_672 dX12_trySet_116 ?_
            refine wi_callVi (k := 0) (As := [.int (σ17.1 0 24)]) (c_X12_countBits l D cy ad tL σ17 (σ17.1 0 24) _ hF) vw_RX12_205 rfl cb_12 hx hb hml hown hg hK hP hD hS hA hLB rfl ⟨Nat.le_of_ble_eq_true rfl, Nat.le_of_ble_eq_true rfl⟩ hl.1 rfl (Nat.le_of_ble_eq_true rfl) dX12_trySet_119 (fun r18 σ19 hw H locs hP hD hS => ?_)
            obtain ⟨hF, rfl⟩ := hw
            refine lv_ishl hx hb dX12_trySet_122 ?_
            refine lv_topi (fun x20 ex20 => ?_)
            have hF := hF x20 ex20
            refine lv_istore (lv' := [(6, .int x20), (0, .ref (ad 0)), (1, .int a1), (2, .int a2), (3, .int y2), (4, .int x6), (5, .int y9)]) hx hb dX12_trySet_123 hl (by decide) rfl (fun ls hl => ?_)
            refine lv_iconst (v := (0 : Int32)) hx hb dX12_trySet_125 (by decide) ?_
            refine lv_istore (lv' := [(7, .int (0 : Int32)), (6, .int x20), (0, .ref (ad 0)), (1, .int a1), (2, .int a2), (3, .int y2), (4, .int x6), (5, .int y9)]) hx hb dX12_trySet_126 hl (by decide) rfl (fun ls hl => ?_)
            refine jn_use hF (fun K => ∀ (σ22 : St) (H : Heap) (locs : List Loc) (ls : Array Slot), K σ22 → va_P D vwCl (wld cy ad dsM σ22) H → va_D A (wld cy ad dsM σ22) → va_S A s.heap H locs → lv_has ls 8 [(0, .ref (ad 0)), (1, .int a1), (2, .int a2), (3, .int y2), (4, .int x6), (5, .int y9)] → W p l e (rmO 5 118) s m args below meth c H locs 0 0 (MQ below (va_Qv post (cBk D cy ad dsM A) A) args s 0 0 A) (F0 m 158 ls [])) (fun σ22 H locs ls hF hP hD hS hl => ?_) (fun J21 hJ21 hF => ?_)
            · obtain ⟨x23, ex23⟩ : ∃ z : Int32, z = (y9 + (1 : Int32)) := ⟨_, rfl⟩
              have hF := hF x23 ex23
              refine lv_iinc (v := x23) (lv' := [(5, .int x23), (0, .ref (ad 0)), (1, .int a1), (2, .int a2), (3, .int y2), (4, .int x6)]) hx hb dX12_trySet_158 hl (k := 5) rfl (by rw [ex23]; rfl) (by decide) rfl (fun ls hl => ?_)
              refine lv_goto (tgt := 82) hx hb dX12_trySet_161 (by decide) ?_
              exact hrec11 x23 σ22 hF H locs ls hP hD hS (lv_sub hl [1, 2, 3, 4, 5, 0] rfl)
            · refine lpE2_use hF (fun (y24 : Int32) (σ25 : St) => ∀ (H : Heap) (locs : List Loc) (ls : Array Slot), va_P D vwCl (wld cy ad dsM σ25) H → va_D A (wld cy ad dsM σ25) → va_S A s.heap H locs → lv_has ls 8 [(0, .ref (ad 0)), (1, .int a1), (2, .int a2), (3, .int y2), (4, .int x6), (5, .int y9), (6, .int x20), (7, .int y24)] → W p l e (rmO 5 118) s m args below meth c H locs 0 0 (MQ below (va_Qv post (cBk D cy ad dsM A) A) args s 0 0 A) (F0 m 128 ls [])) (fun rec26 hrec26 y24 σ25 hF H locs ls hP hD hS hl => ?_) H locs ls hP hD hS (lv_sub hl [2, 3, 4, 5, 6, 7, 1, 0] rfl)
              refine lv_iload hx hb dX12_trySet_128 (lv_at hl 7 rfl) ?_
              refine lv_iload hx hb dX12_trySet_130 (lv_at hl 6 rfl) ?_
              refine lv_icmp_ge (tgt := 158) hx hb dX12_trySet_132 (by decide) (fun c27 => ?_) (fun c27 => ?_)
              · have hF := brT hF c27
                exact hJ21 σ25 H locs ls hF hP hD hS (lv_sub hl [0, 1, 2, 3, 4, 5] rfl)
              · have hF := brF hF c27
                refine lv_aload_n hx hb dX12_trySet_135 rfl (lv_at hl 0 rfl) ?_
                refine wi_geti hx hb hg hown hK hP 0 26 rfl rfl cb_12 (by decide) kw_625 dX12_trySet_136 ?_
                refine lv_if_ne (tgt := 158) hx hb dX12_trySet_139 (by decide) (fun c28 => ?_) (fun c28 => ?_)
                · have hF := brF hF c28
                  exact hJ21 σ25 H locs ls hF hP hD hS (lv_sub hl [0, 1, 2, 3, 4, 5] rfl)
                · have hF := brT hF c28
                  refine lv_aload_n hx hb dX12_trySet_142 rfl (lv_at hl 0 rfl) ?_
                  refine lv_iload_n hx hb dX12_trySet_143 rfl (lv_at hl 1 rfl) ?_
                  refine lv_iload_n hx hb dX12_trySet_144 rfl (lv_at hl 2 rfl) ?_
                  refine lv_iload hx hb dX12_trySet_145 (lv_at hl 5 rfl) ?_
                  refine lv_iload hx hb dX12_trySet_147 (lv_at hl 7 rfl) ?_
                  refine wi_callVv (k := 0) (As := [.int a1, .int a2, .int y9, .int y24]) (c_X12_tryMove l D cy ad tL σ25 a1 a2 y9 y24 _ hF) vw_RX12_269 rfl cb_12 hx hb hml hown hg hK hP hD hS hA hLB rfl ⟨Nat.le_of_ble_eq_true rfl, Nat.le_of_ble_eq_true rfl⟩ hl.1 rfl (Nat.le_of_ble_eq_true rfl) dX12_trySet_149 (fun σ30 hw H locs hP hD hS => ?_)
                  have hF := hw
                  obtain ⟨x31, ex31⟩ : ∃ z : Int32, z = (y24 + (1 : Int32)) := ⟨_, rfl⟩
                  have hF := hF x31 ex31
                  refine lv_iinc (v := x31) (lv' := [(7, .int x31), (0, .ref (ad 0)), (1, .int a1), (2, .int a2), (3, .int y2), (4, .int x6), (5, .int y9), (6, .int x20)]) hx hb dX12_trySet_152 hl (k := 7) rfl (by rw [ex31]; rfl) (by decide) rfl (fun ls hl => ?_)
                  refine lv_goto (tgt := 128) hx hb dX12_trySet_155 (by decide) ?_
                  exact hrec26 x31 σ30 hF H locs ls hP hD hS (lv_sub hl [1, 2, 3, 4, 5, 6, 7, 0] rfl)
  · refine lpE3_use hF (fun (y32 : Int32) (y33 : Int32) (σ34 : St) => ∀ (H : Heap) (locs : List Loc) (ls : Array Slot), va_P D vwCl (wld cy ad dsM σ34) H → va_D A (wld cy ad dsM σ34) → va_S A s.heap H locs → lv_has ls 8 [(0, .ref (ad 0)), (1, .int a1), (2, .int a2), (3, .int y32), (4, .int y33)] → W p l e (rmO 5 118) s m args below meth c H locs 0 0 (MQ below (va_Qv post (cBk D cy ad dsM A) A) args s 0 0 A) (F0 m 5 ls [])) (fun rec35 hrec35 y32 y33 σ34 hF H locs ls hP hD hS hl => ?_) H locs ls hP hD hS (lv_sub hl [2, 3, 4, 1, 0] rfl)
    refine lv_iload hx hb dX12_trySet_5 (lv_at hl 4 rfl) ?_
    refine lv_bipush (v := (16 : Int32)) hx hb dX12_trySet_7 (by decide) ?_
    refine lv_icmp_ge (tgt := 70) hx hb dX12_trySet_9 (by decide) (fun c36 => ?_) (fun c36 => ?_)
    · have hF := brT hF c36
      exact hJ1 y32 σ34 H locs ls hF hP hD hS (lv_sub hl [0, 1, 2, 3] rfl)
    · have hF := brF hF c36
      refine lv_aload_n hx hb dX12_trySet_12 rfl (lv_at hl 0 rfl) ?_
      refine wi_getr hx hb hg hown hK hP 0 44 29 rfl rfl cb_12 (by decide) kw_602 dX12_trySet_13 ?_
      refine lv_iload hx hb dX12_trySet_16 (lv_at hl 4 rfl) ?_
      refine lv_aload_n hx hb dX12_trySet_18 rfl (lv_at hl 0 rfl) ?_
      refine lv_aload_n hx hb dX12_trySet_19 rfl (lv_at hl 0 rfl) ?_
      refine wi_getr hx hb hg hown hK hP 0 31 17 rfl rfl cb_12 (by decide) kw_590 dX12_trySet_20 ?_
      refine lv_bipush (v := (16 : Int32)) hx hb dX12_trySet_23 (by decide) ?_
      refine lv_iload_n hx hb dX12_trySet_25 rfl (lv_at hl 1 rfl) ?_
      refine lv_imul hx hb dX12_trySet_26 ?_
      refine lv_iload hx hb dX12_trySet_27 (lv_at hl 4 rfl) ?_
      refine lv_iadd hx hb dX12_trySet_29 ?_
      obtain ⟨hin, hF⟩ := hF
      refine wi_iald hx hb hK hP 17 rfl hin dX12_trySet_30 (fun v37 ev37 => ?_)
      have hF := hF v37 ev37
      refine lv_iload_n hx hb dX12_trySet_31 rfl (lv_at hl 2 rfl) ?_
      refine lv_iload hx hb dX12_trySet_32 (lv_at hl 4 rfl) ?_
      refine wi_callVi (k := 0) (As := [.int v37, .int a2, .int y33]) (c_X12_then l D cy ad tL σ34 v37 a2 y33 _ hF) vw_RX12_208 rfl cb_12 hx hb hml hown hg hK hP hD hS hA hLB rfl ⟨Nat.le_of_ble_eq_true rfl, Nat.le_of_ble_eq_true rfl⟩ hl.1 rfl (Nat.le_of_ble_eq_true rfl) dX12_trySet_34 (fun r38 σ39 hw H locs hP hD hS => ?_)
      obtain ⟨hF, rfl⟩ := hw
      obtain ⟨hin, hF⟩ := hF
      refine wi_iast hx hb hK hP hD hS 29 rfl hin dX12_trySet_37 (fun σ40 eσ40 H locs hP hD hS => ?_)
      have hF := hF σ40 eσ40
      refine lv_iload_n hx hb dX12_trySet_38 rfl (lv_at hl 3 rfl) ?_
      refine lv_if_eq (tgt := 62) hx hb dX12_trySet_39 (by decide) (fun c41 => ?_) (fun c41 => ?_)
      · have hF := brT hF c41
        refine lv_iconst (v := (0 : Int32)) hx hb dX12_trySet_62 (by decide) ?_
        refine lv_istore_n (lv' := [(3, .int (0 : Int32)), (0, .ref (ad 0)), (1, .int a1), (2, .int a2), (4, .int y33)]) hx hb dX12_trySet_63 rfl hl (by decide) rfl (fun ls hl => ?_)
        obtain ⟨x42, ex42⟩ : ∃ z : Int32, z = (y33 + (1 : Int32)) := ⟨_, rfl⟩
        have hF := hF x42 ex42
        refine lv_iinc (v := x42) (lv' := [(4, .int x42), (3, .int (0 : Int32)), (0, .ref (ad 0)), (1, .int a1), (2, .int a2)]) hx hb dX12_trySet_64 hl (k := 4) rfl (by rw [ex42]; rfl) (by decide) rfl (fun ls hl => ?_)
        refine lv_goto (tgt := 5) hx hb dX12_trySet_67 (by decide) ?_
        exact hrec35 (0 : Int32) x42 σ40 hF H locs ls hP hD hS (lv_sub hl [2, 3, 4, 1, 0] rfl)
      · have hF := brF hF c41
        refine lv_aload_n hx hb dX12_trySet_42 rfl (lv_at hl 0 rfl) ?_
        refine lv_iload hx hb dX12_trySet_43 (lv_at hl 4 rfl) ?_
        refine lv_aload_n hx hb dX12_trySet_45 rfl (lv_at hl 0 rfl) ?_
        refine wi_getr hx hb hg hown hK hP 0 44 29 rfl rfl cb_12 (by decide) kw_602 dX12_trySet_46 ?_
        refine lv_iload hx hb dX12_trySet_49 (lv_at hl 4 rfl) ?_
        obtain ⟨hin, hF⟩ := hF
        refine wi_iald hx hb hK hP 29 rfl hin dX12_trySet_51 (fun v43 ev43 => ?_)
        have hF := hF v43 ev43
        refine wi_callVi (k := 0) (As := [.int y33, .int v43]) (c_X12_fits l D cy ad tL σ40 y33 v43 _ hF) vw_RX12_212 rfl cb_12 hx hb hml hown hg hK hP hD hS hA hLB rfl ⟨Nat.le_of_ble_eq_true rfl, Nat.le_of_ble_eq_true rfl⟩ hl.1 rfl (Nat.le_of_ble_eq_true rfl) dX12_trySet_52 (fun r44 σ45 hw H locs hP hD hS => ?_)
        obtain ⟨hF, rfl⟩ := hw
        refine lv_if_eq (tgt := 62) hx hb dX12_trySet_55 (by decide) (fun c46 => ?_) (fun c46 => ?_)
        · have hF := brT hF c46
          refine lv_iconst (v := (0 : Int32)) hx hb dX12_trySet_62 (by decide) ?_
          refine lv_istore_n (lv' := [(3, .int (0 : Int32)), (0, .ref (ad 0)), (1, .int a1), (2, .int a2), (4, .int y33)]) hx hb dX12_trySet_63 rfl hl (by decide) rfl (fun ls hl => ?_)
          obtain ⟨x47, ex47⟩ : ∃ z : Int32, z = (y33 + (1 : Int32)) := ⟨_, rfl⟩
          have hF := hF x47 ex47
          refine lv_iinc (v := x47) (lv' := [(4, .int x47), (3, .int (0 : Int32)), (0, .ref (ad 0)), (1, .int a1), (2, .int a2)]) hx hb dX12_trySet_64 hl (k := 4) rfl (by rw [ex47]; rfl) (by decide) rfl (fun ls hl => ?_)
          refine lv_goto (tgt := 5) hx hb dX12_trySet_67 (by decide) ?_
          exact hrec35 (0 : Int32) x47 σ40 hF H locs ls hP hD hS (lv_sub hl [2, 3, 4, 1, 0] rfl)
        · have hF := brF hF c46
          refine lv_iconst (v := (1 : Int32)) hx hb dX12_trySet_58 (by decide) ?_
          refine lv_goto (tgt := 63) hx hb dX12_trySet_59 (by decide) ?_
          refine lv_istore_n (lv' := [(3, .int (1 : Int32)), (0, .ref (ad 0)), (1, .int a1), (2, .int a2), (4, .int y33)]) hx hb dX12_trySet_63 rfl hl (by decide) rfl (fun ls hl => ?_)
          obtain ⟨x48, ex48⟩ : ∃ z : Int32, z = (y33 + (1 : Int32)) := ⟨_, rfl⟩
          have hF := hF x48 ex48
          refine lv_iinc (v := x48) (lv' := [(4, .int x48), (3, .int (1 : Int32)), (0, .ref (ad 0)), (1, .int a1), (2, .int a2)]) hx hb dX12_trySet_64 hl (k := 4) rfl (by rw [ex48]; rfl) (by decide) rfl (fun ls hl => ?_)
          refine lv_goto (tgt := 5) hx hb dX12_trySet_67 (by decide) ?_
          exact hrec35 (1 : Int32) x48 σ40 hF H locs ls hP hD hS (lv_sub hl [2, 3, 4, 1, 0] rfl)
def w_X12_clocksThere_L4 (σ : St) (J1 : Int32 → Prop) (rec5 : Int32 → Int32 → Prop) (y3 : Int32) (y4 : Int32) : Prop := br ((σ.1 0 1) ≤ y4) (J1 y3) (rd (σ.1 1) 24 y4 (fun v7 => jn (α := Int32 → Prop) (fun (y9 : Int32) => nm (y3 ||| y9) (fun x10 => nm (y4 + (1 : Int32)) (fun x11 => rec5 x10 x11))) (fun J8 => br (v7 ≤ (4 : Int32)) (J8 (0 : Int32)) (rd (σ.1 2) 24 y4 (fun v13 => J8 ((1 : Int32) <<< (v13 &&& 31)))))))
def w_X12_clocksThere (σ : St) (post : Int32 → Prop) : Prop := jn (α := Int32 → Prop) (fun (y2 : Int32) => post y2) (fun J1 => lpE2 (w_X12_clocksThere_L4 σ J1) (0 : Int32) (0 : Int32))
set_option maxHeartbeats 4000000 in
set_option maxRecDepth 100000 in
theorem c_X12_clocksThere (l : Launch) (D : va_G) (cy : Nat → ClassId) (ad : Nat → Nat) (tL : Nat) (σ : St) (post : Int32 → Prop) (hF : w_X12_clocksThere σ post) : Cti l yX12_clocksThere cX12_clocksThere 3 (some .int) 0 0 D cy ad tL dsM σ [.ref (ad 0)] (fun r u => post r ∧ σ = u) := by
  refine cti_of (by decide) (Nat.le_of_ble_eq_true rfl) ?_
  intro p e s m args below meth c A hx hb hml hr hlk hg hown hA hK H locs hP hD hS hLB ls hl
  have hown : s.vm.findClass RX12 = some m.cls := hown
  have hl : lv_has ls 3 [(0, .ref (ad 0))] := hl
  refine lv_iconst (v := (0 : Int32)) hx hb dX12_clocksThere_0 (by decide) ?_
  refine lv_istore_n (lv' := [(1, .int (0 : Int32)), (0, .ref (ad 0))]) hx hb dX12_clocksThere_1 rfl hl (by decide) rfl (fun ls hl => ?_)
  refine lv_iconst (v := (0 : Int32)) hx hb dX12_clocksThere_2 (by decide) ?_
  refine lv_istore_n (lv' := [(2, .int (0 : Int32)), (1, .int (0 : Int32)), (0, .ref (ad 0))]) hx hb dX12_clocksThere_3 rfl hl (by decide) rfl (fun ls hl => ?_)
  refine jn_use hF (fun K => ∀ (y2 : Int32) (H : Heap) (locs : List Loc) (ls : Array Slot), K y2 → va_P D vwCl (wld cy ad dsM σ) H → va_D A (wld cy ad dsM σ) → va_S A s.heap H locs → lv_has ls 3 [(1, .int y2)] → W p l e (rmO 0 0) s m args below meth c H locs 0 0 (MQ below (va_Qi (fun r u => post r ∧ σ = u) (cBk D cy ad dsM A) A) args s 0 0 A) (F0 m 43 ls [])) (fun y2 H locs ls hF hP hD hS hl => ?_) (fun J1 hJ1 hF => ?_)
  · refine lv_iload_n hx hb dX12_clocksThere_43 rfl (lv_at hl 0 rfl) ?_
    exact wi_iret hx hb hr hlk hK hP hD hS dX12_clocksThere_44 ⟨hF, rfl⟩
  · refine lpE2_use hF (fun (y3 : Int32) (y4 : Int32) => ∀ (H : Heap) (locs : List Loc) (ls : Array Slot), va_P D vwCl (wld cy ad dsM σ) H → va_D A (wld cy ad dsM σ) → va_S A s.heap H locs → lv_has ls 3 [(0, .ref (ad 0)), (1, .int y3), (2, .int y4)] → W p l e (rmO 0 0) s m args below meth c H locs 0 0 (MQ below (va_Qi (fun r u => post r ∧ σ = u) (cBk D cy ad dsM A) A) args s 0 0 A) (F0 m 4 ls [])) (fun rec5 hrec5 y3 y4 hF H locs ls hP hD hS hl => ?_) H locs ls hP hD hS (lv_sub hl [2, 1, 0] rfl)
    refine lv_iload_n hx hb dX12_clocksThere_4 rfl (lv_at hl 2 rfl) ?_
    refine lv_aload_n hx hb dX12_clocksThere_5 rfl (lv_at hl 0 rfl) ?_
    refine wi_geti hx hb hg hown hK hP 0 1 rfl rfl cb_12 (by decide) kw_559 dX12_clocksThere_6 ?_
    refine lv_icmp_ge (tgt := 43) hx hb dX12_clocksThere_9 (by decide) (fun c6 => ?_) (fun c6 => ?_)
    · have hF := brT hF c6
      exact hJ1 y3 H locs ls hF hP hD hS (lv_sub hl [1] rfl)
    · have hF := brF hF c6
      refine lv_iload_n hx hb dX12_clocksThere_12 rfl (lv_at hl 1 rfl) ?_
      refine lv_aload_n hx hb dX12_clocksThere_13 rfl (lv_at hl 0 rfl) ?_
      refine wi_getr hx hb hg hown hK hP 0 3 1 rfl rfl cb_12 (by decide) kw_560 dX12_clocksThere_14 ?_
      refine lv_iload_n hx hb dX12_clocksThere_17 rfl (lv_at hl 2 rfl) ?_
      obtain ⟨hin, hF⟩ := hF
      refine wi_iald hx hb hK hP 1 rfl hin dX12_clocksThere_18 (fun v7 ev7 => ?_)
      have hF := hF v7 ev7
      refine lv_iconst (v := (4 : Int32)) hx hb dX12_clocksThere_19 (by decide) ?_
      refine jn_use hF (fun K => ∀ (y9 : Int32) (H : Heap) (locs : List Loc) (ls : Array Slot), K y9 → va_P D vwCl (wld cy ad dsM σ) H → va_D A (wld cy ad dsM σ) → va_S A s.heap H locs → lv_has ls 3 [(0, .ref (ad 0)), (2, .int y4)] → W p l e (rmO 0 0) s m args below meth c H locs 0 0 (MQ below (va_Qi (fun r u => post r ∧ σ = u) (cBk D cy ad dsM A) A) args s 0 0 A) (F0 m 35 ls [.int y9, .int y3])) (fun y9 H locs ls hF hP hD hS hl => ?_) (fun J8 hJ8 hF => ?_)
      · refine lv_ior hx hb dX12_clocksThere_35 ?_
        refine lv_topi (fun x10 ex10 => ?_)
        have hF := hF x10 ex10
        refine lv_istore_n (lv' := [(1, .int x10), (0, .ref (ad 0)), (2, .int y4)]) hx hb dX12_clocksThere_36 rfl hl (by decide) rfl (fun ls hl => ?_)
        obtain ⟨x11, ex11⟩ : ∃ z : Int32, z = (y4 + (1 : Int32)) := ⟨_, rfl⟩
        have hF := hF x11 ex11
        refine lv_iinc (v := x11) (lv' := [(2, .int x11), (1, .int x10), (0, .ref (ad 0))]) hx hb dX12_clocksThere_37 hl (k := 2) rfl (by rw [ex11]; rfl) (by decide) rfl (fun ls hl => ?_)
        refine lv_goto (tgt := 4) hx hb dX12_clocksThere_40 (by decide) ?_
        exact hrec5 x10 x11 hF H locs ls hP hD hS (lv_sub hl [2, 1, 0] rfl)
      · refine lv_icmp_le (tgt := 34) hx hb dX12_clocksThere_20 (by decide) (fun c12 => ?_) (fun c12 => ?_)
        · have hF := brT hF c12
          refine lv_iconst (v := (0 : Int32)) hx hb dX12_clocksThere_34 (by decide) ?_
          exact hJ8 (0 : Int32) H locs ls hF hP hD hS (lv_sub hl [0, 2] rfl)
        · have hF := brF hF c12
          refine lv_iconst (v := (1 : Int32)) hx hb dX12_clocksThere_23 (by decide) ?_
          refine lv_aload_n hx hb dX12_clocksThere_24 rfl (lv_at hl 0 rfl) ?_
          refine wi_getr hx hb hg hown hK hP 0 4 2 rfl rfl cb_12 (by decide) kw_581 dX12_clocksThere_25 ?_
          refine lv_iload_n hx hb dX12_clocksThere_28 rfl (lv_at hl 2 rfl) ?_
          obtain ⟨hin, hF⟩ := hF
          refine wi_iald hx hb hK hP 2 rfl hin dX12_clocksThere_29 (fun v13 ev13 => ?_)
          have hF := hF v13 ev13
          refine lv_ishl hx hb dX12_clocksThere_30 ?_
          refine lv_goto (tgt := 35) hx hb dX12_clocksThere_31 (by decide) ?_
          exact hJ8 ((1 : Int32) <<< (v13 &&& 31)) H locs ls hF hP hD hS (lv_sub hl [0, 2] rfl)
