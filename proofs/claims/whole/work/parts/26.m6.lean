def w_X12_meets_L4 (a1 : Int32) (σ : St) (J1 : Int32 → Prop) (rec5 : Int32 → Int32 → Prop) (y3 : Int32) (y4 : Int32) : Prop := br ((σ.1 0 1) ≤ y4) (J1 y3) (br (y3 = (0 : Int32)) (br (y4 = a1) (nm (y4 + (1 : Int32)) (fun x10 => rec5 (0 : Int32) x10)) (w_X12_isTwice σ a1 (fun r11 => br (r11 = (0 : Int32)) (nm (y4 + (1 : Int32)) (fun x14 => rec5 (0 : Int32) x14)) (w_X12_isTwice σ y4 (fun r15 => br (r15 = (0 : Int32)) (nm (y4 + (1 : Int32)) (fun x18 => rec5 (0 : Int32) x18)) (rd (σ.1 2) 24 y4 (fun v19 => rd (σ.1 2) 24 a1 (fun v20 => br (v19 = v20) (rd (σ.1 4) 24 y4 (fun v23 => rd (σ.1 4) 24 a1 (fun v24 => br (v23 = v24) (nm (y4 + (1 : Int32)) (fun x27 => rec5 (1 : Int32) x27)) (nm (y4 + (1 : Int32)) (fun x26 => rec5 (0 : Int32) x26))))) (nm (y4 + (1 : Int32)) (fun x22 => rec5 (0 : Int32) x22)))))))))) (nm (y4 + (1 : Int32)) (fun x8 => rec5 (1 : Int32) x8)))
def w_X12_meets (σ : St) (a1 : Int32) (post : Int32 → Prop) : Prop := jn (α := Int32 → Prop) (fun (y2 : Int32) => bl y2 (post y2)) (fun J1 => lpE2 (w_X12_meets_L4 a1 σ J1) (0 : Int32) (0 : Int32))
set_option maxHeartbeats 4000000 in
set_option maxRecDepth 100000 in
theorem c_X12_meets (l : Launch) (D : va_G) (cy : Nat → ClassId) (ad : Nat → Nat) (tL : Nat) (σ : St) (a1 : Int32) (post : Int32 → Prop) (hF : w_X12_meets σ a1 post) : Cti l yX12_meets cX12_meets 4 (some .boolean) 4 90 D cy ad tL dsM σ [.ref (ad 0), .int a1] (fun r u => post r ∧ σ = u) := by
  refine cti_of (by decide) (Nat.le_of_ble_eq_true rfl) ?_
  intro p e s m args below meth c A hx hb hml hr hlk hg hown hA hK H locs hP hD hS hLB ls hl
  have hown : s.vm.findClass RX12 = some m.cls := hown
  have hl : lv_has ls 4 [(0, .ref (ad 0)), (1, .int a1)] := hl
  refine lv_iconst (v := (0 : Int32)) hx hb dX12_meets_0 (by decide) ?_
  refine lv_istore_n (lv' := [(2, .int (0 : Int32)), (0, .ref (ad 0)), (1, .int a1)]) hx hb dX12_meets_1 rfl hl (by decide) rfl (fun ls hl => ?_)
  refine lv_iconst (v := (0 : Int32)) hx hb dX12_meets_2 (by decide) ?_
  refine lv_istore_n (lv' := [(3, .int (0 : Int32)), (2, .int (0 : Int32)), (0, .ref (ad 0)), (1, .int a1)]) hx hb dX12_meets_3 rfl hl (by decide) rfl (fun ls hl => ?_)
  refine jn_use hF (fun K => ∀ (y2 : Int32) (H : Heap) (locs : List Loc) (ls : Array Slot), K y2 → va_P D vwCl (wld cy ad dsM σ) H → va_D A (wld cy ad dsM σ) → va_S A s.heap H locs → lv_has ls 4 [(2, .int y2)] → W p l e (rmO 4 90) s m args below meth c H locs 0 0 (MQ below (va_Qi (fun r u => post r ∧ σ = u) (cBk D cy ad dsM A) A) args s 0 0 A) (F0 m 79 ls [])) (fun y2 H locs ls hF hP hD hS hl => ?_) (fun J1 hJ1 hF => ?_)
  · refine lv_iload_n hx hb dX12_meets_79 rfl (lv_at hl 0 rfl) ?_
    obtain ⟨hbl, hF⟩ := hF
    exact wi_zret hx hb hr hlk hK hP hD hS dX12_meets_80 hbl ⟨hF, rfl⟩
  · refine lpE2_use hF (fun (y3 : Int32) (y4 : Int32) => ∀ (H : Heap) (locs : List Loc) (ls : Array Slot), va_P D vwCl (wld cy ad dsM σ) H → va_D A (wld cy ad dsM σ) → va_S A s.heap H locs → lv_has ls 4 [(0, .ref (ad 0)), (1, .int a1), (2, .int y3), (3, .int y4)] → W p l e (rmO 4 90) s m args below meth c H locs 0 0 (MQ below (va_Qi (fun r u => post r ∧ σ = u) (cBk D cy ad dsM A) A) args s 0 0 A) (F0 m 4 ls [])) (fun rec5 hrec5 y3 y4 hF H locs ls hP hD hS hl => ?_) H locs ls hP hD hS (lv_sub hl [2, 3, 1, 0] rfl)
    refine lv_iload_n hx hb dX12_meets_4 rfl (lv_at hl 3 rfl) ?_
    refine lv_aload_n hx hb dX12_meets_5 rfl (lv_at hl 0 rfl) ?_
    refine wi_geti hx hb hg hown hK hP 0 1 rfl rfl cb_12 (by decide) kw_559 dX12_meets_6 ?_
    refine lv_icmp_ge (tgt := 79) hx hb dX12_meets_9 (by decide) (fun c6 => ?_) (fun c6 => ?_)
    · have hF := brT hF c6
      exact hJ1 y3 H locs ls hF hP hD hS (lv_sub hl [2] rfl)
    · have hF := brF hF c6
      refine lv_iload_n hx hb dX12_meets_12 rfl (lv_at hl 2 rfl) ?_
      refine lv_if_ne (tgt := 67) hx hb dX12_meets_13 (by decide) (fun c7 => ?_) (fun c7 => ?_)
      · have hF := brF hF c7
        refine lv_iconst (v := (1 : Int32)) hx hb dX12_meets_67 (by decide) ?_
        refine lv_goto (tgt := 72) hx hb dX12_meets_68 (by decide) ?_
        refine lv_istore_n (lv' := [(2, .int (1 : Int32)), (0, .ref (ad 0)), (1, .int a1), (3, .int y4)]) hx hb dX12_meets_72 rfl hl (by decide) rfl (fun ls hl => ?_)
        obtain ⟨x8, ex8⟩ : ∃ z : Int32, z = (y4 + (1 : Int32)) := ⟨_, rfl⟩
        have hF := hF x8 ex8
        refine lv_iinc (v := x8) (lv' := [(3, .int x8), (2, .int (1 : Int32)), (0, .ref (ad 0)), (1, .int a1)]) hx hb dX12_meets_73 hl (k := 3) rfl (by rw [ex8]; rfl) (by decide) rfl (fun ls hl => ?_)
        refine lv_goto (tgt := 4) hx hb dX12_meets_76 (by decide) ?_
        exact hrec5 (1 : Int32) x8 hF H locs ls hP hD hS (lv_sub hl [2, 3, 1, 0] rfl)
      · have hF := brT hF c7
        refine lv_iload_n hx hb dX12_meets_16 rfl (lv_at hl 3 rfl) ?_
        refine lv_iload_n hx hb dX12_meets_17 rfl (lv_at hl 1 rfl) ?_
        refine lv_icmp_eq (tgt := 71) hx hb dX12_meets_18 (by decide) (fun c9 => ?_) (fun c9 => ?_)
        · have hF := brT hF c9
          refine lv_iconst (v := (0 : Int32)) hx hb dX12_meets_71 (by decide) ?_
          refine lv_istore_n (lv' := [(2, .int (0 : Int32)), (0, .ref (ad 0)), (1, .int a1), (3, .int y4)]) hx hb dX12_meets_72 rfl hl (by decide) rfl (fun ls hl => ?_)
          obtain ⟨x10, ex10⟩ : ∃ z : Int32, z = (y4 + (1 : Int32)) := ⟨_, rfl⟩
          have hF := hF x10 ex10
          refine lv_iinc (v := x10) (lv' := [(3, .int x10), (2, .int (0 : Int32)), (0, .ref (ad 0)), (1, .int a1)]) hx hb dX12_meets_73 hl (k := 3) rfl (by rw [ex10]; rfl) (by decide) rfl (fun ls hl => ?_)
          refine lv_goto (tgt := 4) hx hb dX12_meets_76 (by decide) ?_
          exact hrec5 (0 : Int32) x10 hF H locs ls hP hD hS (lv_sub hl [2, 3, 1, 0] rfl)
        · have hF := brF hF c9
          refine lv_aload_n hx hb dX12_meets_21 rfl (lv_at hl 0 rfl) ?_
          refine lv_iload_n hx hb dX12_meets_22 rfl (lv_at hl 1 rfl) ?_
          refine wi_callVi (k := 0) (As := [.int a1]) (c_X12_isTwice l D cy ad tL σ a1 _ hF) vw_RX12_307 rfl cb_12 hx hb hml hown hg hK hP hD hS hA hLB rfl ⟨Nat.le_of_ble_eq_true rfl, Nat.le_of_ble_eq_true rfl⟩ hl.1 rfl (Nat.le_of_ble_eq_true rfl) dX12_meets_23 (fun r11 σ12 hw H locs hP hD hS => ?_)
          obtain ⟨hF, rfl⟩ := hw
          refine lv_if_eq (tgt := 71) hx hb dX12_meets_26 (by decide) (fun c13 => ?_) (fun c13 => ?_)
          · have hF := brT hF c13
            refine lv_iconst (v := (0 : Int32)) hx hb dX12_meets_71 (by decide) ?_
            refine lv_istore_n (lv' := [(2, .int (0 : Int32)), (0, .ref (ad 0)), (1, .int a1), (3, .int y4)]) hx hb dX12_meets_72 rfl hl (by decide) rfl (fun ls hl => ?_)
            obtain ⟨x14, ex14⟩ : ∃ z : Int32, z = (y4 + (1 : Int32)) := ⟨_, rfl⟩
            have hF := hF x14 ex14
            refine lv_iinc (v := x14) (lv' := [(3, .int x14), (2, .int (0 : Int32)), (0, .ref (ad 0)), (1, .int a1)]) hx hb dX12_meets_73 hl (k := 3) rfl (by rw [ex14]; rfl) (by decide) rfl (fun ls hl => ?_)
            refine lv_goto (tgt := 4) hx hb dX12_meets_76 (by decide) ?_
            exact hrec5 (0 : Int32) x14 hF H locs ls hP hD hS (lv_sub hl [2, 3, 1, 0] rfl)
          · have hF := brF hF c13
            refine lv_aload_n hx hb dX12_meets_29 rfl (lv_at hl 0 rfl) ?_
            refine lv_iload_n hx hb dX12_meets_30 rfl (lv_at hl 3 rfl) ?_
            refine wi_callVi (k := 0) (As := [.int y4]) (c_X12_isTwice l D cy ad tL σ y4 _ hF) vw_RX12_307 rfl cb_12 hx hb hml hown hg hK hP hD hS hA hLB rfl ⟨Nat.le_of_ble_eq_true rfl, Nat.le_of_ble_eq_true rfl⟩ hl.1 rfl (Nat.le_of_ble_eq_true rfl) dX12_meets_31 (fun r15 σ16 hw H locs hP hD hS => ?_)
            obtain ⟨hF, rfl⟩ := hw
            refine lv_if_eq (tgt := 71) hx hb dX12_meets_34 (by decide) (fun c17 => ?_) (fun c17 => ?_)
            · have hF := brT hF c17
              refine lv_iconst (v := (0 : Int32)) hx hb dX12_meets_71 (by decide) ?_
              refine lv_istore_n (lv' := [(2, .int (0 : Int32)), (0, .ref (ad 0)), (1, .int a1), (3, .int y4)]) hx hb dX12_meets_72 rfl hl (by decide) rfl (fun ls hl => ?_)
              obtain ⟨x18, ex18⟩ : ∃ z : Int32, z = (y4 + (1 : Int32)) := ⟨_, rfl⟩
              have hF := hF x18 ex18
              refine lv_iinc (v := x18) (lv' := [(3, .int x18), (2, .int (0 : Int32)), (0, .ref (ad 0)), (1, .int a1)]) hx hb dX12_meets_73 hl (k := 3) rfl (by rw [ex18]; rfl) (by decide) rfl (fun ls hl => ?_)
              refine lv_goto (tgt := 4) hx hb dX12_meets_76 (by decide) ?_
              exact hrec5 (0 : Int32) x18 hF H locs ls hP hD hS (lv_sub hl [2, 3, 1, 0] rfl)
            · have hF := brF hF c17
              refine lv_aload_n hx hb dX12_meets_37 rfl (lv_at hl 0 rfl) ?_
              refine wi_getr hx hb hg hown hK hP 0 4 2 rfl rfl cb_12 (by decide) kw_581 dX12_meets_38 ?_
              refine lv_iload_n hx hb dX12_meets_41 rfl (lv_at hl 3 rfl) ?_
              obtain ⟨hin, hF⟩ := hF
              refine wi_iald hx hb hK hP 2 rfl hin dX12_meets_42 (fun v19 ev19 => ?_)
              have hF := hF v19 ev19
              refine lv_aload_n hx hb dX12_meets_43 rfl (lv_at hl 0 rfl) ?_
              refine wi_getr hx hb hg hown hK hP 0 4 2 rfl rfl cb_12 (by decide) kw_581 dX12_meets_44 ?_
              refine lv_iload_n hx hb dX12_meets_47 rfl (lv_at hl 1 rfl) ?_
              obtain ⟨hin, hF⟩ := hF
              refine wi_iald hx hb hK hP 2 rfl hin dX12_meets_48 (fun v20 ev20 => ?_)
              have hF := hF v20 ev20
              refine lv_icmp_ne (tgt := 71) hx hb dX12_meets_49 (by decide) (fun c21 => ?_) (fun c21 => ?_)
              · have hF := brF hF c21
                refine lv_iconst (v := (0 : Int32)) hx hb dX12_meets_71 (by decide) ?_
                refine lv_istore_n (lv' := [(2, .int (0 : Int32)), (0, .ref (ad 0)), (1, .int a1), (3, .int y4)]) hx hb dX12_meets_72 rfl hl (by decide) rfl (fun ls hl => ?_)
                obtain ⟨x22, ex22⟩ : ∃ z : Int32, z = (y4 + (1 : Int32)) := ⟨_, rfl⟩
                have hF := hF x22 ex22
                refine lv_iinc (v := x22) (lv' := [(3, .int x22), (2, .int (0 : Int32)), (0, .ref (ad 0)), (1, .int a1)]) hx hb dX12_meets_73 hl (k := 3) rfl (by rw [ex22]; rfl) (by decide) rfl (fun ls hl => ?_)
                refine lv_goto (tgt := 4) hx hb dX12_meets_76 (by decide) ?_
                exact hrec5 (0 : Int32) x22 hF H locs ls hP hD hS (lv_sub hl [2, 3, 1, 0] rfl)
              · have hF := brT hF c21
                refine lv_aload_n hx hb dX12_meets_52 rfl (lv_at hl 0 rfl) ?_
                refine wi_getr hx hb hg hown hK hP 0 6 4 rfl rfl cb_12 (by decide) kw_561 dX12_meets_53 ?_
                refine lv_iload_n hx hb dX12_meets_56 rfl (lv_at hl 3 rfl) ?_
                obtain ⟨hin, hF⟩ := hF
                refine wi_iald hx hb hK hP 4 rfl hin dX12_meets_57 (fun v23 ev23 => ?_)
                have hF := hF v23 ev23
                refine lv_aload_n hx hb dX12_meets_58 rfl (lv_at hl 0 rfl) ?_
                refine wi_getr hx hb hg hown hK hP 0 6 4 rfl rfl cb_12 (by decide) kw_561 dX12_meets_59 ?_
                refine lv_iload_n hx hb dX12_meets_62 rfl (lv_at hl 1 rfl) ?_
                obtain ⟨hin, hF⟩ := hF
                refine wi_iald hx hb hK hP 4 rfl hin dX12_meets_63 (fun v24 ev24 => ?_)
                have hF := hF v24 ev24
                refine lv_icmp_ne (tgt := 71) hx hb dX12_meets_64 (by decide) (fun c25 => ?_) (fun c25 => ?_)
                · have hF := brF hF c25
                  refine lv_iconst (v := (0 : Int32)) hx hb dX12_meets_71 (by decide) ?_
                  refine lv_istore_n (lv' := [(2, .int (0 : Int32)), (0, .ref (ad 0)), (1, .int a1), (3, .int y4)]) hx hb dX12_meets_72 rfl hl (by decide) rfl (fun ls hl => ?_)
                  obtain ⟨x26, ex26⟩ : ∃ z : Int32, z = (y4 + (1 : Int32)) := ⟨_, rfl⟩
                  have hF := hF x26 ex26
                  refine lv_iinc (v := x26) (lv' := [(3, .int x26), (2, .int (0 : Int32)), (0, .ref (ad 0)), (1, .int a1)]) hx hb dX12_meets_73 hl (k := 3) rfl (by rw [ex26]; rfl) (by decide) rfl (fun ls hl => ?_)
                  refine lv_goto (tgt := 4) hx hb dX12_meets_76 (by decide) ?_
                  exact hrec5 (0 : Int32) x26 hF H locs ls hP hD hS (lv_sub hl [2, 3, 1, 0] rfl)
                · have hF := brT hF c25
                  refine lv_iconst (v := (1 : Int32)) hx hb dX12_meets_67 (by decide) ?_
                  refine lv_goto (tgt := 72) hx hb dX12_meets_68 (by decide) ?_
                  refine lv_istore_n (lv' := [(2, .int (1 : Int32)), (0, .ref (ad 0)), (1, .int a1), (3, .int y4)]) hx hb dX12_meets_72 rfl hl (by decide) rfl (fun ls hl => ?_)
                  obtain ⟨x27, ex27⟩ : ∃ z : Int32, z = (y4 + (1 : Int32)) := ⟨_, rfl⟩
                  have hF := hF x27 ex27
                  refine lv_iinc (v := x27) (lv' := [(3, .int x27), (2, .int (1 : Int32)), (0, .ref (ad 0)), (1, .int a1)]) hx hb dX12_meets_73 hl (k := 3) rfl (by rw [ex27]; rfl) (by decide) rfl (fun ls hl => ?_)
                  refine lv_goto (tgt := 4) hx hb dX12_meets_76 (by decide) ?_
                  exact hrec5 (1 : Int32) x27 hF H locs ls hP hD hS (lv_sub hl [2, 3, 1, 0] rfl)
def w_X12_crossings_L9 (σ1 : St) (J2 : Int32 → Prop) (rec6 : Int32 → Int32 → Prop) (y4 : Int32) (y5 : Int32) : Prop := br ((σ1.1 0 1) ≤ y5) (J2 y4) (w_X12_isCrossing σ1 y5 (fun r8 => jn (α := Int32 → Prop) (fun (y11 : Int32) => nm (y4 + y11) (fun x12 => nm (y5 + (1 : Int32)) (fun x13 => rec6 x12 x13))) (fun J10 => br (r8 = (0 : Int32)) (J10 (0 : Int32)) (J10 (1 : Int32)))))
def w_X12_crossings (σ : St) (post : Int32 → St → Prop) : Prop := nm (upI σ 0 0 (0 : Int32)) (fun σ1 => jn (α := Int32 → Prop) (fun (y3 : Int32) => post y3 σ1) (fun J2 => lpE2 (w_X12_crossings_L9 σ1 J2) (0 : Int32) (0 : Int32)))
set_option maxHeartbeats 4000000 in
set_option maxRecDepth 100000 in
theorem c_X12_crossings (l : Launch) (D : va_G) (cy : Nat → ClassId) (ad : Nat → Nat) (tL : Nat) (σ : St) (post : Int32 → St → Prop) (hF : w_X12_crossings σ post) : Cti l yX12_crossings cX12_crossings 3 (some .int) 3 69 D cy ad tL dsM σ [.ref (ad 0)] post := by
  refine cti_of (by decide) (Nat.le_of_ble_eq_true rfl) ?_
  intro p e s m args below meth c A hx hb hml hr hlk hg hown hA hK H locs hP hD hS hLB ls hl
  have hown : s.vm.findClass RX12 = some m.cls := hown
  have hl : lv_has ls 3 [(0, .ref (ad 0))] := hl
  refine lv_aload_n hx hb dX12_crossings_0 rfl (lv_at hl 0 rfl) ?_
  refine lv_iconst (v := (0 : Int32)) hx hb dX12_crossings_1 (by decide) ?_
  refine wi_puti hx hb hg hown hK hP hD hS 0 0 rfl rfl cb_12 (by decide) kw_615 rfl rfl rfl dX12_crossings_2 (fun σ1 eσ1 H locs hP hD hS => ?_)
  have hF := hF σ1 eσ1
  refine lv_iconst (v := (0 : Int32)) hx hb dX12_crossings_5 (by decide) ?_
  refine lv_istore_n (lv' := [(1, .int (0 : Int32)), (0, .ref (ad 0))]) hx hb dX12_crossings_6 rfl hl (by decide) rfl (fun ls hl => ?_)
  refine lv_iconst (v := (0 : Int32)) hx hb dX12_crossings_7 (by decide) ?_
  refine lv_istore_n (lv' := [(2, .int (0 : Int32)), (1, .int (0 : Int32)), (0, .ref (ad 0))]) hx hb dX12_crossings_8 rfl hl (by decide) rfl (fun ls hl => ?_)
  refine jn_use hF (fun K => ∀ (y3 : Int32) (H : Heap) (locs : List Loc) (ls : Array Slot), K y3 → va_P D vwCl (wld cy ad dsM σ1) H → va_D A (wld cy ad dsM σ1) → va_S A s.heap H locs → lv_has ls 3 [(1, .int y3)] → W p l e (rmO 3 69) s m args below meth c H locs 0 0 (MQ below (va_Qi post (cBk D cy ad dsM A) A) args s 0 0 A) (F0 m 39 ls [])) (fun y3 H locs ls hF hP hD hS hl => ?_) (fun J2 hJ2 hF => ?_)
  · refine lv_iload_n hx hb dX12_crossings_39 rfl (lv_at hl 0 rfl) ?_
    exact wi_iret hx hb hr hlk hK hP hD hS dX12_crossings_40 hF
  · refine lpE2_use hF (fun (y4 : Int32) (y5 : Int32) => ∀ (H : Heap) (locs : List Loc) (ls : Array Slot), va_P D vwCl (wld cy ad dsM σ1) H → va_D A (wld cy ad dsM σ1) → va_S A s.heap H locs → lv_has ls 3 [(0, .ref (ad 0)), (1, .int y4), (2, .int y5)] → W p l e (rmO 3 69) s m args below meth c H locs 0 0 (MQ below (va_Qi post (cBk D cy ad dsM A) A) args s 0 0 A) (F0 m 9 ls [])) (fun rec6 hrec6 y4 y5 hF H locs ls hP hD hS hl => ?_) H locs ls hP hD hS (lv_sub hl [2, 1, 0] rfl)
    refine lv_iload_n hx hb dX12_crossings_9 rfl (lv_at hl 2 rfl) ?_
    refine lv_aload_n hx hb dX12_crossings_10 rfl (lv_at hl 0 rfl) ?_
    refine wi_geti hx hb hg hown hK hP 0 1 rfl rfl cb_12 (by decide) kw_559 dX12_crossings_11 ?_
    refine lv_icmp_ge (tgt := 39) hx hb dX12_crossings_14 (by decide) (fun c7 => ?_) (fun c7 => ?_)
    · have hF := brT hF c7
      exact hJ2 y4 H locs ls hF hP hD hS (lv_sub hl [1] rfl)
    · have hF := brF hF c7
      refine lv_iload_n hx hb dX12_crossings_17 rfl (lv_at hl 1 rfl) ?_
      refine lv_aload_n hx hb dX12_crossings_18 rfl (lv_at hl 0 rfl) ?_
      refine lv_iload_n hx hb dX12_crossings_19 rfl (lv_at hl 2 rfl) ?_
      refine wi_callVi (k := 0) (As := [.int y5]) (c_X12_isCrossing l D cy ad tL σ1 y5 _ hF) vw_RX12_295 rfl cb_12 hx hb hml hown hg hK hP hD hS hA hLB rfl ⟨Nat.le_of_ble_eq_true rfl, Nat.le_of_ble_eq_true rfl⟩ hl.1 rfl (Nat.le_of_ble_eq_true rfl) dX12_crossings_20 (fun r8 σ9 hw H locs hP hD hS => ?_)
      obtain ⟨hF, rfl⟩ := hw
      refine jn_use hF (fun K => ∀ (y11 : Int32) (H : Heap) (locs : List Loc) (ls : Array Slot), K y11 → va_P D vwCl (wld cy ad dsM σ1) H → va_D A (wld cy ad dsM σ1) → va_S A s.heap H locs → lv_has ls 3 [(0, .ref (ad 0)), (2, .int y5)] → W p l e (rmO 3 69) s m args below meth c H locs 0 0 (MQ below (va_Qi post (cBk D cy ad dsM A) A) args s 0 0 A) (F0 m 31 ls [.int y11, .int y4])) (fun y11 H locs ls hF hP hD hS hl => ?_) (fun J10 hJ10 hF => ?_)
      · refine lv_iadd hx hb dX12_crossings_31 ?_
        refine lv_topi (fun x12 ex12 => ?_)
        have hF := hF x12 ex12
        refine lv_istore_n (lv' := [(1, .int x12), (0, .ref (ad 0)), (2, .int y5)]) hx hb dX12_crossings_32 rfl hl (by decide) rfl (fun ls hl => ?_)
        obtain ⟨x13, ex13⟩ : ∃ z : Int32, z = (y5 + (1 : Int32)) := ⟨_, rfl⟩
        have hF := hF x13 ex13
        refine lv_iinc (v := x13) (lv' := [(2, .int x13), (1, .int x12), (0, .ref (ad 0))]) hx hb dX12_crossings_33 hl (k := 2) rfl (by rw [ex13]; rfl) (by decide) rfl (fun ls hl => ?_)
        refine lv_goto (tgt := 9) hx hb dX12_crossings_36 (by decide) ?_
        exact hrec6 x12 x13 hF H locs ls hP hD hS (lv_sub hl [2, 1, 0] rfl)
      · refine lv_if_eq (tgt := 30) hx hb dX12_crossings_23 (by decide) (fun c14 => ?_) (fun c14 => ?_)
        · have hF := brT hF c14
          refine lv_iconst (v := (0 : Int32)) hx hb dX12_crossings_30 (by decide) ?_
          exact hJ10 (0 : Int32) H locs ls hF hP hD hS (lv_sub hl [0, 2] rfl)
        · have hF := brF hF c14
          refine lv_iconst (v := (1 : Int32)) hx hb dX12_crossings_26 (by decide) ?_
          refine lv_goto (tgt := 31) hx hb dX12_crossings_27 (by decide) ?_
          exact hJ10 (1 : Int32) H locs ls hF hP hD hS (lv_sub hl [0, 2] rfl)
def w_X12_crossing (σ : St) (a1 : Int32) (a2 : Int32) (post : Int32 → St → Prop) : Prop := nm (upI σ 0 0 (0 : Int32)) (fun σ1 => jn (α := Int32 → Prop) (fun (y3 : Int32) => br (y3 < (0 : Int32)) (post (-1 : Int32) σ1) (w_X12_isIn ((a2 : Int32).toInt64) (0 : Int64) (4 : Int64) (fun r5 => br (r5 = (0 : Int32)) (post (-1 : Int32) σ1) (br (a2 = (0 : Int32)) (post y3 σ1) (br (a2 = (1 : Int32)) (w_X12_kindOf σ1 y3 (fun r10 => post r10 σ1)) (br (a2 = (2 : Int32)) (w_X12_meets σ1 y3 (fun r13 => br (r13 = (0 : Int32)) (post (0 : Int32) σ1) (post (1 : Int32) σ1))) (br (a2 = (3 : Int32)) (w_X12_kindOf σ1 y3 (fun r17 => br ((2 : Int32) < r17) (post (1 : Int32) σ1) (w_X12_meets σ1 y3 (fun r20 => br (r20 = (0 : Int32)) (post (0 : Int32) σ1) (post (1 : Int32) σ1))))) (w_X12_foreign σ1 y3 (fun r23 => post r23 σ1))))))))) (fun J2 => br ((0 : Int32) ≤ a1) (w_X12_crossingAt σ1 a1 (fun r26 => J2 r26)) (J2 (-1 : Int32))))
set_option maxHeartbeats 4000000 in
set_option maxRecDepth 100000 in
theorem c_X12_crossing (l : Launch) (D : va_G) (cy : Nat → ClassId) (ad : Nat → Nat) (tL : Nat) (σ : St) (a1 : Int32) (a2 : Int32) (post : Int32 → St → Prop) (hF : w_X12_crossing σ a1 a2 post) : Cti l yX12_crossing cX12_crossing 4 (some .int) 6 134 D cy ad tL dsM σ [.ref (ad 0), .int a1, .int a2] post := by
  refine cti_of (by decide) (Nat.le_of_ble_eq_true rfl) ?_
  intro p e s m args below meth c A hx hb hml hr hlk hg hown hA hK H locs hP hD hS hLB ls hl
  have hown : s.vm.findClass RX12 = some m.cls := hown
  have hl : lv_has ls 4 [(0, .ref (ad 0)), (1, .int a1), (2, .int a2)] := hl
  refine lv_aload_n hx hb dX12_crossing_0 rfl (lv_at hl 0 rfl) ?_
  refine lv_iconst (v := (0 : Int32)) hx hb dX12_crossing_1 (by decide) ?_
  refine wi_puti hx hb hg hown hK hP hD hS 0 0 rfl rfl cb_12 (by decide) kw_615 rfl rfl rfl dX12_crossing_2 (fun σ1 eσ1 H locs hP hD hS => ?_)
  have hF := hF σ1 eσ1
  refine lv_iload_n hx hb dX12_crossing_5 rfl (lv_at hl 1 rfl) ?_
  refine jn_use hF (fun K => ∀ (y3 : Int32) (H : Heap) (locs : List Loc) (ls : Array Slot), K y3 → va_P D vwCl (wld cy ad dsM σ1) H → va_D A (wld cy ad dsM σ1) → va_S A s.heap H locs → lv_has ls 4 [(0, .ref (ad 0)), (2, .int a2)] → W p l e (rmO 6 134) s m args below meth c H locs 0 0 (MQ below (va_Qi post (cBk D cy ad dsM A) A) args s 0 0 A) (F0 m 18 ls [.int y3])) (fun y3 H locs ls hF hP hD hS hl => ?_) (fun J2 hJ2 hF => ?_)
  · refine lv_istore_n (lv' := [(3, .int y3), (0, .ref (ad 0)), (2, .int a2)]) hx hb dX12_crossing_18 rfl hl (by decide) rfl (fun ls hl => ?_)
    refine lv_iload_n hx hb dX12_crossing_19 rfl (lv_at hl 0 rfl) ?_
    refine lv_if_lt (tgt := 35) hx hb dX12_crossing_20 (by decide) (fun c4 => ?_) (fun c4 => ?_)
    · have hF := brT hF c4
      refine lv_iconst (v := (-1 : Int32)) hx hb dX12_crossing_35 (by decide) ?_
      exact wi_iret hx hb hr hlk hK hP hD hS dX12_crossing_36 hF
    · have hF := brF hF c4
      refine lv_iload_n hx hb dX12_crossing_23 rfl (lv_at hl 2 rfl) ?_
      refine lv_i2l hx hb dX12_crossing_24 rfl ?_
      refine lv_lconst (v := (0 : Int64)) hx hb dX12_crossing_25 (by decide) ?_
      refine lv_ldc2 (v := (4 : Int64)) hx hb hown (hg _ kw_647) dX12_crossing_26 ?_
      refine wi_callSi (As := [.long ((a2 : Int32).toInt64), .long (0 : Int64), .long (4 : Int64)]) (c_X12_isIn l D cy ad tL σ1 ((a2 : Int32).toInt64) (0 : Int64) (4 : Int64) _ hF) sw_RX12_156 hx hb hml hown hg hK hP hD hS hA hLB rfl ⟨Nat.le_of_ble_eq_true rfl, Nat.le_of_ble_eq_true rfl⟩ hl.1 rfl (Nat.le_of_ble_eq_true rfl) dX12_crossing_29 (fun r5 σ6 hw H locs hP hD hS => ?_)
      obtain ⟨hF, rfl⟩ := hw
      refine lv_if_ne (tgt := 37) hx hb dX12_crossing_32 (by decide) (fun c7 => ?_) (fun c7 => ?_)
      · have hF := brF hF c7
        refine lv_iload_n hx hb dX12_crossing_37 rfl (lv_at hl 2 rfl) ?_
        by_cases c8 : a2 = (0 : Int32)
        · have hF := brT hF c8
          refine lv_tableIn (off := 30) (tgt := 68) hx hb dX12_crossing_38 (by rw [c8]; decide) (by rw [c8]; decide) (by rw [c8]; rfl) (by decide) ?_
          refine lv_iload_n hx hb dX12_crossing_68 rfl (lv_at hl 0 rfl) ?_
          exact wi_iret hx hb hr hlk hK hP hD hS dX12_crossing_69 hF
        · have hF := brF hF c8
          by_cases c9 : a2 = (1 : Int32)
          · have hF := brT hF c9
            refine lv_tableIn (off := 32) (tgt := 70) hx hb dX12_crossing_38 (by rw [c9]; decide) (by rw [c9]; decide) (by rw [c9]; rfl) (by decide) ?_
            refine lv_aload_n hx hb dX12_crossing_70 rfl (lv_at hl 1 rfl) ?_
            refine lv_iload_n hx hb dX12_crossing_71 rfl (lv_at hl 0 rfl) ?_
            refine wi_callVi (k := 0) (As := [.int y3]) (c_X12_kindOf l D cy ad tL σ1 y3 _ hF) vw_RX12_316 rfl cb_12 hx hb hml hown hg hK hP hD hS hA hLB rfl ⟨Nat.le_of_ble_eq_true rfl, Nat.le_of_ble_eq_true rfl⟩ hl.1 rfl (Nat.le_of_ble_eq_true rfl) dX12_crossing_72 (fun r10 σ11 hw H locs hP hD hS => ?_)
            obtain ⟨hF, rfl⟩ := hw
            exact wi_iret hx hb hr hlk hK hP hD hS dX12_crossing_75 hF
          · have hF := brF hF c9
            by_cases c12 : a2 = (2 : Int32)
            · have hF := brT hF c12
              refine lv_tableIn (off := 38) (tgt := 76) hx hb dX12_crossing_38 (by rw [c12]; decide) (by rw [c12]; decide) (by rw [c12]; rfl) (by decide) ?_
              refine lv_aload_n hx hb dX12_crossing_76 rfl (lv_at hl 1 rfl) ?_
              refine lv_iload_n hx hb dX12_crossing_77 rfl (lv_at hl 0 rfl) ?_
              refine wi_callVi (k := 0) (As := [.int y3]) (c_X12_meets l D cy ad tL σ1 y3 _ hF) vw_RX12_319 rfl cb_12 hx hb hml hown hg hK hP hD hS hA hLB rfl ⟨Nat.le_of_ble_eq_true rfl, Nat.le_of_ble_eq_true rfl⟩ hl.1 rfl (Nat.le_of_ble_eq_true rfl) dX12_crossing_78 (fun r13 σ14 hw H locs hP hD hS => ?_)
              obtain ⟨hF, rfl⟩ := hw
              refine lv_if_eq (tgt := 88) hx hb dX12_crossing_81 (by decide) (fun c15 => ?_) (fun c15 => ?_)
              · have hF := brT hF c15
                refine lv_iconst (v := (0 : Int32)) hx hb dX12_crossing_88 (by decide) ?_
                exact wi_iret hx hb hr hlk hK hP hD hS dX12_crossing_89 hF
              · have hF := brF hF c15
                refine lv_iconst (v := (1 : Int32)) hx hb dX12_crossing_84 (by decide) ?_
                refine lv_goto (tgt := 89) hx hb dX12_crossing_85 (by decide) ?_
                exact wi_iret hx hb hr hlk hK hP hD hS dX12_crossing_89 hF
            · have hF := brF hF c12
              by_cases c16 : a2 = (3 : Int32)
              · have hF := brT hF c16
                refine lv_tableIn (off := 52) (tgt := 90) hx hb dX12_crossing_38 (by rw [c16]; decide) (by rw [c16]; decide) (by rw [c16]; rfl) (by decide) ?_
                refine lv_aload_n hx hb dX12_crossing_90 rfl (lv_at hl 1 rfl) ?_
                refine lv_iload_n hx hb dX12_crossing_91 rfl (lv_at hl 0 rfl) ?_
                refine wi_callVi (k := 0) (As := [.int y3]) (c_X12_kindOf l D cy ad tL σ1 y3 _ hF) vw_RX12_316 rfl cb_12 hx hb hml hown hg hK hP hD hS hA hLB rfl ⟨Nat.le_of_ble_eq_true rfl, Nat.le_of_ble_eq_true rfl⟩ hl.1 rfl (Nat.le_of_ble_eq_true rfl) dX12_crossing_92 (fun r17 σ18 hw H locs hP hD hS => ?_)
                obtain ⟨hF, rfl⟩ := hw
                refine lv_iconst (v := (2 : Int32)) hx hb dX12_crossing_95 (by decide) ?_
                refine lv_icmp_gt (tgt := 107) hx hb dX12_crossing_96 (by decide) (fun c19 => ?_) (fun c19 => ?_)
                · have hF := brT hF c19
                  refine lv_iconst (v := (1 : Int32)) hx hb dX12_crossing_107 (by decide) ?_
                  refine lv_goto (tgt := 112) hx hb dX12_crossing_108 (by decide) ?_
                  exact wi_iret hx hb hr hlk hK hP hD hS dX12_crossing_112 hF
                · have hF := brF hF c19
                  refine lv_aload_n hx hb dX12_crossing_99 rfl (lv_at hl 1 rfl) ?_
                  refine lv_iload_n hx hb dX12_crossing_100 rfl (lv_at hl 0 rfl) ?_
                  refine wi_callVi (k := 0) (As := [.int y3]) (c_X12_meets l D cy ad tL σ1 y3 _ hF) vw_RX12_319 rfl cb_12 hx hb hml hown hg hK hP hD hS hA hLB rfl ⟨Nat.le_of_ble_eq_true rfl, Nat.le_of_ble_eq_true rfl⟩ hl.1 rfl (Nat.le_of_ble_eq_true rfl) dX12_crossing_101 (fun r20 σ21 hw H locs hP hD hS => ?_)
                  obtain ⟨hF, rfl⟩ := hw
                  refine lv_if_eq (tgt := 111) hx hb dX12_crossing_104 (by decide) (fun c22 => ?_) (fun c22 => ?_)
                  · have hF := brT hF c22
                    refine lv_iconst (v := (0 : Int32)) hx hb dX12_crossing_111 (by decide) ?_
                    exact wi_iret hx hb hr hlk hK hP hD hS dX12_crossing_112 hF
                  · have hF := brF hF c22
                    refine lv_iconst (v := (1 : Int32)) hx hb dX12_crossing_107 (by decide) ?_
                    refine lv_goto (tgt := 112) hx hb dX12_crossing_108 (by decide) ?_
                    exact wi_iret hx hb hr hlk hK hP hD hS dX12_crossing_112 hF
              · have hF := brF hF c16
                have nc8 := lv_neT (a := 0) c8 (by decide)
                have nc9 := lv_neT (a := 1) c9 (by decide)
                have nc12 := lv_neT (a := 2) c12 (by decide)
                have nc16 := lv_neT (a := 3) c16 (by decide)
                refine lv_tableOut (tgt := 113) hx hb dX12_crossing_38 (by omega) (by decide) ?_
                refine lv_aload_n hx hb dX12_crossing_113 rfl (lv_at hl 1 rfl) ?_
                refine lv_iload_n hx hb dX12_crossing_114 rfl (lv_at hl 0 rfl) ?_
                refine wi_callVi (k := 0) (As := [.int y3]) (c_X12_foreign l D cy ad tL σ1 y3 _ hF) vw_RX12_292 rfl cb_12 hx hb hml hown hg hK hP hD hS hA hLB rfl ⟨Nat.le_of_ble_eq_true rfl, Nat.le_of_ble_eq_true rfl⟩ hl.1 rfl (Nat.le_of_ble_eq_true rfl) dX12_crossing_115 (fun r23 σ24 hw H locs hP hD hS => ?_)
                obtain ⟨hF, rfl⟩ := hw
                exact wi_iret hx hb hr hlk hK hP hD hS dX12_crossing_118 hF
      · have hF := brT hF c7
        refine lv_iconst (v := (-1 : Int32)) hx hb dX12_crossing_35 (by decide) ?_
        exact wi_iret hx hb hr hlk hK hP hD hS dX12_crossing_36 hF
  · refine lv_if_ge (tgt := 13) hx hb dX12_crossing_6 (by decide) (fun c25 => ?_) (fun c25 => ?_)
    · have hF := brT hF c25
      refine lv_aload_n hx hb dX12_crossing_13 rfl (lv_at hl 0 rfl) ?_
      refine lv_iload_n hx hb dX12_crossing_14 rfl (lv_at hl 1 rfl) ?_
      refine wi_callVi (k := 0) (As := [.int a1]) (c_X12_crossingAt l D cy ad tL σ1 a1 _ hF) vw_RX12_313 rfl cb_12 hx hb hml hown hg hK hP hD hS hA hLB rfl ⟨Nat.le_of_ble_eq_true rfl, Nat.le_of_ble_eq_true rfl⟩ hl.1 rfl (Nat.le_of_ble_eq_true rfl) dX12_crossing_15 (fun r26 σ27 hw H locs hP hD hS => ?_)
      obtain ⟨hF, rfl⟩ := hw
      exact hJ2 r26 H locs ls hF hP hD hS (lv_sub hl [0, 2] rfl)
    · have hF := brF hF c25
      refine lv_iconst (v := (-1 : Int32)) hx hb dX12_crossing_9 (by decide) ?_
      refine lv_goto (tgt := 18) hx hb dX12_crossing_10 (by decide) ?_
      exact hJ2 (-1 : Int32) H locs ls hF hP hD hS (lv_sub hl [0, 2] rfl)
def w_X12_mend_L66 (y3 : Int32) (x10 : Int32) (J11 : St → Prop) (rec22 : Int32 → St → Prop) (y20 : Int32) (σ21 : St) : Prop := br (x10 ≤ y20) (J11 σ21) (rd (σ21.1 1) 24 y20 (fun v24 => jn (α := Prop) (rd (σ21.1 4) 24 y20 (fun v26 => jn (α := Int32 → Prop) (fun (y28 : Int32) => ck y20 24 (nm (upI σ21 4 (y20).toNatClampNeg y28) (fun σ29 => rd (σ29.1 5) 24 y20 (fun v30 => jn (α := Int32 → Prop) (fun (y32 : Int32) => ck y20 24 (nm (upI σ29 5 (y20).toNatClampNeg y32) (fun σ33 => rd (σ33.1 6) 24 y20 (fun v34 => jn (α := Int32 → Prop) (fun (y36 : Int32) => ck y20 24 (nm (upI σ33 6 (y20).toNatClampNeg y36) (fun σ37 => nm (y20 + (1 : Int32)) (fun x38 => rec22 x38 σ37)))) (fun J35 => br (v34 = y3) (J35 x10) (rd (σ33.1 6) 24 y20 (fun v40 => J35 v40))))))) (fun J31 => br (v30 = y3) (J31 x10) (rd (σ29.1 5) 24 y20 (fun v42 => J31 v42))))))) (fun J27 => br (v26 = y3) (J27 x10) (rd (σ21.1 4) 24 y20 (fun v44 => J27 v44))))) (fun J25 => br (v24 < (5 : Int32)) (J25) (rd (σ21.1 1) 24 y20 (fun v46 => br (v46 = (6 : Int32)) (br (y20 = y3) (nm (y20 + (1 : Int32)) (fun x50 => rec22 x50 σ21)) (J25)) (nm (y20 + (1 : Int32)) (fun x48 => rec22 x48 σ21)))))))
def w_X12_mend (σ : St) (a1 : Int32) (post : Int32 → St → Prop) : Prop := nm (upI σ 0 0 (0 : Int32)) (fun σ1 => jn (α := Int32 → Prop) (fun (y3 : Int32) => br ((0 : Int32) ≤ y3) (br ((σ1.1 0 1) = (24 : Int32)) (post (-2 : Int32) σ1) (br ((σ1.1 0 2) = (10 : Int32)) (post (-2 : Int32) σ1) (w_X12_kindOf σ1 y3 (fun r7 => br (r7 = (3 : Int32)) (nm (σ1.1 0 1) (fun x10 => jn (α := St → Prop) (fun (σ12 : St) => rd (σ12.1 2) 24 y3 (fun v13 => rd (σ12.1 3) 24 y3 (fun v14 => w_X12_add σ12 (6 : Int32) v13 v14 (fun σ16 => ck x10 24 (nm (upI σ16 4 (x10).toNatClampNeg y3) (fun σ17 => w_X12_changed σ17 (fun σ19 => post x10 σ19))))))) (fun J11 => lpE2 (w_X12_mend_L66 y3 x10 J11) (0 : Int32) σ1))) (post (-3 : Int32) σ1))))) (post (-1 : Int32) σ1)) (fun J2 => br ((0 : Int32) ≤ a1) (w_X12_crossingAt σ1 a1 (fun r52 => J2 r52)) (J2 (-1 : Int32))))
set_option maxHeartbeats 4000000 in
set_option maxRecDepth 100000 in
theorem c_X12_mend (l : Launch) (D : va_G) (cy : Nat → ClassId) (ad : Nat → Nat) (tL : Nat) (σ : St) (a1 : Int32) (post : Int32 → St → Prop) (hF : w_X12_mend σ a1 post) : Cti l yX12_mend cX12_mend 5 (some .int) 6 134 D cy ad tL dsM σ [.ref (ad 0), .int a1] post := by
  refine cti_of (by decide) (Nat.le_of_ble_eq_true rfl) ?_
  intro p e s m args below meth c A hx hb hml hr hlk hg hown hA hK H locs hP hD hS hLB ls hl
  have hown : s.vm.findClass RX12 = some m.cls := hown
  have hl : lv_has ls 5 [(0, .ref (ad 0)), (1, .int a1)] := hl
  refine lv_aload_n hx hb dX12_mend_0 rfl (lv_at hl 0 rfl) ?_
  refine lv_iconst (v := (0 : Int32)) hx hb dX12_mend_1 (by decide) ?_
  refine wi_puti hx hb hg hown hK hP hD hS 0 0 rfl rfl cb_12 (by decide) kw_615 rfl rfl rfl dX12_mend_2 (fun σ1 eσ1 H locs hP hD hS => ?_)
  have hF := hF σ1 eσ1
  refine lv_iload_n hx hb dX12_mend_5 rfl (lv_at hl 1 rfl) ?_
  refine jn_use hF (fun K => ∀ (y3 : Int32) (H : Heap) (locs : List Loc) (ls : Array Slot), K y3 → va_P D vwCl (wld cy ad dsM σ1) H → va_D A (wld cy ad dsM σ1) → va_S A s.heap H locs → lv_has ls 5 [(0, .ref (ad 0))] → W p l e (rmO 6 134) s m args below meth c H locs 0 0 (MQ below (va_Qi post (cBk D cy ad dsM A) A) args s 0 0 A) (F0 m 18 ls [.int y3])) (fun y3 H locs ls hF hP hD hS hl => ?_) (fun J2 hJ2 hF => ?_)
  · refine lv_istore_n (lv' := [(2, .int y3), (0, .ref (ad 0))]) hx hb dX12_mend_18 rfl hl (by decide) rfl (fun ls hl => ?_)
    refine lv_iload_n hx hb dX12_mend_19 rfl (lv_at hl 0 rfl) ?_
    refine lv_if_ge (tgt := 25) hx hb dX12_mend_20 (by decide) (fun c4 => ?_) (fun c4 => ?_)
    · have hF := brT hF c4
      refine lv_aload_n hx hb dX12_mend_25 rfl (lv_at hl 1 rfl) ?_
      refine wi_geti hx hb hg hown hK hP 0 1 rfl rfl cb_12 (by decide) kw_559 dX12_mend_26 ?_
      refine lv_bipush (v := (24 : Int32)) hx hb dX12_mend_29 (by decide) ?_
      refine lv_icmp_eq (tgt := 43) hx hb dX12_mend_31 (by decide) (fun c5 => ?_) (fun c5 => ?_)
      · have hF := brT hF c5
        refine lv_bipush (v := (-2 : Int32)) hx hb dX12_mend_43 (by decide) ?_
        exact wi_iret hx hb hr hlk hK hP hD hS dX12_mend_45 hF
      · have hF := brF hF c5
        refine lv_aload_n hx hb dX12_mend_34 rfl (lv_at hl 1 rfl) ?_
        refine wi_geti hx hb hg hown hK hP 0 2 rfl rfl cb_12 (by decide) kw_634 dX12_mend_35 ?_
        refine lv_bipush (v := (10 : Int32)) hx hb dX12_mend_38 (by decide) ?_
        refine lv_icmp_ne (tgt := 46) hx hb dX12_mend_40 (by decide) (fun c6 => ?_) (fun c6 => ?_)
        · have hF := brF hF c6
          refine lv_aload_n hx hb dX12_mend_46 rfl (lv_at hl 1 rfl) ?_
          refine lv_iload_n hx hb dX12_mend_47 rfl (lv_at hl 0 rfl) ?_
          refine wi_callVi (k := 0) (As := [.int y3]) (c_X12_kindOf l D cy ad tL σ1 y3 _ hF) vw_RX12_316 rfl cb_12 hx hb hml hown hg hK hP hD hS hA hLB rfl ⟨Nat.le_of_ble_eq_true rfl, Nat.le_of_ble_eq_true rfl⟩ hl.1 rfl (Nat.le_of_ble_eq_true rfl) dX12_mend_48 (fun r7 σ8 hw H locs hP hD hS => ?_)
          obtain ⟨hF, rfl⟩ := hw
          refine lv_iconst (v := (3 : Int32)) hx hb dX12_mend_51 (by decide) ?_
          refine lv_icmp_eq (tgt := 58) hx hb dX12_mend_52 (by decide) (fun c9 => ?_) (fun c9 => ?_)
          · have hF := brT hF c9
            refine lv_aload_n hx hb dX12_mend_58 rfl (lv_at hl 1 rfl) ?_
            refine wi_geti hx hb hg hown hK hP 0 1 rfl rfl cb_12 (by decide) kw_559 dX12_mend_59 ?_
            refine lv_topi (fun x10 ex10 => ?_)
            have hF := hF x10 ex10
            refine lv_istore_n (lv' := [(3, .int x10), (2, .int y3), (0, .ref (ad 0))]) hx hb dX12_mend_62 rfl hl (by decide) rfl (fun ls hl => ?_)
            refine lv_iconst (v := (0 : Int32)) hx hb dX12_mend_63 (by decide) ?_
            refine lv_istore (lv' := [(4, .int (0 : Int32)), (3, .int x10), (2, .int y3), (0, .ref (ad 0))]) hx hb dX12_mend_64 hl (by decide) rfl (fun ls hl => ?_)
            refine jn_use hF (fun K => ∀ (σ12 : St) (H : Heap) (locs : List Loc) (ls : Array Slot), K σ12 → va_P D vwCl (wld cy ad dsM σ12) H → va_D A (wld cy ad dsM σ12) → va_S A s.heap H locs → lv_has ls 5 [(0, .ref (ad 0)), (2, .int y3), (3, .int x10)] → W p l e (rmO 6 134) s m args below meth c H locs 0 0 (MQ below (va_Qi post (cBk D cy ad dsM A) A) args s 0 0 A) (F0 m 194 ls [])) (fun σ12 H locs ls hF hP hD hS hl => ?_) (fun J11 hJ11 hF => ?_)
            · refine lv_aload_n hx hb dX12_mend_194 rfl (lv_at hl 0 rfl) ?_
              refine lv_bipush (v := (6 : Int32)) hx hb dX12_mend_195 (by decide) ?_
              refine lv_aload_n hx hb dX12_mend_197 rfl (lv_at hl 0 rfl) ?_
              refine wi_getr hx hb hg hown hK hP 0 4 2 rfl rfl cb_12 (by decide) kw_581 dX12_mend_198 ?_
              refine lv_iload_n hx hb dX12_mend_201 rfl (lv_at hl 1 rfl) ?_
              obtain ⟨hin, hF⟩ := hF
              refine wi_iald hx hb hK hP 2 rfl hin dX12_mend_202 (fun v13 ev13 => ?_)
              have hF := hF v13 ev13
              refine lv_aload_n hx hb dX12_mend_203 rfl (lv_at hl 0 rfl) ?_
              refine wi_getr hx hb hg hown hK hP 0 5 3 rfl rfl cb_12 (by decide) kw_568 dX12_mend_204 ?_
              refine lv_iload_n hx hb dX12_mend_207 rfl (lv_at hl 1 rfl) ?_
              obtain ⟨hin, hF⟩ := hF
              refine wi_iald hx hb hK hP 3 rfl hin dX12_mend_208 (fun v14 ev14 => ?_)
              have hF := hF v14 ev14
              refine wi_callVv (k := 0) (As := [.int (6 : Int32), .int v13, .int v14]) (c_X12_add l D cy ad tL σ12 (6 : Int32) v13 v14 _ hF) vw_RX12_163 rfl cb_12 hx hb hml hown hg hK hP hD hS hA hLB rfl ⟨Nat.le_of_ble_eq_true rfl, Nat.le_of_ble_eq_true rfl⟩ hl.1 rfl (Nat.le_of_ble_eq_true rfl) dX12_mend_209 (fun σ16 hw H locs hP hD hS => ?_)
              have hF := hw
              refine lv_aload_n hx hb dX12_mend_212 rfl (lv_at hl 0 rfl) ?_
              refine wi_getr hx hb hg hown hK hP 0 6 4 rfl rfl cb_12 (by decide) kw_561 dX12_mend_213 ?_
              refine lv_iload_n hx hb dX12_mend_216 rfl (lv_at hl 2 rfl) ?_
              refine lv_iload_n hx hb dX12_mend_217 rfl (lv_at hl 1 rfl) ?_
              obtain ⟨hin, hF⟩ := hF
              refine wi_iast hx hb hK hP hD hS 4 rfl hin dX12_mend_218 (fun σ17 eσ17 H locs hP hD hS => ?_)
              have hF := hF σ17 eσ17
              refine lv_aload_n hx hb dX12_mend_219 rfl (lv_at hl 0 rfl) ?_
              refine wi_callVv (k := 0) (As := []) (c_X12_changed l D cy ad tL σ17 _ hF) vw_RX12_167 rfl cb_12 hx hb hml hown hg hK hP hD hS hA hLB rfl ⟨Nat.le_of_ble_eq_true rfl, Nat.le_of_ble_eq_true rfl⟩ hl.1 rfl (Nat.le_of_ble_eq_true rfl) dX12_mend_220 (fun σ19 hw H locs hP hD hS => ?_)
              have hF := hw
              refine lv_iload_n hx hb dX12_mend_223 rfl (lv_at hl 2 rfl) ?_
              exact wi_iret hx hb hr hlk hK hP hD hS dX12_mend_224 hF
            · refine lpE2_use hF (fun (y20 : Int32) (σ21 : St) => ∀ (H : Heap) (locs : List Loc) (ls : Array Slot), va_P D vwCl (wld cy ad dsM σ21) H → va_D A (wld cy ad dsM σ21) → va_S A s.heap H locs → lv_has ls 5 [(0, .ref (ad 0)), (2, .int y3), (3, .int x10), (4, .int y20)] → W p l e (rmO 6 134) s m args below meth c H locs 0 0 (MQ below (va_Qi post (cBk D cy ad dsM A) A) args s 0 0 A) (F0 m 66 ls [])) (fun rec22 hrec22 y20 σ21 hF H locs ls hP hD hS hl => ?_) H locs ls hP hD hS (lv_sub hl [3, 2, 1, 0] rfl)
              refine lv_iload hx hb dX12_mend_66 (lv_at hl 3 rfl) ?_
              refine lv_iload_n hx hb dX12_mend_68 rfl (lv_at hl 2 rfl) ?_
              refine lv_icmp_ge (tgt := 194) hx hb dX12_mend_69 (by decide) (fun c23 => ?_) (fun c23 => ?_)
              · have hF := brT hF c23
                exact hJ11 σ21 H locs ls hF hP hD hS (lv_sub hl [0, 1, 2] rfl)
              · have hF := brF hF c23
                refine lv_aload_n hx hb dX12_mend_72 rfl (lv_at hl 0 rfl) ?_
                refine wi_getr hx hb hg hown hK hP 0 3 1 rfl rfl cb_12 (by decide) kw_560 dX12_mend_73 ?_
                refine lv_iload hx hb dX12_mend_76 (lv_at hl 3 rfl) ?_
                obtain ⟨hin, hF⟩ := hF
                refine wi_iald hx hb hK hP 1 rfl hin dX12_mend_78 (fun v24 ev24 => ?_)
                have hF := hF v24 ev24
                refine lv_iconst (v := (5 : Int32)) hx hb dX12_mend_79 (by decide) ?_
                refine jn_use hF (fun K => ∀ (H : Heap) (locs : List Loc) (ls : Array Slot), K → va_P D vwCl (wld cy ad dsM σ21) H → va_D A (wld cy ad dsM σ21) → va_S A s.heap H locs → lv_has ls 5 [(0, .ref (ad 0)), (2, .int y3), (3, .int x10), (4, .int y20)] → W p l e (rmO 6 134) s m args below meth c H locs 0 0 (MQ below (va_Qi post (cBk D cy ad dsM A) A) args s 0 0 A) (F0 m 101 ls [])) (fun H locs ls hF hP hD hS hl => ?_) (fun J25 hJ25 hF => ?_)
                · refine lv_aload_n hx hb dX12_mend_101 rfl (lv_at hl 0 rfl) ?_
                  refine wi_getr hx hb hg hown hK hP 0 6 4 rfl rfl cb_12 (by decide) kw_561 dX12_mend_102 ?_
                  refine lv_iload hx hb dX12_mend_105 (lv_at hl 3 rfl) ?_
                  refine lv_aload_n hx hb dX12_mend_107 rfl (lv_at hl 0 rfl) ?_
                  refine wi_getr hx hb hg hown hK hP 0 6 4 rfl rfl cb_12 (by decide) kw_561 dX12_mend_108 ?_
                  refine lv_iload hx hb dX12_mend_111 (lv_at hl 3 rfl) ?_
                  obtain ⟨hin, hF⟩ := hF
                  refine wi_iald hx hb hK hP 4 rfl hin dX12_mend_113 (fun v26 ev26 => ?_)
                  have hF := hF v26 ev26
                  refine lv_iload_n hx hb dX12_mend_114 rfl (lv_at hl 1 rfl) ?_
                  refine jn_use hF (fun K => ∀ (y28 : Int32) (H : Heap) (locs : List Loc) (ls : Array Slot), K y28 → va_P D vwCl (wld cy ad dsM σ21) H → va_D A (wld cy ad dsM σ21) → va_S A s.heap H locs → lv_has ls 5 [(0, .ref (ad 0)), (2, .int y3), (3, .int x10), (4, .int y20)] → W p l e (rmO 6 134) s m args below meth c H locs 0 0 (MQ below (va_Qi post (cBk D cy ad dsM A) A) args s 0 0 A) (F0 m 129 ls [.int y28, .int y20, .ref (ad 4)])) (fun y28 H locs ls hF hP hD hS hl => ?_) (fun J27 hJ27 hF => ?_)
                  · obtain ⟨hin, hF⟩ := hF
                    refine wi_iast hx hb hK hP hD hS 4 rfl hin dX12_mend_129 (fun σ29 eσ29 H locs hP hD hS => ?_)
                    have hF := hF σ29 eσ29
                    refine lv_aload_n hx hb dX12_mend_130 rfl (lv_at hl 0 rfl) ?_
                    refine wi_getr hx hb hg hown hK hP 0 7 5 rfl rfl cb_12 (by decide) kw_562 dX12_mend_131 ?_
                    refine lv_iload hx hb dX12_mend_134 (lv_at hl 3 rfl) ?_
                    refine lv_aload_n hx hb dX12_mend_136 rfl (lv_at hl 0 rfl) ?_
                    refine wi_getr hx hb hg hown hK hP 0 7 5 rfl rfl cb_12 (by decide) kw_562 dX12_mend_137 ?_
                    refine lv_iload hx hb dX12_mend_140 (lv_at hl 3 rfl) ?_
                    obtain ⟨hin, hF⟩ := hF
                    refine wi_iald hx hb hK hP 5 rfl hin dX12_mend_142 (fun v30 ev30 => ?_)
                    have hF := hF v30 ev30
                    refine lv_iload_n hx hb dX12_mend_143 rfl (lv_at hl 1 rfl) ?_
                    refine jn_use hF (fun K => ∀ (y32 : Int32) (H : Heap) (locs : List Loc) (ls : Array Slot), K y32 → va_P D vwCl (wld cy ad dsM σ29) H → va_D A (wld cy ad dsM σ29) → va_S A s.heap H locs → lv_has ls 5 [(0, .ref (ad 0)), (2, .int y3), (3, .int x10), (4, .int y20)] → W p l e (rmO 6 134) s m args below meth c H locs 0 0 (MQ below (va_Qi post (cBk D cy ad dsM A) A) args s 0 0 A) (F0 m 158 ls [.int y32, .int y20, .ref (ad 5)])) (fun y32 H locs ls hF hP hD hS hl => ?_) (fun J31 hJ31 hF => ?_)
                    · obtain ⟨hin, hF⟩ := hF
                      refine wi_iast hx hb hK hP hD hS 5 rfl hin dX12_mend_158 (fun σ33 eσ33 H locs hP hD hS => ?_)
                      have hF := hF σ33 eσ33
                      refine lv_aload_n hx hb dX12_mend_159 rfl (lv_at hl 0 rfl) ?_
                      refine wi_getr hx hb hg hown hK hP 0 8 6 rfl rfl cb_12 (by decide) kw_563 dX12_mend_160 ?_
                      refine lv_iload hx hb dX12_mend_163 (lv_at hl 3 rfl) ?_
                      refine lv_aload_n hx hb dX12_mend_165 rfl (lv_at hl 0 rfl) ?_
                      refine wi_getr hx hb hg hown hK hP 0 8 6 rfl rfl cb_12 (by decide) kw_563 dX12_mend_166 ?_
                      refine lv_iload hx hb dX12_mend_169 (lv_at hl 3 rfl) ?_
                      obtain ⟨hin, hF⟩ := hF
                      refine wi_iald hx hb hK hP 6 rfl hin dX12_mend_171 (fun v34 ev34 => ?_)
                      have hF := hF v34 ev34
                      refine lv_iload_n hx hb dX12_mend_172 rfl (lv_at hl 1 rfl) ?_
                      refine jn_use hF (fun K => ∀ (y36 : Int32) (H : Heap) (locs : List Loc) (ls : Array Slot), K y36 → va_P D vwCl (wld cy ad dsM σ33) H → va_D A (wld cy ad dsM σ33) → va_S A s.heap H locs → lv_has ls 5 [(0, .ref (ad 0)), (2, .int y3), (3, .int x10), (4, .int y20)] → W p l e (rmO 6 134) s m args below meth c H locs 0 0 (MQ below (va_Qi post (cBk D cy ad dsM A) A) args s 0 0 A) (F0 m 187 ls [.int y36, .int y20, .ref (ad 6)])) (fun y36 H locs ls hF hP hD hS hl => ?_) (fun J35 hJ35 hF => ?_)
                      · obtain ⟨hin, hF⟩ := hF
                        refine wi_iast hx hb hK hP hD hS 6 rfl hin dX12_mend_187 (fun σ37 eσ37 H locs hP hD hS => ?_)
                        have hF := hF σ37 eσ37
                        obtain ⟨x38, ex38⟩ : ∃ z : Int32, z = (y20 + (1 : Int32)) := ⟨_, rfl⟩
                        have hF := hF x38 ex38
                        refine lv_iinc (v := x38) (lv' := [(4, .int x38), (0, .ref (ad 0)), (2, .int y3), (3, .int x10)]) hx hb dX12_mend_188 hl (k := 3) rfl (by rw [ex38]; rfl) (by decide) rfl (fun ls hl => ?_)
                        refine lv_goto (tgt := 66) hx hb dX12_mend_191 (by decide) ?_
                        exact hrec22 x38 σ37 hF H locs ls hP hD hS (lv_sub hl [1, 2, 3, 0] rfl)
                      · refine lv_icmp_ne (tgt := 180) hx hb dX12_mend_173 (by decide) (fun c39 => ?_) (fun c39 => ?_)
                        · have hF := brF hF c39
                          refine lv_aload_n hx hb dX12_mend_180 rfl (lv_at hl 0 rfl) ?_
                          refine wi_getr hx hb hg hown hK hP 0 8 6 rfl rfl cb_12 (by decide) kw_563 dX12_mend_181 ?_
                          refine lv_iload hx hb dX12_mend_184 (lv_at hl 3 rfl) ?_
                          obtain ⟨hin, hF⟩ := hF
                          refine wi_iald hx hb hK hP 6 rfl hin dX12_mend_186 (fun v40 ev40 => ?_)
                          have hF := hF v40 ev40
                          exact hJ35 v40 H locs ls hF hP hD hS (lv_sub hl [0, 1, 2, 3] rfl)
                        · have hF := brT hF c39
                          refine lv_iload_n hx hb dX12_mend_176 rfl (lv_at hl 2 rfl) ?_
                          refine lv_goto (tgt := 187) hx hb dX12_mend_177 (by decide) ?_
                          exact hJ35 x10 H locs ls hF hP hD hS (lv_sub hl [0, 1, 2, 3] rfl)
                    · refine lv_icmp_ne (tgt := 151) hx hb dX12_mend_144 (by decide) (fun c41 => ?_) (fun c41 => ?_)
                      · have hF := brF hF c41
                        refine lv_aload_n hx hb dX12_mend_151 rfl (lv_at hl 0 rfl) ?_
                        refine wi_getr hx hb hg hown hK hP 0 7 5 rfl rfl cb_12 (by decide) kw_562 dX12_mend_152 ?_
                        refine lv_iload hx hb dX12_mend_155 (lv_at hl 3 rfl) ?_
                        obtain ⟨hin, hF⟩ := hF
                        refine wi_iald hx hb hK hP 5 rfl hin dX12_mend_157 (fun v42 ev42 => ?_)
                        have hF := hF v42 ev42
                        exact hJ31 v42 H locs ls hF hP hD hS (lv_sub hl [0, 1, 2, 3] rfl)
                      · have hF := brT hF c41
                        refine lv_iload_n hx hb dX12_mend_147 rfl (lv_at hl 2 rfl) ?_
                        refine lv_goto (tgt := 158) hx hb dX12_mend_148 (by decide) ?_
                        exact hJ31 x10 H locs ls hF hP hD hS (lv_sub hl [0, 1, 2, 3] rfl)
                  · refine lv_icmp_ne (tgt := 122) hx hb dX12_mend_115 (by decide) (fun c43 => ?_) (fun c43 => ?_)
                    · have hF := brF hF c43
                      refine lv_aload_n hx hb dX12_mend_122 rfl (lv_at hl 0 rfl) ?_
                      refine wi_getr hx hb hg hown hK hP 0 6 4 rfl rfl cb_12 (by decide) kw_561 dX12_mend_123 ?_
                      refine lv_iload hx hb dX12_mend_126 (lv_at hl 3 rfl) ?_
                      obtain ⟨hin, hF⟩ := hF
                      refine wi_iald hx hb hK hP 4 rfl hin dX12_mend_128 (fun v44 ev44 => ?_)
                      have hF := hF v44 ev44
                      exact hJ27 v44 H locs ls hF hP hD hS (lv_sub hl [0, 1, 2, 3] rfl)
                    · have hF := brT hF c43
                      refine lv_iload_n hx hb dX12_mend_118 rfl (lv_at hl 2 rfl) ?_
                      refine lv_goto (tgt := 129) hx hb dX12_mend_119 (by decide) ?_
                      exact hJ27 x10 H locs ls hF hP hD hS (lv_sub hl [0, 1, 2, 3] rfl)
                · refine lv_icmp_lt (tgt := 101) hx hb dX12_mend_80 (by decide) (fun c45 => ?_) (fun c45 => ?_)
                  · have hF := brT hF c45
                    exact hJ25  H locs ls hF hP hD hS (lv_sub hl [0, 1, 2, 3] rfl)
                  · have hF := brF hF c45
                    refine lv_aload_n hx hb dX12_mend_83 rfl (lv_at hl 0 rfl) ?_
                    refine wi_getr hx hb hg hown hK hP 0 3 1 rfl rfl cb_12 (by decide) kw_560 dX12_mend_84 ?_
                    refine lv_iload hx hb dX12_mend_87 (lv_at hl 3 rfl) ?_
                    obtain ⟨hin, hF⟩ := hF
                    refine wi_iald hx hb hK hP 1 rfl hin dX12_mend_89 (fun v46 ev46 => ?_)
                    have hF := hF v46 ev46
                    refine lv_bipush (v := (6 : Int32)) hx hb dX12_mend_90 (by decide) ?_
                    refine lv_icmp_ne (tgt := 188) hx hb dX12_mend_92 (by decide) (fun c47 => ?_) (fun c47 => ?_)
                    · have hF := brF hF c47
                      obtain ⟨x48, ex48⟩ : ∃ z : Int32, z = (y20 + (1 : Int32)) := ⟨_, rfl⟩
                      have hF := hF x48 ex48
                      refine lv_iinc (v := x48) (lv' := [(4, .int x48), (0, .ref (ad 0)), (2, .int y3), (3, .int x10)]) hx hb dX12_mend_188 hl (k := 3) rfl (by rw [ex48]; rfl) (by decide) rfl (fun ls hl => ?_)
                      refine lv_goto (tgt := 66) hx hb dX12_mend_191 (by decide) ?_
                      exact hrec22 x48 σ21 hF H locs ls hP hD hS (lv_sub hl [1, 2, 3, 0] rfl)
                    · have hF := brT hF c47
                      refine lv_iload hx hb dX12_mend_95 (lv_at hl 3 rfl) ?_
                      refine lv_iload_n hx hb dX12_mend_97 rfl (lv_at hl 1 rfl) ?_
                      refine lv_icmp_eq (tgt := 188) hx hb dX12_mend_98 (by decide) (fun c49 => ?_) (fun c49 => ?_)
                      · have hF := brT hF c49
                        obtain ⟨x50, ex50⟩ : ∃ z : Int32, z = (y20 + (1 : Int32)) := ⟨_, rfl⟩
                        have hF := hF x50 ex50
                        refine lv_iinc (v := x50) (lv' := [(4, .int x50), (0, .ref (ad 0)), (2, .int y3), (3, .int x10)]) hx hb dX12_mend_188 hl (k := 3) rfl (by rw [ex50]; rfl) (by decide) rfl (fun ls hl => ?_)
                        refine lv_goto (tgt := 66) hx hb dX12_mend_191 (by decide) ?_
                        exact hrec22 x50 σ21 hF H locs ls hP hD hS (lv_sub hl [1, 2, 3, 0] rfl)
                      · have hF := brF hF c49
                        exact hJ25  H locs ls hF hP hD hS (lv_sub hl [0, 1, 2, 3] rfl)
          · have hF := brF hF c9
            refine lv_bipush (v := (-3 : Int32)) hx hb dX12_mend_55 (by decide) ?_
            exact wi_iret hx hb hr hlk hK hP hD hS dX12_mend_57 hF
        · have hF := brT hF c6
          refine lv_bipush (v := (-2 : Int32)) hx hb dX12_mend_43 (by decide) ?_
          exact wi_iret hx hb hr hlk hK hP hD hS dX12_mend_45 hF
    · have hF := brF hF c4
      refine lv_iconst (v := (-1 : Int32)) hx hb dX12_mend_23 (by decide) ?_
      exact wi_iret hx hb hr hlk hK hP hD hS dX12_mend_24 hF
  · refine lv_if_ge (tgt := 13) hx hb dX12_mend_6 (by decide) (fun c51 => ?_) (fun c51 => ?_)
    · have hF := brT hF c51
      refine lv_aload_n hx hb dX12_mend_13 rfl (lv_at hl 0 rfl) ?_
      refine lv_iload_n hx hb dX12_mend_14 rfl (lv_at hl 1 rfl) ?_
      refine wi_callVi (k := 0) (As := [.int a1]) (c_X12_crossingAt l D cy ad tL σ1 a1 _ hF) vw_RX12_313 rfl cb_12 hx hb hml hown hg hK hP hD hS hA hLB rfl ⟨Nat.le_of_ble_eq_true rfl, Nat.le_of_ble_eq_true rfl⟩ hl.1 rfl (Nat.le_of_ble_eq_true rfl) dX12_mend_15 (fun r52 σ53 hw H locs hP hD hS => ?_)
      obtain ⟨hF, rfl⟩ := hw
      exact hJ2 r52 H locs ls hF hP hD hS (lv_sub hl [0] rfl)
    · have hF := brF hF c51
      refine lv_iconst (v := (-1 : Int32)) hx hb dX12_mend_9 (by decide) ?_
      refine lv_goto (tgt := 18) hx hb dX12_mend_10 (by decide) ?_
      exact hJ2 (-1 : Int32) H locs ls hF hP hD hS (lv_sub hl [0] rfl)
def w_X12_count (σ : St) (a1 : Int32) (post : Int32 → St → Prop) : Prop := nm (upI σ 0 0 (0 : Int32)) (fun σ1 => br (a1 = (0 : Int32)) (post (σ1.1 0 1) σ1) (br (a1 = (1 : Int32)) (post (σ1.1 0 2) σ1) (br (a1 = (2 : Int32)) (post ((σ1.1 0 1) - (σ1.1 0 2)) σ1) (br (a1 = (3 : Int32)) (post (σ1.1 0 11) σ1) (br (a1 = (4 : Int32)) (post (σ1.1 0 15) σ1) (br (a1 = (5 : Int32)) (post (σ1.1 0 27) σ1) (br (a1 = (6 : Int32)) (post (σ1.1 0 28) σ1) (br (a1 = (7 : Int32)) (post (σ1.1 0 29) σ1) (post (-1 : Int32) σ1)))))))))
set_option maxHeartbeats 4000000 in
set_option maxRecDepth 100000 in
theorem c_X12_count (l : Launch) (D : va_G) (cy : Nat → ClassId) (ad : Nat → Nat) (tL : Nat) (σ : St) (a1 : Int32) (post : Int32 → St → Prop) (hF : w_X12_count σ a1 post) : Cti l yX12_count cX12_count 2 (some .int) 0 0 D cy ad tL dsM σ [.ref (ad 0), .int a1] post := by
  refine cti_of (by decide) (Nat.le_of_ble_eq_true rfl) ?_
  intro p e s m args below meth c A hx hb hml hr hlk hg hown hA hK H locs hP hD hS hLB ls hl
  have hown : s.vm.findClass RX12 = some m.cls := hown
  have hl : lv_has ls 2 [(0, .ref (ad 0)), (1, .int a1)] := hl
  refine lv_aload_n hx hb dX12_count_0 rfl (lv_at hl 0 rfl) ?_
  refine lv_iconst (v := (0 : Int32)) hx hb dX12_count_1 (by decide) ?_
  refine wi_puti hx hb hg hown hK hP hD hS 0 0 rfl rfl cb_12 (by decide) kw_615 rfl rfl rfl dX12_count_2 (fun σ1 eσ1 H locs hP hD hS => ?_)
  have hF := hF σ1 eσ1
  refine lv_iload_n hx hb dX12_count_5 rfl (lv_at hl 1 rfl) ?_
  by_cases c2 : a1 = (0 : Int32)
  · have hF := brT hF c2
    refine lv_tableIn (off := 46) (tgt := 52) hx hb dX12_count_6 (by rw [c2]; decide) (by rw [c2]; decide) (by rw [c2]; rfl) (by decide) ?_
    refine lv_aload_n hx hb dX12_count_52 rfl (lv_at hl 0 rfl) ?_
    refine wi_geti hx hb hg hown hK hP 0 1 rfl rfl cb_12 (by decide) kw_559 dX12_count_53 ?_
    exact wi_iret hx hb hr hlk hK hP hD hS dX12_count_56 hF
  · have hF := brF hF c2
    by_cases c3 : a1 = (1 : Int32)
    · have hF := brT hF c3
      refine lv_tableIn (off := 51) (tgt := 57) hx hb dX12_count_6 (by rw [c3]; decide) (by rw [c3]; decide) (by rw [c3]; rfl) (by decide) ?_
      refine lv_aload_n hx hb dX12_count_57 rfl (lv_at hl 0 rfl) ?_
      refine wi_geti hx hb hg hown hK hP 0 2 rfl rfl cb_12 (by decide) kw_634 dX12_count_58 ?_
      exact wi_iret hx hb hr hlk hK hP hD hS dX12_count_61 hF
    · have hF := brF hF c3
      by_cases c4 : a1 = (2 : Int32)
      · have hF := brT hF c4
        refine lv_tableIn (off := 56) (tgt := 62) hx hb dX12_count_6 (by rw [c4]; decide) (by rw [c4]; decide) (by rw [c4]; rfl) (by decide) ?_
        refine lv_aload_n hx hb dX12_count_62 rfl (lv_at hl 0 rfl) ?_
        refine wi_geti hx hb hg hown hK hP 0 1 rfl rfl cb_12 (by decide) kw_559 dX12_count_63 ?_
        refine lv_aload_n hx hb dX12_count_66 rfl (lv_at hl 0 rfl) ?_
        refine wi_geti hx hb hg hown hK hP 0 2 rfl rfl cb_12 (by decide) kw_634 dX12_count_67 ?_
        refine lv_isub hx hb dX12_count_70 ?_
        exact wi_iret hx hb hr hlk hK hP hD hS dX12_count_71 hF
      · have hF := brF hF c4
        by_cases c5 : a1 = (3 : Int32)
        · have hF := brT hF c5
          refine lv_tableIn (off := 66) (tgt := 72) hx hb dX12_count_6 (by rw [c5]; decide) (by rw [c5]; decide) (by rw [c5]; rfl) (by decide) ?_
          refine lv_aload_n hx hb dX12_count_72 rfl (lv_at hl 0 rfl) ?_
          refine wi_geti hx hb hg hown hK hP 0 11 rfl rfl cb_12 (by decide) kw_659 dX12_count_73 ?_
          exact wi_iret hx hb hr hlk hK hP hD hS dX12_count_76 hF
        · have hF := brF hF c5
          by_cases c6 : a1 = (4 : Int32)
          · have hF := brT hF c6
            refine lv_tableIn (off := 71) (tgt := 77) hx hb dX12_count_6 (by rw [c6]; decide) (by rw [c6]; decide) (by rw [c6]; rfl) (by decide) ?_
            refine lv_aload_n hx hb dX12_count_77 rfl (lv_at hl 0 rfl) ?_
            refine wi_geti hx hb hg hown hK hP 0 15 rfl rfl cb_12 (by decide) kw_573 dX12_count_78 ?_
            exact wi_iret hx hb hr hlk hK hP hD hS dX12_count_81 hF
          · have hF := brF hF c6
            by_cases c7 : a1 = (5 : Int32)
            · have hF := brT hF c7
              refine lv_tableIn (off := 76) (tgt := 82) hx hb dX12_count_6 (by rw [c7]; decide) (by rw [c7]; decide) (by rw [c7]; rfl) (by decide) ?_
              refine lv_aload_n hx hb dX12_count_82 rfl (lv_at hl 0 rfl) ?_
              refine wi_geti hx hb hg hown hK hP 0 27 rfl rfl cb_12 (by decide) kw_626 dX12_count_83 ?_
              exact wi_iret hx hb hr hlk hK hP hD hS dX12_count_86 hF
            · have hF := brF hF c7
              by_cases c8 : a1 = (6 : Int32)
              · have hF := brT hF c8
                refine lv_tableIn (off := 81) (tgt := 87) hx hb dX12_count_6 (by rw [c8]; decide) (by rw [c8]; decide) (by rw [c8]; rfl) (by decide) ?_
                refine lv_aload_n hx hb dX12_count_87 rfl (lv_at hl 0 rfl) ?_
                refine wi_geti hx hb hg hown hK hP 0 28 rfl rfl cb_12 (by decide) kw_627 dX12_count_88 ?_
                exact wi_iret hx hb hr hlk hK hP hD hS dX12_count_91 hF
              · have hF := brF hF c8
                by_cases c9 : a1 = (7 : Int32)
                · have hF := brT hF c9
                  refine lv_tableIn (off := 86) (tgt := 92) hx hb dX12_count_6 (by rw [c9]; decide) (by rw [c9]; decide) (by rw [c9]; rfl) (by decide) ?_
                  refine lv_aload_n hx hb dX12_count_92 rfl (lv_at hl 0 rfl) ?_
                  refine wi_geti hx hb hg hown hK hP 0 29 rfl rfl cb_12 (by decide) kw_628 dX12_count_93 ?_
                  exact wi_iret hx hb hr hlk hK hP hD hS dX12_count_96 hF
                · have hF := brF hF c9
                  have nc2 := lv_neT (a := 0) c2 (by decide)
                  have nc3 := lv_neT (a := 1) c3 (by decide)
                  have nc4 := lv_neT (a := 2) c4 (by decide)
                  have nc5 := lv_neT (a := 3) c5 (by decide)
                  have nc6 := lv_neT (a := 4) c6 (by decide)
                  have nc7 := lv_neT (a := 5) c7 (by decide)
                  have nc8 := lv_neT (a := 6) c8 (by decide)
                  have nc9 := lv_neT (a := 7) c9 (by decide)
                  refine lv_tableOut (tgt := 97) hx hb dX12_count_6 (by omega) (by decide) ?_
                  refine lv_iconst (v := (-1 : Int32)) hx hb dX12_count_97 (by decide) ?_
                  exact wi_iret hx hb hr hlk hK hP hD hS dX12_count_98 hF
def w_X12_look_ (σ : St) (a1 : Int32) (a2 : Int32) (post : Int32 → St → Prop) : Prop := nm (upI σ 0 0 (0 : Int32)) (fun σ1 => w_X12_isCell σ1 a1 (fun r2 => br (r2 = (0 : Int32)) (post (-1 : Int32) σ1) (w_X12_isIn ((a2 : Int32).toInt64) (0 : Int64) (4 : Int64) (fun r5 => br (r5 = (0 : Int32)) (post (-1 : Int32) σ1) (br (a2 = (0 : Int32)) (rd (σ1.1 1) 24 a1 (fun v9 => post v9 σ1)) (br (a2 = (1 : Int32)) (rd (σ1.1 1) 24 a1 (fun v11 => br (v11 ≤ (4 : Int32)) (post (-2 : Int32) σ1) (rd (σ1.1 2) 24 a1 (fun v13 => post v13 σ1)))) (br (a2 = (2 : Int32)) (rd (σ1.1 1) 24 a1 (fun v15 => br (v15 = (5 : Int32)) (post (-2 : Int32) σ1) (rd (σ1.1 4) 24 a1 (fun v17 => post v17 σ1)))) (br (a2 = (3 : Int32)) (rd (σ1.1 5) 24 a1 (fun v19 => post v19 σ1)) (rd (σ1.1 6) 24 a1 (fun v20 => post v20 σ1))))))))))
set_option maxHeartbeats 4000000 in
set_option maxRecDepth 100000 in
theorem c_X12_look_ (l : Launch) (D : va_G) (cy : Nat → ClassId) (ad : Nat → Nat) (tL : Nat) (σ : St) (a1 : Int32) (a2 : Int32) (post : Int32 → St → Prop) (hF : w_X12_look_ σ a1 a2 post) : Cti l yX12_look_ cX12_look_ 3 (some .int) 1 25 D cy ad tL dsM σ [.ref (ad 0), .int a1, .int a2] post := by
  refine cti_of (by decide) (Nat.le_of_ble_eq_true rfl) ?_
  intro p e s m args below meth c A hx hb hml hr hlk hg hown hA hK H locs hP hD hS hLB ls hl
  have hown : s.vm.findClass RX12 = some m.cls := hown
  have hl : lv_has ls 3 [(0, .ref (ad 0)), (1, .int a1), (2, .int a2)] := hl
  refine lv_aload_n hx hb dX12_look__0 rfl (lv_at hl 0 rfl) ?_
  refine lv_iconst (v := (0 : Int32)) hx hb dX12_look__1 (by decide) ?_
  refine wi_puti hx hb hg hown hK hP hD hS 0 0 rfl rfl cb_12 (by decide) kw_615 rfl rfl rfl dX12_look__2 (fun σ1 eσ1 H locs hP hD hS => ?_)
  have hF := hF σ1 eσ1
  refine lv_aload_n hx hb dX12_look__5 rfl (lv_at hl 0 rfl) ?_
  refine lv_iload_n hx hb dX12_look__6 rfl (lv_at hl 1 rfl) ?_
  refine wi_callVi (k := 0) (As := [.int a1]) (c_X12_isCell l D cy ad tL σ1 a1 _ hF) vw_RX12_129 rfl cb_12 hx hb hml hown hg hK hP hD hS hA hLB rfl ⟨Nat.le_of_ble_eq_true rfl, Nat.le_of_ble_eq_true rfl⟩ hl.1 rfl (Nat.le_of_ble_eq_true rfl) dX12_look__7 (fun r2 σ3 hw H locs hP hD hS => ?_)
  obtain ⟨hF, rfl⟩ := hw
  refine lv_if_eq (tgt := 25) hx hb dX12_look__10 (by decide) (fun c4 => ?_) (fun c4 => ?_)
  · have hF := brT hF c4
    refine lv_iconst (v := (-1 : Int32)) hx hb dX12_look__25 (by decide) ?_
    exact wi_iret hx hb hr hlk hK hP hD hS dX12_look__26 hF
  · have hF := brF hF c4
    refine lv_iload_n hx hb dX12_look__13 rfl (lv_at hl 2 rfl) ?_
    refine lv_i2l hx hb dX12_look__14 rfl ?_
    refine lv_lconst (v := (0 : Int64)) hx hb dX12_look__15 (by decide) ?_
    refine lv_ldc2 (v := (4 : Int64)) hx hb hown (hg _ kw_647) dX12_look__16 ?_
    refine wi_callSi (As := [.long ((a2 : Int32).toInt64), .long (0 : Int64), .long (4 : Int64)]) (c_X12_isIn l D cy ad tL σ1 ((a2 : Int32).toInt64) (0 : Int64) (4 : Int64) _ hF) sw_RX12_156 hx hb hml hown hg hK hP hD hS hA hLB rfl ⟨Nat.le_of_ble_eq_true rfl, Nat.le_of_ble_eq_true rfl⟩ hl.1 rfl (Nat.le_of_ble_eq_true rfl) dX12_look__19 (fun r5 σ6 hw H locs hP hD hS => ?_)
    obtain ⟨hF, rfl⟩ := hw
    refine lv_if_ne (tgt := 27) hx hb dX12_look__22 (by decide) (fun c7 => ?_) (fun c7 => ?_)
    · have hF := brF hF c7
      refine lv_iload_n hx hb dX12_look__27 rfl (lv_at hl 2 rfl) ?_
      by_cases c8 : a2 = (0 : Int32)
      · have hF := brT hF c8
        refine lv_tableIn (off := 32) (tgt := 60) hx hb dX12_look__28 (by rw [c8]; decide) (by rw [c8]; decide) (by rw [c8]; rfl) (by decide) ?_
        refine lv_aload_n hx hb dX12_look__60 rfl (lv_at hl 0 rfl) ?_
        refine wi_getr hx hb hg hown hK hP 0 3 1 rfl rfl cb_12 (by decide) kw_560 dX12_look__61 ?_
        refine lv_iload_n hx hb dX12_look__64 rfl (lv_at hl 1 rfl) ?_
        obtain ⟨hin, hF⟩ := hF
        refine wi_iald hx hb hK hP 1 rfl hin dX12_look__65 (fun v9 ev9 => ?_)
        have hF := hF v9 ev9
        exact wi_iret hx hb hr hlk hK hP hD hS dX12_look__66 hF
      · have hF := brF hF c8
        by_cases c10 : a2 = (1 : Int32)
        · have hF := brT hF c10
          refine lv_tableIn (off := 39) (tgt := 67) hx hb dX12_look__28 (by rw [c10]; decide) (by rw [c10]; decide) (by rw [c10]; rfl) (by decide) ?_
          refine lv_aload_n hx hb dX12_look__67 rfl (lv_at hl 0 rfl) ?_
          refine wi_getr hx hb hg hown hK hP 0 3 1 rfl rfl cb_12 (by decide) kw_560 dX12_look__68 ?_
          refine lv_iload_n hx hb dX12_look__71 rfl (lv_at hl 1 rfl) ?_
          obtain ⟨hin, hF⟩ := hF
          refine wi_iald hx hb hK hP 1 rfl hin dX12_look__72 (fun v11 ev11 => ?_)
          have hF := hF v11 ev11
          refine lv_iconst (v := (4 : Int32)) hx hb dX12_look__73 (by decide) ?_
          refine lv_icmp_le (tgt := 86) hx hb dX12_look__74 (by decide) (fun c12 => ?_) (fun c12 => ?_)
          · have hF := brT hF c12
            refine lv_bipush (v := (-2 : Int32)) hx hb dX12_look__86 (by decide) ?_
            exact wi_iret hx hb hr hlk hK hP hD hS dX12_look__88 hF
          · have hF := brF hF c12
            refine lv_aload_n hx hb dX12_look__77 rfl (lv_at hl 0 rfl) ?_
            refine wi_getr hx hb hg hown hK hP 0 4 2 rfl rfl cb_12 (by decide) kw_581 dX12_look__78 ?_
            refine lv_iload_n hx hb dX12_look__81 rfl (lv_at hl 1 rfl) ?_
            obtain ⟨hin, hF⟩ := hF
            refine wi_iald hx hb hK hP 2 rfl hin dX12_look__82 (fun v13 ev13 => ?_)
            have hF := hF v13 ev13
            refine lv_goto (tgt := 88) hx hb dX12_look__83 (by decide) ?_
            exact wi_iret hx hb hr hlk hK hP hD hS dX12_look__88 hF
        · have hF := brF hF c10
          by_cases c14 : a2 = (2 : Int32)
          · have hF := brT hF c14
            refine lv_tableIn (off := 61) (tgt := 89) hx hb dX12_look__28 (by rw [c14]; decide) (by rw [c14]; decide) (by rw [c14]; rfl) (by decide) ?_
            refine lv_aload_n hx hb dX12_look__89 rfl (lv_at hl 0 rfl) ?_
            refine wi_getr hx hb hg hown hK hP 0 3 1 rfl rfl cb_12 (by decide) kw_560 dX12_look__90 ?_
            refine lv_iload_n hx hb dX12_look__93 rfl (lv_at hl 1 rfl) ?_
            obtain ⟨hin, hF⟩ := hF
            refine wi_iald hx hb hK hP 1 rfl hin dX12_look__94 (fun v15 ev15 => ?_)
            have hF := hF v15 ev15
            refine lv_iconst (v := (5 : Int32)) hx hb dX12_look__95 (by decide) ?_
            refine lv_icmp_ne (tgt := 104) hx hb dX12_look__96 (by decide) (fun c16 => ?_) (fun c16 => ?_)
            · have hF := brF hF c16
              refine lv_aload_n hx hb dX12_look__104 rfl (lv_at hl 0 rfl) ?_
              refine wi_getr hx hb hg hown hK hP 0 6 4 rfl rfl cb_12 (by decide) kw_561 dX12_look__105 ?_
              refine lv_iload_n hx hb dX12_look__108 rfl (lv_at hl 1 rfl) ?_
              obtain ⟨hin, hF⟩ := hF
              refine wi_iald hx hb hK hP 4 rfl hin dX12_look__109 (fun v17 ev17 => ?_)
              have hF := hF v17 ev17
              exact wi_iret hx hb hr hlk hK hP hD hS dX12_look__110 hF
            · have hF := brT hF c16
              refine lv_bipush (v := (-2 : Int32)) hx hb dX12_look__99 (by decide) ?_
              refine lv_goto (tgt := 110) hx hb dX12_look__101 (by decide) ?_
              exact wi_iret hx hb hr hlk hK hP hD hS dX12_look__110 hF
          · have hF := brF hF c14
            by_cases c18 : a2 = (3 : Int32)
            · have hF := brT hF c18
              refine lv_tableIn (off := 83) (tgt := 111) hx hb dX12_look__28 (by rw [c18]; decide) (by rw [c18]; decide) (by rw [c18]; rfl) (by decide) ?_
              refine lv_aload_n hx hb dX12_look__111 rfl (lv_at hl 0 rfl) ?_
              refine wi_getr hx hb hg hown hK hP 0 7 5 rfl rfl cb_12 (by decide) kw_562 dX12_look__112 ?_
              refine lv_iload_n hx hb dX12_look__115 rfl (lv_at hl 1 rfl) ?_
              obtain ⟨hin, hF⟩ := hF
              refine wi_iald hx hb hK hP 5 rfl hin dX12_look__116 (fun v19 ev19 => ?_)
              have hF := hF v19 ev19
              exact wi_iret hx hb hr hlk hK hP hD hS dX12_look__117 hF
            · have hF := brF hF c18
              have nc8 := lv_neT (a := 0) c8 (by decide)
              have nc10 := lv_neT (a := 1) c10 (by decide)
              have nc14 := lv_neT (a := 2) c14 (by decide)
              have nc18 := lv_neT (a := 3) c18 (by decide)
              refine lv_tableOut (tgt := 118) hx hb dX12_look__28 (by omega) (by decide) ?_
              refine lv_aload_n hx hb dX12_look__118 rfl (lv_at hl 0 rfl) ?_
              refine wi_getr hx hb hg hown hK hP 0 8 6 rfl rfl cb_12 (by decide) kw_563 dX12_look__119 ?_
              refine lv_iload_n hx hb dX12_look__122 rfl (lv_at hl 1 rfl) ?_
              obtain ⟨hin, hF⟩ := hF
              refine wi_iald hx hb hK hP 6 rfl hin dX12_look__123 (fun v20 ev20 => ?_)
              have hF := hF v20 ev20
              exact wi_iret hx hb hr hlk hK hP hD hS dX12_look__124 hF
    · have hF := brT hF c7
      refine lv_iconst (v := (-1 : Int32)) hx hb dX12_look__25 (by decide) ?_
      exact wi_iret hx hb hr hlk hK hP hD hS dX12_look__26 hF
def w_X12_isShelf (a1 : Int32) (post : Int32 → Prop) : Prop := br (a1 < (0 : Int32)) (post (0 : Int32)) (br ((8 : Int32) ≤ a1) (post (0 : Int32)) (post (1 : Int32)))
set_option maxHeartbeats 4000000 in
set_option maxRecDepth 100000 in
theorem c_X12_isShelf (l : Launch) (D : va_G) (cy : Nat → ClassId) (ad : Nat → Nat) (tL : Nat) (σ : St) (a1 : Int32) (post : Int32 → Prop) (hF : w_X12_isShelf a1 post) : Cti l yX12_isShelf cX12_isShelf 1 (some .boolean) 0 0 D cy ad tL dsM σ [.int a1] (fun r u => post r ∧ σ = u) := by
  refine cti_of (by decide) (Nat.le_of_ble_eq_true rfl) ?_
  intro p e s m args below meth c A hx hb hml hr hlk hg hown hA hK H locs hP hD hS hLB ls hl
  have hown : s.vm.findClass RX12 = some m.cls := hown
  have hl : lv_has ls 1 [(0, .int a1)] := hl
  refine lv_iload_n hx hb dX12_isShelf_0 rfl (lv_at hl 0 rfl) ?_
  refine lv_if_lt (tgt := 14) hx hb dX12_isShelf_1 (by decide) (fun c1 => ?_) (fun c1 => ?_)
  · have hF := brT hF c1
    refine lv_iconst (v := (0 : Int32)) hx hb dX12_isShelf_14 (by decide) ?_
    exact wi_zret hx hb hr hlk hK hP hD hS dX12_isShelf_15 (by decide) ⟨hF, rfl⟩
  · have hF := brF hF c1
    refine lv_iload_n hx hb dX12_isShelf_4 rfl (lv_at hl 0 rfl) ?_
    refine lv_bipush (v := (8 : Int32)) hx hb dX12_isShelf_5 (by decide) ?_
    refine lv_icmp_ge (tgt := 14) hx hb dX12_isShelf_7 (by decide) (fun c2 => ?_) (fun c2 => ?_)
    · have hF := brT hF c2
      refine lv_iconst (v := (0 : Int32)) hx hb dX12_isShelf_14 (by decide) ?_
      exact wi_zret hx hb hr hlk hK hP hD hS dX12_isShelf_15 (by decide) ⟨hF, rfl⟩
    · have hF := brF hF c2
      refine lv_iconst (v := (1 : Int32)) hx hb dX12_isShelf_10 (by decide) ?_
      refine lv_goto (tgt := 15) hx hb dX12_isShelf_11 (by decide) ?_
      exact wi_zret hx hb hr hlk hK hP hD hS dX12_isShelf_15 (by decide) ⟨hF, rfl⟩
def w_X12_keep_L205 (a1 : Int32) (a2 : Int32) (J13 : St → Prop) (rec17 : Int32 → St → Prop) (y15 : Int32) (σ16 : St) : Prop := rd (σ16.1 32) 8 a1 (fun v18 => br (v18 ≤ y15) (J13 σ16) (jn (α := Int32 → Prop) (fun (y21 : Int32) => ck (((60 : Int32) * a1) + y15) 480 (nm (upI σ16 35 ((((60 : Int32) * a1) + y15)).toNatClampNeg y21) (fun σ22 => nm (y15 + (1 : Int32)) (fun x23 => rec17 x23 σ22)))) (fun J20 => br (a2 = (3 : Int32)) (rd (σ16.1 12) 61 (σ16.1 0 15) (fun v26 => w_X12_bitOf v26 y15 (fun r27 => J20 r27))) (rd (σ16.1 13) 60 y15 (fun v25 => J20 v25)))))
def w_X12_keep (σ : St) (a1 : Int32) (a2 : Int32) (a3 : Int32) (post : Int32 → St → Prop) : Prop := nm (upI σ 0 0 (0 : Int32)) (fun σ1 => w_X12_isShelf a1 (fun r2 => jn (α := Int32 → Prop) (fun (y5 : Int32) => br (y5 = (0 : Int32)) (post (-1 : Int32) σ1) (ck a1 8 (nm (upI σ1 31 (a1).toNatClampNeg a2) (fun σ7 => jn (α := Int32 → Prop) (fun (y9 : Int32) => ck a1 8 (nm (upI σ7 32 (a1).toNatClampNeg y9) (fun σ10 => jn (α := St → Prop) (fun (σ12 : St) => jn (α := St → Prop) (fun (σ14 : St) => post (0 : Int32) σ14) (fun J13 => lpE2 (w_X12_keep_L205 a1 a2 J13) (0 : Int32) σ12)) (fun J11 => br (a2 = (1 : Int32)) (nm (a3 + (1 : Int32)) (fun x30 => rd (σ10.1 1) 24 a3 (fun v31 => jn (α := Int32 → Prop) (fun (y33 : Int32) => ck a1 8 (nm (upI σ10 33 (a1).toNatClampNeg y33) (fun σ34 => rd (σ34.1 1) 24 a3 (fun v35 => jn (α := Int32 → Prop) (fun (y37 : Int32) => ck a1 8 (nm (upI σ34 34 (a1).toNatClampNeg y37) (fun σ38 => J11 σ38))) (fun J36 => br (v35 ≤ (4 : Int32)) (J36 (-15 : Int32)) (rd (σ34.1 2) 24 a3 (fun v40 => J36 v40))))))) (fun J32 => br (v31 = (4 : Int32)) (J32 ((3 : Int32) * (x30 + (10 : Int32)))) (rd (σ10.1 1) 24 a3 (fun v42 => br ((4 : Int32) ≤ v42) (rd (σ10.1 1) 24 a3 (fun v44 => br (v44 = (5 : Int32)) (J32 (x30 + (100 : Int32))) (rd (σ10.1 4) 24 a3 (fun v46 => J32 ((x30 + (105 : Int32)) + v46))))) (J32 (x30 + (10 : Int32))))))))) (J11 σ10))))) (fun J8 => br (a2 = (3 : Int32)) (J8 (σ7.1 0 1)) (br (a2 = (4 : Int32)) (J8 (σ7.1 0 15)) (J8 (0 : Int32)))))))) (fun J4 => jn (α := Prop) (J4 (0 : Int32)) (fun J49 => br (r2 = (0 : Int32)) (J49) (jn (α := Prop) (J4 (1 : Int32)) (fun J51 => br (a2 = (0 : Int32)) (J51) (jn (α := Prop) (br (a2 = (3 : Int32)) (J51) (br (a2 = (4 : Int32)) (J51) (J49))) (fun J53 => br (a2 = (1 : Int32)) (w_X12_isCell σ1 a3 (fun r57 => br (r57 = (0 : Int32)) (J53) (J51))) (J53)))))))))
set_option maxHeartbeats 4000000 in
set_option maxRecDepth 100000 in
theorem c_X12_keep (l : Launch) (D : va_G) (cy : Nat → ClassId) (ad : Nat → Nat) (tL : Nat) (σ : St) (a1 : Int32) (a2 : Int32) (a3 : Int32) (post : Int32 → St → Prop) (hF : w_X12_keep σ a1 a2 a3 post) : Cti l yX12_keep cX12_keep 6 (some .int) 1 21 D cy ad tL dsM σ [.ref (ad 0), .int a1, .int a2, .int a3] post := by
  refine cti_of (by decide) (Nat.le_of_ble_eq_true rfl) ?_
  intro p e s m args below meth c A hx hb hml hr hlk hg hown hA hK H locs hP hD hS hLB ls hl
  have hown : s.vm.findClass RX12 = some m.cls := hown
  have hl : lv_has ls 6 [(0, .ref (ad 0)), (1, .int a1), (2, .int a2), (3, .int a3)] := hl
  refine lv_aload_n hx hb dX12_keep_0 rfl (lv_at hl 0 rfl) ?_
  refine lv_iconst (v := (0 : Int32)) hx hb dX12_keep_1 (by decide) ?_
  refine wi_puti hx hb hg hown hK hP hD hS 0 0 rfl rfl cb_12 (by decide) kw_615 rfl rfl rfl dX12_keep_2 (fun σ1 eσ1 H locs hP hD hS => ?_)
  have hF := hF σ1 eσ1
  refine lv_iload_n hx hb dX12_keep_5 rfl (lv_at hl 1 rfl) ?_
  refine wi_callSi (As := [.int a1]) (c_X12_isShelf l D cy ad tL σ1 a1 _ hF) sw_RX12_322 hx hb hml hown hg hK hP hD hS hA hLB rfl ⟨Nat.le_of_ble_eq_true rfl, Nat.le_of_ble_eq_true rfl⟩ hl.1 rfl (Nat.le_of_ble_eq_true rfl) dX12_keep_6 (fun r2 σ3 hw H locs hP hD hS => ?_)
  obtain ⟨hF, rfl⟩ := hw
  refine jn_use hF (fun K => ∀ (y5 : Int32) (H : Heap) (locs : List Loc) (ls : Array Slot), K y5 → va_P D vwCl (wld cy ad dsM σ1) H → va_D A (wld cy ad dsM σ1) → va_S A s.heap H locs → lv_has ls 6 [(0, .ref (ad 0)), (1, .int a1), (2, .int a2), (3, .int a3)] → W p l e (rmO 1 21) s m args below meth c H locs 0 0 (MQ below (va_Qi post (cBk D cy ad dsM A) A) args s 0 0 A) (F0 m 44 ls [.int y5])) (fun y5 H locs ls hF hP hD hS hl => ?_) (fun J4 hJ4 hF => ?_)
  · refine lv_istore (lv' := [(4, .int y5), (0, .ref (ad 0)), (1, .int a1), (2, .int a2), (3, .int a3)]) hx hb dX12_keep_44 hl (by decide) rfl (fun ls hl => ?_)
    refine lv_iload hx hb dX12_keep_46 (lv_at hl 0 rfl) ?_
    refine lv_if_ne (tgt := 53) hx hb dX12_keep_48 (by decide) (fun c6 => ?_) (fun c6 => ?_)
    · have hF := brF hF c6
      refine lv_aload_n hx hb dX12_keep_53 rfl (lv_at hl 1 rfl) ?_
      refine wi_getr hx hb hg hown hK hP 0 46 31 rfl rfl cb_12 (by decide) kw_604 dX12_keep_54 ?_
      refine lv_iload_n hx hb dX12_keep_57 rfl (lv_at hl 2 rfl) ?_
      refine lv_iload_n hx hb dX12_keep_58 rfl (lv_at hl 3 rfl) ?_
      obtain ⟨hin, hF⟩ := hF
      refine wi_iast hx hb hK hP hD hS 31 rfl hin dX12_keep_59 (fun σ7 eσ7 H locs hP hD hS => ?_)
      have hF := hF σ7 eσ7
      refine lv_aload_n hx hb dX12_keep_60 rfl (lv_at hl 1 rfl) ?_
      refine wi_getr hx hb hg hown hK hP 0 47 32 rfl rfl cb_12 (by decide) kw_605 dX12_keep_61 ?_
      refine lv_iload_n hx hb dX12_keep_64 rfl (lv_at hl 2 rfl) ?_
      refine lv_iload_n hx hb dX12_keep_65 rfl (lv_at hl 3 rfl) ?_
      refine lv_iconst (v := (3 : Int32)) hx hb dX12_keep_66 (by decide) ?_
      refine jn_use hF (fun K => ∀ (y9 : Int32) (H : Heap) (locs : List Loc) (ls : Array Slot), K y9 → va_P D vwCl (wld cy ad dsM σ7) H → va_D A (wld cy ad dsM σ7) → va_S A s.heap H locs → lv_has ls 6 [(0, .ref (ad 0)), (1, .int a1), (2, .int a2), (3, .int a3)] → W p l e (rmO 1 21) s m args below meth c H locs 0 0 (MQ below (va_Qi post (cBk D cy ad dsM A) A) args s 0 0 A) (F0 m 90 ls [.int y9, .int a1, .ref (ad 32)])) (fun y9 H locs ls hF hP hD hS hl => ?_) (fun J8 hJ8 hF => ?_)
      · obtain ⟨hin, hF⟩ := hF
        refine wi_iast hx hb hK hP hD hS 32 rfl hin dX12_keep_90 (fun σ10 eσ10 H locs hP hD hS => ?_)
        have hF := hF σ10 eσ10
        refine lv_iload_n hx hb dX12_keep_91 rfl (lv_at hl 2 rfl) ?_
        refine lv_iconst (v := (1 : Int32)) hx hb dX12_keep_92 (by decide) ?_
        refine jn_use hF (fun K => ∀ (σ12 : St) (H : Heap) (locs : List Loc) (ls : Array Slot), K σ12 → va_P D vwCl (wld cy ad dsM σ12) H → va_D A (wld cy ad dsM σ12) → va_S A s.heap H locs → lv_has ls 6 [(0, .ref (ad 0)), (1, .int a1), (2, .int a2)] → W p l e (rmO 1 21) s m args below meth c H locs 0 0 (MQ below (va_Qi post (cBk D cy ad dsM A) A) args s 0 0 A) (F0 m 202 ls [])) (fun σ12 H locs ls hF hP hD hS hl => ?_) (fun J11 hJ11 hF => ?_)
        · refine lv_iconst (v := (0 : Int32)) hx hb dX12_keep_202 (by decide) ?_
          refine lv_istore (lv' := [(5, .int (0 : Int32)), (0, .ref (ad 0)), (1, .int a1), (2, .int a2)]) hx hb dX12_keep_203 hl (by decide) rfl (fun ls hl => ?_)
          refine jn_use hF (fun K => ∀ (σ14 : St) (H : Heap) (locs : List Loc) (ls : Array Slot), K σ14 → va_P D vwCl (wld cy ad dsM σ14) H → va_D A (wld cy ad dsM σ14) → va_S A s.heap H locs → lv_has ls 6 [] → W p l e (rmO 1 21) s m args below meth c H locs 0 0 (MQ below (va_Qi post (cBk D cy ad dsM A) A) args s 0 0 A) (F0 m 263 ls [])) (fun σ14 H locs ls hF hP hD hS hl => ?_) (fun J13 hJ13 hF => ?_)
          · refine lv_iconst (v := (0 : Int32)) hx hb dX12_keep_263 (by decide) ?_
            exact wi_iret hx hb hr hlk hK hP hD hS dX12_keep_264 hF
          · refine lpE2_use hF (fun (y15 : Int32) (σ16 : St) => ∀ (H : Heap) (locs : List Loc) (ls : Array Slot), va_P D vwCl (wld cy ad dsM σ16) H → va_D A (wld cy ad dsM σ16) → va_S A s.heap H locs → lv_has ls 6 [(0, .ref (ad 0)), (1, .int a1), (2, .int a2), (5, .int y15)] → W p l e (rmO 1 21) s m args below meth c H locs 0 0 (MQ below (va_Qi post (cBk D cy ad dsM A) A) args s 0 0 A) (F0 m 205 ls [])) (fun rec17 hrec17 y15 σ16 hF H locs ls hP hD hS hl => ?_) H locs ls hP hD hS (lv_sub hl [1, 2, 3, 0] rfl)
            refine lv_iload hx hb dX12_keep_205 (lv_at hl 3 rfl) ?_
            refine lv_aload_n hx hb dX12_keep_207 rfl (lv_at hl 0 rfl) ?_
            refine wi_getr hx hb hg hown hK hP 0 47 32 rfl rfl cb_12 (by decide) kw_605 dX12_keep_208 ?_
            refine lv_iload_n hx hb dX12_keep_211 rfl (lv_at hl 1 rfl) ?_
            obtain ⟨hin, hF⟩ := hF
            refine wi_iald hx hb hK hP 32 rfl hin dX12_keep_212 (fun v18 ev18 => ?_)
            have hF := hF v18 ev18
            refine lv_icmp_ge (tgt := 263) hx hb dX12_keep_213 (by decide) (fun c19 => ?_) (fun c19 => ?_)
            · have hF := brT hF c19
              exact hJ13 σ16 H locs ls hF hP hD hS (lv_sub hl [] rfl)
            · have hF := brF hF c19
              refine lv_aload_n hx hb dX12_keep_216 rfl (lv_at hl 0 rfl) ?_
              refine wi_getr hx hb hg hown hK hP 0 50 35 rfl rfl cb_12 (by decide) kw_608 dX12_keep_217 ?_
              refine lv_bipush (v := (60 : Int32)) hx hb dX12_keep_220 (by decide) ?_
              refine lv_iload_n hx hb dX12_keep_222 rfl (lv_at hl 1 rfl) ?_
              refine lv_imul hx hb dX12_keep_223 ?_
              refine lv_iload hx hb dX12_keep_224 (lv_at hl 3 rfl) ?_
              refine lv_iadd hx hb dX12_keep_226 ?_
              refine lv_iload_n hx hb dX12_keep_227 rfl (lv_at hl 2 rfl) ?_
              refine lv_iconst (v := (3 : Int32)) hx hb dX12_keep_228 (by decide) ?_
              refine jn_use hF (fun K => ∀ (y21 : Int32) (H : Heap) (locs : List Loc) (ls : Array Slot), K y21 → va_P D vwCl (wld cy ad dsM σ16) H → va_D A (wld cy ad dsM σ16) → va_S A s.heap H locs → lv_has ls 6 [(0, .ref (ad 0)), (1, .int a1), (2, .int a2), (5, .int y15)] → W p l e (rmO 1 21) s m args below meth c H locs 0 0 (MQ below (va_Qi post (cBk D cy ad dsM A) A) args s 0 0 A) (F0 m 256 ls [.int y21, .int (((60 : Int32) * a1) + y15), .ref (ad 35)])) (fun y21 H locs ls hF hP hD hS hl => ?_) (fun J20 hJ20 hF => ?_)
              · obtain ⟨hin, hF⟩ := hF
                refine wi_iast hx hb hK hP hD hS 35 rfl hin dX12_keep_256 (fun σ22 eσ22 H locs hP hD hS => ?_)
                have hF := hF σ22 eσ22
                obtain ⟨x23, ex23⟩ : ∃ z : Int32, z = (y15 + (1 : Int32)) := ⟨_, rfl⟩
                have hF := hF x23 ex23
                refine lv_iinc (v := x23) (lv' := [(5, .int x23), (0, .ref (ad 0)), (1, .int a1), (2, .int a2)]) hx hb dX12_keep_257 hl (k := 3) rfl (by rw [ex23]; rfl) (by decide) rfl (fun ls hl => ?_)
                refine lv_goto (tgt := 205) hx hb dX12_keep_260 (by decide) ?_
                exact hrec17 x23 σ22 hF H locs ls hP hD hS (lv_sub hl [1, 2, 3, 0] rfl)
              · refine lv_icmp_ne (tgt := 249) hx hb dX12_keep_229 (by decide) (fun c24 => ?_) (fun c24 => ?_)
                · have hF := brF hF c24
                  refine lv_aload_n hx hb dX12_keep_249 rfl (lv_at hl 0 rfl) ?_
                  refine wi_getr hx hb hg hown hK hP 0 17 13 rfl rfl cb_12 (by decide) kw_587 dX12_keep_250 ?_
                  refine lv_iload hx hb dX12_keep_253 (lv_at hl 3 rfl) ?_
                  obtain ⟨hin, hF⟩ := hF
                  refine wi_iald hx hb hK hP 13 rfl hin dX12_keep_255 (fun v25 ev25 => ?_)
                  have hF := hF v25 ev25
                  exact hJ20 v25 H locs ls hF hP hD hS (lv_sub hl [0, 1, 2, 3] rfl)
                · have hF := brT hF c24
                  refine lv_aload_n hx hb dX12_keep_232 rfl (lv_at hl 0 rfl) ?_
                  refine wi_getr hx hb hg hown hK hP 0 16 12 rfl rfl cb_12 (by decide) kw_575 dX12_keep_233 ?_
                  refine lv_aload_n hx hb dX12_keep_236 rfl (lv_at hl 0 rfl) ?_
                  refine wi_geti hx hb hg hown hK hP 0 15 rfl rfl cb_12 (by decide) kw_573 dX12_keep_237 ?_
                  obtain ⟨hin, hF⟩ := hF
                  refine wi_iald hx hb hK hP 12 rfl hin dX12_keep_240 (fun v26 ev26 => ?_)
                  have hF := hF v26 ev26
                  refine lv_iload hx hb dX12_keep_241 (lv_at hl 3 rfl) ?_
                  refine wi_callSi (As := [.int v26, .int y15]) (c_X12_bitOf l D cy ad tL σ16 v26 y15 _ hF) sw_RX12_133 hx hb hml hown hg hK hP hD hS hA hLB rfl ⟨Nat.le_of_ble_eq_true rfl, Nat.le_of_ble_eq_true rfl⟩ hl.1 rfl (Nat.le_of_ble_eq_true rfl) dX12_keep_243 (fun r27 σ28 hw H locs hP hD hS => ?_)
                  obtain ⟨hF, rfl⟩ := hw
                  refine lv_goto (tgt := 256) hx hb dX12_keep_246 (by decide) ?_
                  exact hJ20 r27 H locs ls hF hP hD hS (lv_sub hl [0, 1, 2, 3] rfl)
        · refine lv_icmp_ne (tgt := 202) hx hb dX12_keep_93 (by decide) (fun c29 => ?_) (fun c29 => ?_)
          · have hF := brF hF c29
            exact hJ11 σ10 H locs ls hF hP hD hS (lv_sub hl [0, 1, 2] rfl)
          · have hF := brT hF c29
            refine lv_iload_n hx hb dX12_keep_96 rfl (lv_at hl 3 rfl) ?_
            refine lv_iconst (v := (1 : Int32)) hx hb dX12_keep_97 (by decide) ?_
            refine lv_iadd hx hb dX12_keep_98 ?_
            refine lv_topi (fun x30 ex30 => ?_)
            have hF := hF x30 ex30
            refine lv_istore (lv' := [(5, .int x30), (0, .ref (ad 0)), (1, .int a1), (2, .int a2), (3, .int a3)]) hx hb dX12_keep_99 hl (by decide) rfl (fun ls hl => ?_)
            refine lv_aload_n hx hb dX12_keep_101 rfl (lv_at hl 1 rfl) ?_
            refine wi_getr hx hb hg hown hK hP 0 48 33 rfl rfl cb_12 (by decide) kw_606 dX12_keep_102 ?_
            refine lv_iload_n hx hb dX12_keep_105 rfl (lv_at hl 2 rfl) ?_
            refine lv_aload_n hx hb dX12_keep_106 rfl (lv_at hl 1 rfl) ?_
            refine wi_getr hx hb hg hown hK hP 0 3 1 rfl rfl cb_12 (by decide) kw_560 dX12_keep_107 ?_
            refine lv_iload_n hx hb dX12_keep_110 rfl (lv_at hl 4 rfl) ?_
            obtain ⟨hin, hF⟩ := hF
            refine wi_iald hx hb hK hP 1 rfl hin dX12_keep_111 (fun v31 ev31 => ?_)
            have hF := hF v31 ev31
            refine lv_iconst (v := (4 : Int32)) hx hb dX12_keep_112 (by decide) ?_
            refine jn_use hF (fun K => ∀ (y33 : Int32) (H : Heap) (locs : List Loc) (ls : Array Slot), K y33 → va_P D vwCl (wld cy ad dsM σ10) H → va_D A (wld cy ad dsM σ10) → va_S A s.heap H locs → lv_has ls 6 [(0, .ref (ad 0)), (1, .int a1), (2, .int a2), (3, .int a3)] → W p l e (rmO 1 21) s m args below meth c H locs 0 0 (MQ below (va_Qi post (cBk D cy ad dsM A) A) args s 0 0 A) (F0 m 174 ls [.int y33, .int a1, .ref (ad 33)])) (fun y33 H locs ls hF hP hD hS hl => ?_) (fun J32 hJ32 hF => ?_)
            · obtain ⟨hin, hF⟩ := hF
              refine wi_iast hx hb hK hP hD hS 33 rfl hin dX12_keep_174 (fun σ34 eσ34 H locs hP hD hS => ?_)
              have hF := hF σ34 eσ34
              refine lv_aload_n hx hb dX12_keep_175 rfl (lv_at hl 0 rfl) ?_
              refine wi_getr hx hb hg hown hK hP 0 49 34 rfl rfl cb_12 (by decide) kw_607 dX12_keep_176 ?_
              refine lv_iload_n hx hb dX12_keep_179 rfl (lv_at hl 1 rfl) ?_
              refine lv_aload_n hx hb dX12_keep_180 rfl (lv_at hl 0 rfl) ?_
              refine wi_getr hx hb hg hown hK hP 0 3 1 rfl rfl cb_12 (by decide) kw_560 dX12_keep_181 ?_
              refine lv_iload_n hx hb dX12_keep_184 rfl (lv_at hl 3 rfl) ?_
              obtain ⟨hin, hF⟩ := hF
              refine wi_iald hx hb hK hP 1 rfl hin dX12_keep_185 (fun v35 ev35 => ?_)
              have hF := hF v35 ev35
              refine lv_iconst (v := (4 : Int32)) hx hb dX12_keep_186 (by decide) ?_
              refine jn_use hF (fun K => ∀ (y37 : Int32) (H : Heap) (locs : List Loc) (ls : Array Slot), K y37 → va_P D vwCl (wld cy ad dsM σ34) H → va_D A (wld cy ad dsM σ34) → va_S A s.heap H locs → lv_has ls 6 [(0, .ref (ad 0)), (1, .int a1), (2, .int a2)] → W p l e (rmO 1 21) s m args below meth c H locs 0 0 (MQ below (va_Qi post (cBk D cy ad dsM A) A) args s 0 0 A) (F0 m 201 ls [.int y37, .int a1, .ref (ad 34)])) (fun y37 H locs ls hF hP hD hS hl => ?_) (fun J36 hJ36 hF => ?_)
              · obtain ⟨hin, hF⟩ := hF
                refine wi_iast hx hb hK hP hD hS 34 rfl hin dX12_keep_201 (fun σ38 eσ38 H locs hP hD hS => ?_)
                have hF := hF σ38 eσ38
                exact hJ11 σ38 H locs ls hF hP hD hS (lv_sub hl [0, 1, 2] rfl)
              · refine lv_icmp_le (tgt := 199) hx hb dX12_keep_187 (by decide) (fun c39 => ?_) (fun c39 => ?_)
                · have hF := brT hF c39
                  refine lv_bipush (v := (-15 : Int32)) hx hb dX12_keep_199 (by decide) ?_
                  exact hJ36 (-15 : Int32) H locs ls hF hP hD hS (lv_sub hl [0, 1, 2] rfl)
                · have hF := brF hF c39
                  refine lv_aload_n hx hb dX12_keep_190 rfl (lv_at hl 0 rfl) ?_
                  refine wi_getr hx hb hg hown hK hP 0 4 2 rfl rfl cb_12 (by decide) kw_581 dX12_keep_191 ?_
                  refine lv_iload_n hx hb dX12_keep_194 rfl (lv_at hl 3 rfl) ?_
                  obtain ⟨hin, hF⟩ := hF
                  refine wi_iald hx hb hK hP 2 rfl hin dX12_keep_195 (fun v40 ev40 => ?_)
                  have hF := hF v40 ev40
                  refine lv_goto (tgt := 201) hx hb dX12_keep_196 (by decide) ?_
                  exact hJ36 v40 H locs ls hF hP hD hS (lv_sub hl [0, 1, 2] rfl)
            · refine lv_icmp_ne (tgt := 126) hx hb dX12_keep_113 (by decide) (fun c41 => ?_) (fun c41 => ?_)
              · have hF := brF hF c41
                refine lv_aload_n hx hb dX12_keep_126 rfl (lv_at hl 1 rfl) ?_
                refine wi_getr hx hb hg hown hK hP 0 3 1 rfl rfl cb_12 (by decide) kw_560 dX12_keep_127 ?_
                refine lv_iload_n hx hb dX12_keep_130 rfl (lv_at hl 4 rfl) ?_
                obtain ⟨hin, hF⟩ := hF
                refine wi_iald hx hb hK hP 1 rfl hin dX12_keep_131 (fun v42 ev42 => ?_)
                have hF := hF v42 ev42
                refine lv_iconst (v := (4 : Int32)) hx hb dX12_keep_132 (by decide) ?_
                refine lv_icmp_ge (tgt := 144) hx hb dX12_keep_133 (by decide) (fun c43 => ?_) (fun c43 => ?_)
                · have hF := brT hF c43
                  refine lv_aload_n hx hb dX12_keep_144 rfl (lv_at hl 1 rfl) ?_
                  refine wi_getr hx hb hg hown hK hP 0 3 1 rfl rfl cb_12 (by decide) kw_560 dX12_keep_145 ?_
                  refine lv_iload_n hx hb dX12_keep_148 rfl (lv_at hl 4 rfl) ?_
                  obtain ⟨hin, hF⟩ := hF
                  refine wi_iald hx hb hK hP 1 rfl hin dX12_keep_149 (fun v44 ev44 => ?_)
                  have hF := hF v44 ev44
                  refine lv_iconst (v := (5 : Int32)) hx hb dX12_keep_150 (by decide) ?_
                  refine lv_icmp_ne (tgt := 162) hx hb dX12_keep_151 (by decide) (fun c45 => ?_) (fun c45 => ?_)
                  · have hF := brF hF c45
                    refine lv_iload hx hb dX12_keep_162 (lv_at hl 0 rfl) ?_
                    refine lv_bipush (v := (105 : Int32)) hx hb dX12_keep_164 (by decide) ?_
                    refine lv_iadd hx hb dX12_keep_166 ?_
                    refine lv_aload_n hx hb dX12_keep_167 rfl (lv_at hl 1 rfl) ?_
                    refine wi_getr hx hb hg hown hK hP 0 6 4 rfl rfl cb_12 (by decide) kw_561 dX12_keep_168 ?_
                    refine lv_iload_n hx hb dX12_keep_171 rfl (lv_at hl 4 rfl) ?_
                    obtain ⟨hin, hF⟩ := hF
                    refine wi_iald hx hb hK hP 4 rfl hin dX12_keep_172 (fun v46 ev46 => ?_)
                    have hF := hF v46 ev46
                    refine lv_iadd hx hb dX12_keep_173 ?_
                    exact hJ32 ((x30 + (105 : Int32)) + v46) H locs ls hF hP hD hS (lv_sub hl [1, 2, 3, 4] rfl)
                  · have hF := brT hF c45
                    refine lv_iload hx hb dX12_keep_154 (lv_at hl 0 rfl) ?_
                    refine lv_bipush (v := (100 : Int32)) hx hb dX12_keep_156 (by decide) ?_
                    refine lv_iadd hx hb dX12_keep_158 ?_
                    refine lv_goto (tgt := 174) hx hb dX12_keep_159 (by decide) ?_
                    exact hJ32 (x30 + (100 : Int32)) H locs ls hF hP hD hS (lv_sub hl [1, 2, 3, 4] rfl)
                · have hF := brF hF c43
                  refine lv_iload hx hb dX12_keep_136 (lv_at hl 0 rfl) ?_
                  refine lv_bipush (v := (10 : Int32)) hx hb dX12_keep_138 (by decide) ?_
                  refine lv_iadd hx hb dX12_keep_140 ?_
                  refine lv_goto (tgt := 174) hx hb dX12_keep_141 (by decide) ?_
                  exact hJ32 (x30 + (10 : Int32)) H locs ls hF hP hD hS (lv_sub hl [1, 2, 3, 4] rfl)
              · have hF := brT hF c41
                refine lv_iconst (v := (3 : Int32)) hx hb dX12_keep_116 (by decide) ?_
                refine lv_iload hx hb dX12_keep_117 (lv_at hl 0 rfl) ?_
                refine lv_bipush (v := (10 : Int32)) hx hb dX12_keep_119 (by decide) ?_
                refine lv_iadd hx hb dX12_keep_121 ?_
                refine lv_imul hx hb dX12_keep_122 ?_
                refine lv_goto (tgt := 174) hx hb dX12_keep_123 (by decide) ?_
                exact hJ32 ((3 : Int32) * (x30 + (10 : Int32))) H locs ls hF hP hD hS (lv_sub hl [1, 2, 3, 4] rfl)
      · refine lv_icmp_ne (tgt := 77) hx hb dX12_keep_67 (by decide) (fun c47 => ?_) (fun c47 => ?_)
        · have hF := brF hF c47
          refine lv_iload_n hx hb dX12_keep_77 rfl (lv_at hl 3 rfl) ?_
          refine lv_iconst (v := (4 : Int32)) hx hb dX12_keep_78 (by decide) ?_
          refine lv_icmp_ne (tgt := 89) hx hb dX12_keep_79 (by decide) (fun c48 => ?_) (fun c48 => ?_)
          · have hF := brF hF c48
            refine lv_iconst (v := (0 : Int32)) hx hb dX12_keep_89 (by decide) ?_
            exact hJ8 (0 : Int32) H locs ls hF hP hD hS (lv_sub hl [1, 2, 3, 4] rfl)
          · have hF := brT hF c48
            refine lv_aload_n hx hb dX12_keep_82 rfl (lv_at hl 1 rfl) ?_
            refine wi_geti hx hb hg hown hK hP 0 15 rfl rfl cb_12 (by decide) kw_573 dX12_keep_83 ?_
            refine lv_goto (tgt := 90) hx hb dX12_keep_86 (by decide) ?_
            exact hJ8 (σ7.1 0 15) H locs ls hF hP hD hS (lv_sub hl [1, 2, 3, 4] rfl)
        · have hF := brT hF c47
          refine lv_aload_n hx hb dX12_keep_70 rfl (lv_at hl 1 rfl) ?_
          refine wi_geti hx hb hg hown hK hP 0 1 rfl rfl cb_12 (by decide) kw_559 dX12_keep_71 ?_
          refine lv_goto (tgt := 90) hx hb dX12_keep_74 (by decide) ?_
          exact hJ8 (σ7.1 0 1) H locs ls hF hP hD hS (lv_sub hl [1, 2, 3, 4] rfl)
    · have hF := brT hF c6
      refine lv_iconst (v := (-1 : Int32)) hx hb dX12_keep_51 (by decide) ?_
      exact wi_iret hx hb hr hlk hK hP hD hS dX12_keep_52 hF
  · refine jn_use hF (fun K => ∀ (H : Heap) (locs : List Loc) (ls : Array Slot), K → va_P D vwCl (wld cy ad dsM σ1) H → va_D A (wld cy ad dsM σ1) → va_S A s.heap H locs → lv_has ls 6 [(0, .ref (ad 0)), (1, .int a1), (2, .int a2), (3, .int a3)] → W p l e (rmO 1 21) s m args below meth c H locs 0 0 (MQ below (va_Qi post (cBk D cy ad dsM A) A) args s 0 0 A) (F0 m 43 ls [])) (fun H locs ls hF hP hD hS hl => ?_) (fun J49 hJ49 hF => ?_)
    · refine lv_iconst (v := (0 : Int32)) hx hb dX12_keep_43 (by decide) ?_
      exact hJ4 (0 : Int32) H locs ls hF hP hD hS (lv_sub hl [0, 1, 2, 3] rfl)
    · refine lv_if_eq (tgt := 43) hx hb dX12_keep_9 (by decide) (fun c50 => ?_) (fun c50 => ?_)
      · have hF := brT hF c50
        exact hJ49  H locs ls hF hP hD hS (lv_sub hl [0, 1, 2, 3] rfl)
      · have hF := brF hF c50
        refine lv_iload_n hx hb dX12_keep_12 rfl (lv_at hl 2 rfl) ?_
        refine jn_use hF (fun K => ∀ (H : Heap) (locs : List Loc) (ls : Array Slot), K → va_P D vwCl (wld cy ad dsM σ1) H → va_D A (wld cy ad dsM σ1) → va_S A s.heap H locs → lv_has ls 6 [(0, .ref (ad 0)), (1, .int a1), (2, .int a2), (3, .int a3)] → W p l e (rmO 1 21) s m args below meth c H locs 0 0 (MQ below (va_Qi post (cBk D cy ad dsM A) A) args s 0 0 A) (F0 m 39 ls [])) (fun H locs ls hF hP hD hS hl => ?_) (fun J51 hJ51 hF => ?_)
        · refine lv_iconst (v := (1 : Int32)) hx hb dX12_keep_39 (by decide) ?_
          refine lv_goto (tgt := 44) hx hb dX12_keep_40 (by decide) ?_
          exact hJ4 (1 : Int32) H locs ls hF hP hD hS (lv_sub hl [0, 1, 2, 3] rfl)
        · refine lv_if_eq (tgt := 39) hx hb dX12_keep_13 (by decide) (fun c52 => ?_) (fun c52 => ?_)
          · have hF := brT hF c52
            exact hJ51  H locs ls hF hP hD hS (lv_sub hl [0, 1, 2, 3] rfl)
          · have hF := brF hF c52
            refine lv_iload_n hx hb dX12_keep_16 rfl (lv_at hl 2 rfl) ?_
            refine lv_iconst (v := (1 : Int32)) hx hb dX12_keep_17 (by decide) ?_
            refine jn_use hF (fun K => ∀ (H : Heap) (locs : List Loc) (ls : Array Slot), K → va_P D vwCl (wld cy ad dsM σ1) H → va_D A (wld cy ad dsM σ1) → va_S A s.heap H locs → lv_has ls 6 [(0, .ref (ad 0)), (1, .int a1), (2, .int a2), (3, .int a3)] → W p l e (rmO 1 21) s m args below meth c H locs 0 0 (MQ below (va_Qi post (cBk D cy ad dsM A) A) args s 0 0 A) (F0 m 29 ls [])) (fun H locs ls hF hP hD hS hl => ?_) (fun J53 hJ53 hF => ?_)
            · refine lv_iload_n hx hb dX12_keep_29 rfl (lv_at hl 2 rfl) ?_
              refine lv_iconst (v := (3 : Int32)) hx hb dX12_keep_30 (by decide) ?_
              refine lv_icmp_eq (tgt := 39) hx hb dX12_keep_31 (by decide) (fun c54 => ?_) (fun c54 => ?_)
              · have hF := brT hF c54
                exact hJ51  H locs ls hF hP hD hS (lv_sub hl [0, 1, 2, 3] rfl)
              · have hF := brF hF c54
                refine lv_iload_n hx hb dX12_keep_34 rfl (lv_at hl 2 rfl) ?_
                refine lv_iconst (v := (4 : Int32)) hx hb dX12_keep_35 (by decide) ?_
                refine lv_icmp_ne (tgt := 43) hx hb dX12_keep_36 (by decide) (fun c55 => ?_) (fun c55 => ?_)
                · have hF := brF hF c55
                  exact hJ49  H locs ls hF hP hD hS (lv_sub hl [0, 1, 2, 3] rfl)
                · have hF := brT hF c55
                  exact hJ51  H locs ls hF hP hD hS (lv_sub hl [0, 1, 2, 3] rfl)
            · refine lv_icmp_ne (tgt := 29) hx hb dX12_keep_18 (by decide) (fun c56 => ?_) (fun c56 => ?_)
              · have hF := brF hF c56
                exact hJ53  H locs ls hF hP hD hS (lv_sub hl [0, 1, 2, 3] rfl)
              · have hF := brT hF c56
                refine lv_aload_n hx hb dX12_keep_21 rfl (lv_at hl 0 rfl) ?_
                refine lv_iload_n hx hb dX12_keep_22 rfl (lv_at hl 3 rfl) ?_
                refine wi_callVi (k := 0) (As := [.int a3]) (c_X12_isCell l D cy ad tL σ1 a3 _ hF) vw_RX12_129 rfl cb_12 hx hb hml hown hg hK hP hD hS hA hLB rfl ⟨Nat.le_of_ble_eq_true rfl, Nat.le_of_ble_eq_true rfl⟩ hl.1 rfl (Nat.le_of_ble_eq_true rfl) dX12_keep_23 (fun r57 σ58 hw H locs hP hD hS => ?_)
                obtain ⟨hF, rfl⟩ := hw
                refine lv_if_ne (tgt := 39) hx hb dX12_keep_26 (by decide) (fun c59 => ?_) (fun c59 => ?_)
                · have hF := brF hF c59
                  exact hJ51  H locs ls hF hP hD hS (lv_sub hl [0, 1, 2, 3] rfl)
                · have hF := brT hF c59
                  exact hJ53  H locs ls hF hP hD hS (lv_sub hl [0, 1, 2, 3] rfl)
