def w_X12_hangs_L100 (y4 : Int32) (σ : St) (J5 : Int32 → Prop) (rec9 : Int32 → Int32 → Prop) (y7 : Int32) (y8 : Int32) : Prop := br ((σ.1 0 1) ≤ y8) (J5 y7) (jn (α := Int32 → Prop) (fun (y12 : Int32) => nm (y7 ||| y12) (fun x13 => nm (y8 + (1 : Int32)) (fun x14 => rec9 x13 x14))) (fun J11 => jn (α := Prop) (J11 (0 : Int32)) (fun J15 => br (((y4 >>> (y8 &&& 31)) &&& (1 : Int32)) = (1 : Int32)) (rd (σ.1 1) 24 y8 (fun v17 => br (v17 ≤ (4 : Int32)) (J15) (J11 ((1 : Int32) <<< (y8 &&& 31))))) (J15))))
def w_X12_hangs_L11 (σ : St) (J3 : Int32 → Prop) (rec21 : Int32 → Int32 → Prop) (y19 : Int32) (y20 : Int32) : Prop := br (y20 < (0 : Int32)) (J3 y19) (br (((y19 >>> (y20 &&& 31)) &&& (1 : Int32)) = (1 : Int32)) (rd (σ.1 1) 24 y20 (fun v25 => br ((5 : Int32) ≤ v25) (nm (y20 + (-1 : Int32)) (fun x27 => rec21 y19 x27)) (rd (σ.1 4) 24 y20 (fun v28 => rd (σ.1 5) 24 y20 (fun v29 => jn (α := Int32 → Prop) (fun (y31 : Int32) => rd (σ.1 6) 24 y20 (fun v32 => jn (α := Int32 → Prop) (fun (y34 : Int32) => nm (y19 ||| ((((1 : Int32) <<< (v28 &&& 31)) ||| y31) ||| y34)) (fun x35 => nm (y20 + (-1 : Int32)) (fun x36 => rec21 x35 x36))) (fun J33 => br ((0 : Int32) ≤ v32) (rd (σ.1 6) 24 y20 (fun v38 => J33 ((1 : Int32) <<< (v38 &&& 31)))) (J33 (0 : Int32))))) (fun J30 => br ((0 : Int32) ≤ v29) (rd (σ.1 5) 24 y20 (fun v40 => J30 ((1 : Int32) <<< (v40 &&& 31)))) (J30 (0 : Int32)))))))) (nm (y20 + (-1 : Int32)) (fun x24 => rec21 y19 x24)))
def w_X12_hangs (σ : St) (a1 : Int32) (post : Int32 → Prop) : Prop := nm ((1 : Int32) <<< (a1 &&& 31)) (fun x1 => nm ((σ.1 0 1) - (1 : Int32)) (fun x2 => jn (α := Int32 → Prop) (fun (y4 : Int32) => jn (α := Int32 → Prop) (fun (y6 : Int32) => post y6) (fun J5 => lpE2 (w_X12_hangs_L100 y4 σ J5) (0 : Int32) (0 : Int32))) (fun J3 => lpE2 (w_X12_hangs_L11 σ J3) x1 x2)))
set_option maxHeartbeats 4000000 in
set_option maxRecDepth 100000 in
theorem c_X12_hangs (l : Launch) (D : va_G) (cy : Nat → ClassId) (ad : Nat → Nat) (tL : Nat) (σ : St) (a1 : Int32) (post : Int32 → Prop) (hF : w_X12_hangs σ a1 post) : Cti l yX12_hangs cX12_hangs 5 (some .int) 0 0 D cy ad tL dsM σ [.ref (ad 0), .int a1] (fun r u => post r ∧ σ = u) := by
  refine cti_of (by decide) (Nat.le_of_ble_eq_true rfl) ?_
  intro p e s m args below meth c A hx hb hml hr hlk hg hown hA hK H locs hP hD hS hLB ls hl
  have hown : s.vm.findClass RX12 = some m.cls := hown
  have hl : lv_has ls 5 [(0, .ref (ad 0)), (1, .int a1)] := hl
  refine lv_iconst (v := (1 : Int32)) hx hb dX12_hangs_0 (by decide) ?_
  refine lv_iload_n hx hb dX12_hangs_1 rfl (lv_at hl 1 rfl) ?_
  refine lv_ishl hx hb dX12_hangs_2 ?_
  refine lv_topi (fun x1 ex1 => ?_)
  have hF := hF x1 ex1
  refine lv_istore_n (lv' := [(2, .int x1), (0, .ref (ad 0)), (1, .int a1)]) hx hb dX12_hangs_3 rfl hl (by decide) rfl (fun ls hl => ?_)
  refine lv_aload_n hx hb dX12_hangs_4 rfl (lv_at hl 1 rfl) ?_
  refine wi_geti hx hb hg hown hK hP 0 1 rfl rfl cb_12 (by decide) kw_559 dX12_hangs_5 ?_
  refine lv_iconst (v := (1 : Int32)) hx hb dX12_hangs_8 (by decide) ?_
  refine lv_isub hx hb dX12_hangs_9 ?_
  refine lv_topi (fun x2 ex2 => ?_)
  have hF := hF x2 ex2
  refine lv_istore_n (lv' := [(3, .int x2), (2, .int x1), (0, .ref (ad 0)), (1, .int a1)]) hx hb dX12_hangs_10 rfl hl (by decide) rfl (fun ls hl => ?_)
  refine jn_use hF (fun K => ∀ (y4 : Int32) (H : Heap) (locs : List Loc) (ls : Array Slot), K y4 → va_P D vwCl (wld cy ad dsM σ) H → va_D A (wld cy ad dsM σ) → va_S A s.heap H locs → lv_has ls 5 [(0, .ref (ad 0)), (2, .int y4)] → W p l e (rmO 0 0) s m args below meth c H locs 0 0 (MQ below (va_Qi (fun r u => post r ∧ σ = u) (cBk D cy ad dsM A) A) args s 0 0 A) (F0 m 95 ls [])) (fun y4 H locs ls hF hP hD hS hl => ?_) (fun J3 hJ3 hF => ?_)
  · refine lv_iconst (v := (0 : Int32)) hx hb dX12_hangs_95 (by decide) ?_
    refine lv_istore_n (lv' := [(3, .int (0 : Int32)), (0, .ref (ad 0)), (2, .int y4)]) hx hb dX12_hangs_96 rfl hl (by decide) rfl (fun ls hl => ?_)
    refine lv_iconst (v := (0 : Int32)) hx hb dX12_hangs_97 (by decide) ?_
    refine lv_istore (lv' := [(4, .int (0 : Int32)), (3, .int (0 : Int32)), (0, .ref (ad 0)), (2, .int y4)]) hx hb dX12_hangs_98 hl (by decide) rfl (fun ls hl => ?_)
    refine jn_use hF (fun K => ∀ (y6 : Int32) (H : Heap) (locs : List Loc) (ls : Array Slot), K y6 → va_P D vwCl (wld cy ad dsM σ) H → va_D A (wld cy ad dsM σ) → va_S A s.heap H locs → lv_has ls 5 [(3, .int y6)] → W p l e (rmO 0 0) s m args below meth c H locs 0 0 (MQ below (va_Qi (fun r u => post r ∧ σ = u) (cBk D cy ad dsM A) A) args s 0 0 A) (F0 m 147 ls [])) (fun y6 H locs ls hF hP hD hS hl => ?_) (fun J5 hJ5 hF => ?_)
    · refine lv_iload_n hx hb dX12_hangs_147 rfl (lv_at hl 0 rfl) ?_
      exact wi_iret hx hb hr hlk hK hP hD hS dX12_hangs_148 ⟨hF, rfl⟩
    · refine lpE2_use hF (fun (y7 : Int32) (y8 : Int32) => ∀ (H : Heap) (locs : List Loc) (ls : Array Slot), va_P D vwCl (wld cy ad dsM σ) H → va_D A (wld cy ad dsM σ) → va_S A s.heap H locs → lv_has ls 5 [(0, .ref (ad 0)), (2, .int y4), (3, .int y7), (4, .int y8)] → W p l e (rmO 0 0) s m args below meth c H locs 0 0 (MQ below (va_Qi (fun r u => post r ∧ σ = u) (cBk D cy ad dsM A) A) args s 0 0 A) (F0 m 100 ls [])) (fun rec9 hrec9 y7 y8 hF H locs ls hP hD hS hl => ?_) H locs ls hP hD hS (lv_sub hl [2, 3, 1, 0] rfl)
      refine lv_iload hx hb dX12_hangs_100 (lv_at hl 3 rfl) ?_
      refine lv_aload_n hx hb dX12_hangs_102 rfl (lv_at hl 0 rfl) ?_
      refine wi_geti hx hb hg hown hK hP 0 1 rfl rfl cb_12 (by decide) kw_559 dX12_hangs_103 ?_
      refine lv_icmp_ge (tgt := 147) hx hb dX12_hangs_106 (by decide) (fun c10 => ?_) (fun c10 => ?_)
      · have hF := brT hF c10
        exact hJ5 y7 H locs ls hF hP hD hS (lv_sub hl [2] rfl)
      · have hF := brF hF c10
        refine lv_iload_n hx hb dX12_hangs_109 rfl (lv_at hl 2 rfl) ?_
        refine lv_iload_n hx hb dX12_hangs_110 rfl (lv_at hl 1 rfl) ?_
        refine lv_iload hx hb dX12_hangs_111 (lv_at hl 3 rfl) ?_
        refine lv_ishr hx hb dX12_hangs_113 ?_
        refine lv_iconst (v := (1 : Int32)) hx hb dX12_hangs_114 (by decide) ?_
        refine lv_iand hx hb dX12_hangs_115 ?_
        refine lv_iconst (v := (1 : Int32)) hx hb dX12_hangs_116 (by decide) ?_
        refine jn_use hF (fun K => ∀ (y12 : Int32) (H : Heap) (locs : List Loc) (ls : Array Slot), K y12 → va_P D vwCl (wld cy ad dsM σ) H → va_D A (wld cy ad dsM σ) → va_S A s.heap H locs → lv_has ls 5 [(0, .ref (ad 0)), (2, .int y4), (4, .int y8)] → W p l e (rmO 0 0) s m args below meth c H locs 0 0 (MQ below (va_Qi (fun r u => post r ∧ σ = u) (cBk D cy ad dsM A) A) args s 0 0 A) (F0 m 139 ls [.int y12, .int y7])) (fun y12 H locs ls hF hP hD hS hl => ?_) (fun J11 hJ11 hF => ?_)
        · refine lv_ior hx hb dX12_hangs_139 ?_
          refine lv_topi (fun x13 ex13 => ?_)
          have hF := hF x13 ex13
          refine lv_istore_n (lv' := [(3, .int x13), (0, .ref (ad 0)), (2, .int y4), (4, .int y8)]) hx hb dX12_hangs_140 rfl hl (by decide) rfl (fun ls hl => ?_)
          obtain ⟨x14, ex14⟩ : ∃ z : Int32, z = (y8 + (1 : Int32)) := ⟨_, rfl⟩
          have hF := hF x14 ex14
          refine lv_iinc (v := x14) (lv' := [(4, .int x14), (3, .int x13), (0, .ref (ad 0)), (2, .int y4)]) hx hb dX12_hangs_141 hl (k := 3) rfl (by rw [ex14]; rfl) (by decide) rfl (fun ls hl => ?_)
          refine lv_goto (tgt := 100) hx hb dX12_hangs_144 (by decide) ?_
          exact hrec9 x13 x14 hF H locs ls hP hD hS (lv_sub hl [2, 3, 1, 0] rfl)
        · refine jn_use hF (fun K => ∀ (H : Heap) (locs : List Loc) (ls : Array Slot), K → va_P D vwCl (wld cy ad dsM σ) H → va_D A (wld cy ad dsM σ) → va_S A s.heap H locs → lv_has ls 5 [(0, .ref (ad 0)), (2, .int y4), (4, .int y8)] → W p l e (rmO 0 0) s m args below meth c H locs 0 0 (MQ below (va_Qi (fun r u => post r ∧ σ = u) (cBk D cy ad dsM A) A) args s 0 0 A) (F0 m 138 ls [.int y7])) (fun H locs ls hF hP hD hS hl => ?_) (fun J15 hJ15 hF => ?_)
          · refine lv_iconst (v := (0 : Int32)) hx hb dX12_hangs_138 (by decide) ?_
            exact hJ11 (0 : Int32) H locs ls hF hP hD hS (lv_sub hl [0, 1, 2] rfl)
          · refine lv_icmp_ne (tgt := 138) hx hb dX12_hangs_117 (by decide) (fun c16 => ?_) (fun c16 => ?_)
            · have hF := brF hF c16
              exact hJ15  H locs ls hF hP hD hS (lv_sub hl [0, 1, 3] rfl)
            · have hF := brT hF c16
              refine lv_aload_n hx hb dX12_hangs_120 rfl (lv_at hl 0 rfl) ?_
              refine wi_getr hx hb hg hown hK hP 0 3 1 rfl rfl cb_12 (by decide) kw_560 dX12_hangs_121 ?_
              refine lv_iload hx hb dX12_hangs_124 (lv_at hl 3 rfl) ?_
              obtain ⟨hin, hF⟩ := hF
              refine wi_iald hx hb hK hP 1 rfl hin dX12_hangs_126 (fun v17 ev17 => ?_)
              have hF := hF v17 ev17
              refine lv_iconst (v := (4 : Int32)) hx hb dX12_hangs_127 (by decide) ?_
              refine lv_icmp_le (tgt := 138) hx hb dX12_hangs_128 (by decide) (fun c18 => ?_) (fun c18 => ?_)
              · have hF := brT hF c18
                exact hJ15  H locs ls hF hP hD hS (lv_sub hl [0, 1, 3] rfl)
              · have hF := brF hF c18
                refine lv_iconst (v := (1 : Int32)) hx hb dX12_hangs_131 (by decide) ?_
                refine lv_iload hx hb dX12_hangs_132 (lv_at hl 3 rfl) ?_
                refine lv_ishl hx hb dX12_hangs_134 ?_
                refine lv_goto (tgt := 139) hx hb dX12_hangs_135 (by decide) ?_
                exact hJ11 ((1 : Int32) <<< (y8 &&& 31)) H locs ls hF hP hD hS (lv_sub hl [0, 1, 3] rfl)
  · refine lpE2_use hF (fun (y19 : Int32) (y20 : Int32) => ∀ (H : Heap) (locs : List Loc) (ls : Array Slot), va_P D vwCl (wld cy ad dsM σ) H → va_D A (wld cy ad dsM σ) → va_S A s.heap H locs → lv_has ls 5 [(0, .ref (ad 0)), (2, .int y19), (3, .int y20)] → W p l e (rmO 0 0) s m args below meth c H locs 0 0 (MQ below (va_Qi (fun r u => post r ∧ σ = u) (cBk D cy ad dsM A) A) args s 0 0 A) (F0 m 11 ls [])) (fun rec21 hrec21 y19 y20 hF H locs ls hP hD hS hl => ?_) H locs ls hP hD hS (lv_sub hl [2, 1, 0] rfl)
    refine lv_iload_n hx hb dX12_hangs_11 rfl (lv_at hl 2 rfl) ?_
    refine lv_if_lt (tgt := 95) hx hb dX12_hangs_12 (by decide) (fun c22 => ?_) (fun c22 => ?_)
    · have hF := brT hF c22
      exact hJ3 y19 H locs ls hF hP hD hS (lv_sub hl [0, 1] rfl)
    · have hF := brF hF c22
      refine lv_iload_n hx hb dX12_hangs_15 rfl (lv_at hl 1 rfl) ?_
      refine lv_iload_n hx hb dX12_hangs_16 rfl (lv_at hl 2 rfl) ?_
      refine lv_ishr hx hb dX12_hangs_17 ?_
      refine lv_iconst (v := (1 : Int32)) hx hb dX12_hangs_18 (by decide) ?_
      refine lv_iand hx hb dX12_hangs_19 ?_
      refine lv_iconst (v := (1 : Int32)) hx hb dX12_hangs_20 (by decide) ?_
      refine lv_icmp_ne (tgt := 89) hx hb dX12_hangs_21 (by decide) (fun c23 => ?_) (fun c23 => ?_)
      · have hF := brF hF c23
        obtain ⟨x24, ex24⟩ : ∃ z : Int32, z = (y20 + (-1 : Int32)) := ⟨_, rfl⟩
        have hF := hF x24 ex24
        refine lv_iinc (v := x24) (lv' := [(3, .int x24), (0, .ref (ad 0)), (2, .int y19)]) hx hb dX12_hangs_89 hl (k := 2) rfl (by rw [ex24]; rfl) (by decide) rfl (fun ls hl => ?_)
        refine lv_goto (tgt := 11) hx hb dX12_hangs_92 (by decide) ?_
        exact hrec21 y19 x24 hF H locs ls hP hD hS (lv_sub hl [1, 2, 0] rfl)
      · have hF := brT hF c23
        refine lv_aload_n hx hb dX12_hangs_24 rfl (lv_at hl 0 rfl) ?_
        refine wi_getr hx hb hg hown hK hP 0 3 1 rfl rfl cb_12 (by decide) kw_560 dX12_hangs_25 ?_
        refine lv_iload_n hx hb dX12_hangs_28 rfl (lv_at hl 2 rfl) ?_
        obtain ⟨hin, hF⟩ := hF
        refine wi_iald hx hb hK hP 1 rfl hin dX12_hangs_29 (fun v25 ev25 => ?_)
        have hF := hF v25 ev25
        refine lv_iconst (v := (5 : Int32)) hx hb dX12_hangs_30 (by decide) ?_
        refine lv_icmp_ge (tgt := 89) hx hb dX12_hangs_31 (by decide) (fun c26 => ?_) (fun c26 => ?_)
        · have hF := brT hF c26
          obtain ⟨x27, ex27⟩ : ∃ z : Int32, z = (y20 + (-1 : Int32)) := ⟨_, rfl⟩
          have hF := hF x27 ex27
          refine lv_iinc (v := x27) (lv' := [(3, .int x27), (0, .ref (ad 0)), (2, .int y19)]) hx hb dX12_hangs_89 hl (k := 2) rfl (by rw [ex27]; rfl) (by decide) rfl (fun ls hl => ?_)
          refine lv_goto (tgt := 11) hx hb dX12_hangs_92 (by decide) ?_
          exact hrec21 y19 x27 hF H locs ls hP hD hS (lv_sub hl [1, 2, 0] rfl)
        · have hF := brF hF c26
          refine lv_iload_n hx hb dX12_hangs_34 rfl (lv_at hl 1 rfl) ?_
          refine lv_iconst (v := (1 : Int32)) hx hb dX12_hangs_35 (by decide) ?_
          refine lv_aload_n hx hb dX12_hangs_36 rfl (lv_at hl 0 rfl) ?_
          refine wi_getr hx hb hg hown hK hP 0 6 4 rfl rfl cb_12 (by decide) kw_561 dX12_hangs_37 ?_
          refine lv_iload_n hx hb dX12_hangs_40 rfl (lv_at hl 2 rfl) ?_
          obtain ⟨hin, hF⟩ := hF
          refine wi_iald hx hb hK hP 4 rfl hin dX12_hangs_41 (fun v28 ev28 => ?_)
          have hF := hF v28 ev28
          refine lv_ishl hx hb dX12_hangs_42 ?_
          refine lv_aload_n hx hb dX12_hangs_43 rfl (lv_at hl 0 rfl) ?_
          refine wi_getr hx hb hg hown hK hP 0 7 5 rfl rfl cb_12 (by decide) kw_562 dX12_hangs_44 ?_
          refine lv_iload_n hx hb dX12_hangs_47 rfl (lv_at hl 2 rfl) ?_
          obtain ⟨hin, hF⟩ := hF
          refine wi_iald hx hb hK hP 5 rfl hin dX12_hangs_48 (fun v29 ev29 => ?_)
          have hF := hF v29 ev29
          refine jn_use hF (fun K => ∀ (y31 : Int32) (H : Heap) (locs : List Loc) (ls : Array Slot), K y31 → va_P D vwCl (wld cy ad dsM σ) H → va_D A (wld cy ad dsM σ) → va_S A s.heap H locs → lv_has ls 5 [(0, .ref (ad 0)), (3, .int y20)] → W p l e (rmO 0 0) s m args below meth c H locs 0 0 (MQ below (va_Qi (fun r u => post r ∧ σ = u) (cBk D cy ad dsM A) A) args s 0 0 A) (F0 m 64 ls [.int y31, .int ((1 : Int32) <<< (v28 &&& 31)), .int y19])) (fun y31 H locs ls hF hP hD hS hl => ?_) (fun J30 hJ30 hF => ?_)
          · refine lv_ior hx hb dX12_hangs_64 ?_
            refine lv_aload_n hx hb dX12_hangs_65 rfl (lv_at hl 0 rfl) ?_
            refine wi_getr hx hb hg hown hK hP 0 8 6 rfl rfl cb_12 (by decide) kw_563 dX12_hangs_66 ?_
            refine lv_iload_n hx hb dX12_hangs_69 rfl (lv_at hl 1 rfl) ?_
            obtain ⟨hin, hF⟩ := hF
            refine wi_iald hx hb hK hP 6 rfl hin dX12_hangs_70 (fun v32 ev32 => ?_)
            have hF := hF v32 ev32
            refine jn_use hF (fun K => ∀ (y34 : Int32) (H : Heap) (locs : List Loc) (ls : Array Slot), K y34 → va_P D vwCl (wld cy ad dsM σ) H → va_D A (wld cy ad dsM σ) → va_S A s.heap H locs → lv_has ls 5 [(0, .ref (ad 0)), (3, .int y20)] → W p l e (rmO 0 0) s m args below meth c H locs 0 0 (MQ below (va_Qi (fun r u => post r ∧ σ = u) (cBk D cy ad dsM A) A) args s 0 0 A) (F0 m 86 ls [.int y34, .int (((1 : Int32) <<< (v28 &&& 31)) ||| y31), .int y19])) (fun y34 H locs ls hF hP hD hS hl => ?_) (fun J33 hJ33 hF => ?_)
            · refine lv_ior hx hb dX12_hangs_86 ?_
              refine lv_ior hx hb dX12_hangs_87 ?_
              refine lv_topi (fun x35 ex35 => ?_)
              have hF := hF x35 ex35
              refine lv_istore_n (lv' := [(2, .int x35), (0, .ref (ad 0)), (3, .int y20)]) hx hb dX12_hangs_88 rfl hl (by decide) rfl (fun ls hl => ?_)
              obtain ⟨x36, ex36⟩ : ∃ z : Int32, z = (y20 + (-1 : Int32)) := ⟨_, rfl⟩
              have hF := hF x36 ex36
              refine lv_iinc (v := x36) (lv' := [(3, .int x36), (2, .int x35), (0, .ref (ad 0))]) hx hb dX12_hangs_89 hl (k := 2) rfl (by rw [ex36]; rfl) (by decide) rfl (fun ls hl => ?_)
              refine lv_goto (tgt := 11) hx hb dX12_hangs_92 (by decide) ?_
              exact hrec21 x35 x36 hF H locs ls hP hD hS (lv_sub hl [2, 1, 0] rfl)
            · refine lv_if_ge (tgt := 78) hx hb dX12_hangs_71 (by decide) (fun c37 => ?_) (fun c37 => ?_)
              · have hF := brT hF c37
                refine lv_iconst (v := (1 : Int32)) hx hb dX12_hangs_78 (by decide) ?_
                refine lv_aload_n hx hb dX12_hangs_79 rfl (lv_at hl 0 rfl) ?_
                refine wi_getr hx hb hg hown hK hP 0 8 6 rfl rfl cb_12 (by decide) kw_563 dX12_hangs_80 ?_
                refine lv_iload_n hx hb dX12_hangs_83 rfl (lv_at hl 1 rfl) ?_
                obtain ⟨hin, hF⟩ := hF
                refine wi_iald hx hb hK hP 6 rfl hin dX12_hangs_84 (fun v38 ev38 => ?_)
                have hF := hF v38 ev38
                refine lv_ishl hx hb dX12_hangs_85 ?_
                exact hJ33 ((1 : Int32) <<< (v38 &&& 31)) H locs ls hF hP hD hS (lv_sub hl [0, 1] rfl)
              · have hF := brF hF c37
                refine lv_iconst (v := (0 : Int32)) hx hb dX12_hangs_74 (by decide) ?_
                refine lv_goto (tgt := 86) hx hb dX12_hangs_75 (by decide) ?_
                exact hJ33 (0 : Int32) H locs ls hF hP hD hS (lv_sub hl [0, 1] rfl)
          · refine lv_if_ge (tgt := 56) hx hb dX12_hangs_49 (by decide) (fun c39 => ?_) (fun c39 => ?_)
            · have hF := brT hF c39
              refine lv_iconst (v := (1 : Int32)) hx hb dX12_hangs_56 (by decide) ?_
              refine lv_aload_n hx hb dX12_hangs_57 rfl (lv_at hl 0 rfl) ?_
              refine wi_getr hx hb hg hown hK hP 0 7 5 rfl rfl cb_12 (by decide) kw_562 dX12_hangs_58 ?_
              refine lv_iload_n hx hb dX12_hangs_61 rfl (lv_at hl 2 rfl) ?_
              obtain ⟨hin, hF⟩ := hF
              refine wi_iald hx hb hK hP 5 rfl hin dX12_hangs_62 (fun v40 ev40 => ?_)
              have hF := hF v40 ev40
              refine lv_ishl hx hb dX12_hangs_63 ?_
              exact hJ30 ((1 : Int32) <<< (v40 &&& 31)) H locs ls hF hP hD hS (lv_sub hl [0, 2] rfl)
            · have hF := brF hF c39
              refine lv_iconst (v := (0 : Int32)) hx hb dX12_hangs_52 (by decide) ?_
              refine lv_goto (tgt := 64) hx hb dX12_hangs_53 (by decide) ?_
              exact hJ30 (0 : Int32) H locs ls hF hP hD hS (lv_sub hl [0, 2] rfl)
def w_X12_foreign_L16 (a1 : Int32) (r2 : Int32) (σ : St) (J4 : Int32 → Prop) (rec8 : Int32 → Int32 → Prop) (y6 : Int32) (y7 : Int32) : Prop := br ((σ.1 0 1) ≤ y7) (J4 y6) (jn (α := Int32 → Prop) (fun (y11 : Int32) => nm (y6 ||| y11) (fun x12 => nm (y7 + (1 : Int32)) (fun x13 => rec8 x12 x13))) (fun J10 => jn (α := Prop) (J10 (0 : Int32)) (fun J14 => br (((r2 >>> (y7 &&& 31)) &&& (1 : Int32)) = (1 : Int32)) (rd (σ.1 2) 24 y7 (fun v16 => rd (σ.1 2) 24 a1 (fun v17 => br (v16 = v17) (J14) (J10 ((1 : Int32) <<< (y7 &&& 31)))))) (J14))))
def w_X12_foreign (σ : St) (a1 : Int32) (post : Int32 → Prop) : Prop := rd (σ.1 4) 24 a1 (fun v1 => w_X12_hangs σ v1 (fun r2 => jn (α := Int32 → Prop) (fun (y5 : Int32) => post y5) (fun J4 => lpE2 (w_X12_foreign_L16 a1 r2 σ J4) (0 : Int32) (0 : Int32))))
set_option maxHeartbeats 4000000 in
set_option maxRecDepth 100000 in
theorem c_X12_foreign (l : Launch) (D : va_G) (cy : Nat → ClassId) (ad : Nat → Nat) (tL : Nat) (σ : St) (a1 : Int32) (post : Int32 → Prop) (hF : w_X12_foreign σ a1 post) : Cti l yX12_foreign cX12_foreign 5 (some .int) 1 24 D cy ad tL dsM σ [.ref (ad 0), .int a1] (fun r u => post r ∧ σ = u) := by
  refine cti_of (by decide) (Nat.le_of_ble_eq_true rfl) ?_
  intro p e s m args below meth c A hx hb hml hr hlk hg hown hA hK H locs hP hD hS hLB ls hl
  have hown : s.vm.findClass RX12 = some m.cls := hown
  have hl : lv_has ls 5 [(0, .ref (ad 0)), (1, .int a1)] := hl
  refine lv_aload_n hx hb dX12_foreign_0 rfl (lv_at hl 0 rfl) ?_
  refine lv_aload_n hx hb dX12_foreign_1 rfl (lv_at hl 0 rfl) ?_
  refine wi_getr hx hb hg hown hK hP 0 6 4 rfl rfl cb_12 (by decide) kw_561 dX12_foreign_2 ?_
  refine lv_iload_n hx hb dX12_foreign_5 rfl (lv_at hl 1 rfl) ?_
  obtain ⟨hin, hF⟩ := hF
  refine wi_iald hx hb hK hP 4 rfl hin dX12_foreign_6 (fun v1 ev1 => ?_)
  have hF := hF v1 ev1
  refine wi_callVi (k := 0) (As := [.int v1]) (c_X12_hangs l D cy ad tL σ v1 _ hF) vw_RX12_289 rfl cb_12 hx hb hml hown hg hK hP hD hS hA hLB rfl ⟨Nat.le_of_ble_eq_true rfl, Nat.le_of_ble_eq_true rfl⟩ hl.1 rfl (Nat.le_of_ble_eq_true rfl) dX12_foreign_7 (fun r2 σ3 hw H locs hP hD hS => ?_)
  obtain ⟨hF, rfl⟩ := hw
  refine lv_istore_n (lv' := [(2, .int r2), (0, .ref (ad 0)), (1, .int a1)]) hx hb dX12_foreign_10 rfl hl (by decide) rfl (fun ls hl => ?_)
  refine lv_iconst (v := (0 : Int32)) hx hb dX12_foreign_11 (by decide) ?_
  refine lv_istore_n (lv' := [(3, .int (0 : Int32)), (2, .int r2), (0, .ref (ad 0)), (1, .int a1)]) hx hb dX12_foreign_12 rfl hl (by decide) rfl (fun ls hl => ?_)
  refine lv_iconst (v := (0 : Int32)) hx hb dX12_foreign_13 (by decide) ?_
  refine lv_istore (lv' := [(4, .int (0 : Int32)), (3, .int (0 : Int32)), (2, .int r2), (0, .ref (ad 0)), (1, .int a1)]) hx hb dX12_foreign_14 hl (by decide) rfl (fun ls hl => ?_)
  refine jn_use hF (fun K => ∀ (y5 : Int32) (H : Heap) (locs : List Loc) (ls : Array Slot), K y5 → va_P D vwCl (wld cy ad dsM σ) H → va_D A (wld cy ad dsM σ) → va_S A s.heap H locs → lv_has ls 5 [(3, .int y5)] → W p l e (rmO 1 24) s m args below meth c H locs 0 0 (MQ below (va_Qi (fun r u => post r ∧ σ = u) (cBk D cy ad dsM A) A) args s 0 0 A) (F0 m 68 ls [])) (fun y5 H locs ls hF hP hD hS hl => ?_) (fun J4 hJ4 hF => ?_)
  · refine lv_iload_n hx hb dX12_foreign_68 rfl (lv_at hl 0 rfl) ?_
    exact wi_iret hx hb hr hlk hK hP hD hS dX12_foreign_69 ⟨hF, rfl⟩
  · refine lpE2_use hF (fun (y6 : Int32) (y7 : Int32) => ∀ (H : Heap) (locs : List Loc) (ls : Array Slot), va_P D vwCl (wld cy ad dsM σ) H → va_D A (wld cy ad dsM σ) → va_S A s.heap H locs → lv_has ls 5 [(0, .ref (ad 0)), (1, .int a1), (2, .int r2), (3, .int y6), (4, .int y7)] → W p l e (rmO 1 24) s m args below meth c H locs 0 0 (MQ below (va_Qi (fun r u => post r ∧ σ = u) (cBk D cy ad dsM A) A) args s 0 0 A) (F0 m 16 ls [])) (fun rec8 hrec8 y6 y7 hF H locs ls hP hD hS hl => ?_) H locs ls hP hD hS (lv_sub hl [3, 4, 2, 1, 0] rfl)
    refine lv_iload hx hb dX12_foreign_16 (lv_at hl 4 rfl) ?_
    refine lv_aload_n hx hb dX12_foreign_18 rfl (lv_at hl 0 rfl) ?_
    refine wi_geti hx hb hg hown hK hP 0 1 rfl rfl cb_12 (by decide) kw_559 dX12_foreign_19 ?_
    refine lv_icmp_ge (tgt := 68) hx hb dX12_foreign_22 (by decide) (fun c9 => ?_) (fun c9 => ?_)
    · have hF := brT hF c9
      exact hJ4 y6 H locs ls hF hP hD hS (lv_sub hl [3] rfl)
    · have hF := brF hF c9
      refine lv_iload_n hx hb dX12_foreign_25 rfl (lv_at hl 3 rfl) ?_
      refine lv_iload_n hx hb dX12_foreign_26 rfl (lv_at hl 2 rfl) ?_
      refine lv_iload hx hb dX12_foreign_27 (lv_at hl 4 rfl) ?_
      refine lv_ishr hx hb dX12_foreign_29 ?_
      refine lv_iconst (v := (1 : Int32)) hx hb dX12_foreign_30 (by decide) ?_
      refine lv_iand hx hb dX12_foreign_31 ?_
      refine lv_iconst (v := (1 : Int32)) hx hb dX12_foreign_32 (by decide) ?_
      refine jn_use hF (fun K => ∀ (y11 : Int32) (H : Heap) (locs : List Loc) (ls : Array Slot), K y11 → va_P D vwCl (wld cy ad dsM σ) H → va_D A (wld cy ad dsM σ) → va_S A s.heap H locs → lv_has ls 5 [(0, .ref (ad 0)), (1, .int a1), (2, .int r2), (4, .int y7)] → W p l e (rmO 1 24) s m args below meth c H locs 0 0 (MQ below (va_Qi (fun r u => post r ∧ σ = u) (cBk D cy ad dsM A) A) args s 0 0 A) (F0 m 60 ls [.int y11, .int y6])) (fun y11 H locs ls hF hP hD hS hl => ?_) (fun J10 hJ10 hF => ?_)
      · refine lv_ior hx hb dX12_foreign_60 ?_
        refine lv_topi (fun x12 ex12 => ?_)
        have hF := hF x12 ex12
        refine lv_istore_n (lv' := [(3, .int x12), (0, .ref (ad 0)), (1, .int a1), (2, .int r2), (4, .int y7)]) hx hb dX12_foreign_61 rfl hl (by decide) rfl (fun ls hl => ?_)
        obtain ⟨x13, ex13⟩ : ∃ z : Int32, z = (y7 + (1 : Int32)) := ⟨_, rfl⟩
        have hF := hF x13 ex13
        refine lv_iinc (v := x13) (lv' := [(4, .int x13), (3, .int x12), (0, .ref (ad 0)), (1, .int a1), (2, .int r2)]) hx hb dX12_foreign_62 hl (k := 4) rfl (by rw [ex13]; rfl) (by decide) rfl (fun ls hl => ?_)
        refine lv_goto (tgt := 16) hx hb dX12_foreign_65 (by decide) ?_
        exact hrec8 x12 x13 hF H locs ls hP hD hS (lv_sub hl [2, 3, 4, 1, 0] rfl)
      · refine jn_use hF (fun K => ∀ (H : Heap) (locs : List Loc) (ls : Array Slot), K → va_P D vwCl (wld cy ad dsM σ) H → va_D A (wld cy ad dsM σ) → va_S A s.heap H locs → lv_has ls 5 [(0, .ref (ad 0)), (1, .int a1), (2, .int r2), (4, .int y7)] → W p l e (rmO 1 24) s m args below meth c H locs 0 0 (MQ below (va_Qi (fun r u => post r ∧ σ = u) (cBk D cy ad dsM A) A) args s 0 0 A) (F0 m 59 ls [.int y6])) (fun H locs ls hF hP hD hS hl => ?_) (fun J14 hJ14 hF => ?_)
        · refine lv_iconst (v := (0 : Int32)) hx hb dX12_foreign_59 (by decide) ?_
          exact hJ10 (0 : Int32) H locs ls hF hP hD hS (lv_sub hl [0, 1, 2, 3] rfl)
        · refine lv_icmp_ne (tgt := 59) hx hb dX12_foreign_33 (by decide) (fun c15 => ?_) (fun c15 => ?_)
          · have hF := brF hF c15
            exact hJ14  H locs ls hF hP hD hS (lv_sub hl [0, 1, 2, 4] rfl)
          · have hF := brT hF c15
            refine lv_aload_n hx hb dX12_foreign_36 rfl (lv_at hl 0 rfl) ?_
            refine wi_getr hx hb hg hown hK hP 0 4 2 rfl rfl cb_12 (by decide) kw_581 dX12_foreign_37 ?_
            refine lv_iload hx hb dX12_foreign_40 (lv_at hl 4 rfl) ?_
            obtain ⟨hin, hF⟩ := hF
            refine wi_iald hx hb hK hP 2 rfl hin dX12_foreign_42 (fun v16 ev16 => ?_)
            have hF := hF v16 ev16
            refine lv_aload_n hx hb dX12_foreign_43 rfl (lv_at hl 0 rfl) ?_
            refine wi_getr hx hb hg hown hK hP 0 4 2 rfl rfl cb_12 (by decide) kw_581 dX12_foreign_44 ?_
            refine lv_iload_n hx hb dX12_foreign_47 rfl (lv_at hl 1 rfl) ?_
            obtain ⟨hin, hF⟩ := hF
            refine wi_iald hx hb hK hP 2 rfl hin dX12_foreign_48 (fun v17 ev17 => ?_)
            have hF := hF v17 ev17
            refine lv_icmp_eq (tgt := 59) hx hb dX12_foreign_49 (by decide) (fun c18 => ?_) (fun c18 => ?_)
            · have hF := brT hF c18
              exact hJ14  H locs ls hF hP hD hS (lv_sub hl [0, 1, 2, 4] rfl)
            · have hF := brF hF c18
              refine lv_iconst (v := (1 : Int32)) hx hb dX12_foreign_52 (by decide) ?_
              refine lv_iload hx hb dX12_foreign_53 (lv_at hl 4 rfl) ?_
              refine lv_ishl hx hb dX12_foreign_55 ?_
              refine lv_goto (tgt := 60) hx hb dX12_foreign_56 (by decide) ?_
              exact hJ10 ((1 : Int32) <<< (y7 &&& 31)) H locs ls hF hP hD hS (lv_sub hl [0, 1, 2, 4] rfl)
def w_X12_isCrossing (σ : St) (a1 : Int32) (post : Int32 → Prop) : Prop := rd (σ.1 1) 24 a1 (fun v1 => br (v1 = (6 : Int32)) (w_X12_foreign σ a1 (fun r3 => br (r3 = (0 : Int32)) (post (0 : Int32)) (post (1 : Int32)))) (post (0 : Int32)))
set_option maxHeartbeats 4000000 in
set_option maxRecDepth 100000 in
theorem c_X12_isCrossing (l : Launch) (D : va_G) (cy : Nat → ClassId) (ad : Nat → Nat) (tL : Nat) (σ : St) (a1 : Int32) (post : Int32 → Prop) (hF : w_X12_isCrossing σ a1 post) : Cti l yX12_isCrossing cX12_isCrossing 2 (some .boolean) 2 48 D cy ad tL dsM σ [.ref (ad 0), .int a1] (fun r u => post r ∧ σ = u) := by
  refine cti_of (by decide) (Nat.le_of_ble_eq_true rfl) ?_
  intro p e s m args below meth c A hx hb hml hr hlk hg hown hA hK H locs hP hD hS hLB ls hl
  have hown : s.vm.findClass RX12 = some m.cls := hown
  have hl : lv_has ls 2 [(0, .ref (ad 0)), (1, .int a1)] := hl
  refine lv_aload_n hx hb dX12_isCrossing_0 rfl (lv_at hl 0 rfl) ?_
  refine wi_getr hx hb hg hown hK hP 0 3 1 rfl rfl cb_12 (by decide) kw_560 dX12_isCrossing_1 ?_
  refine lv_iload_n hx hb dX12_isCrossing_4 rfl (lv_at hl 1 rfl) ?_
  obtain ⟨hin, hF⟩ := hF
  refine wi_iald hx hb hK hP 1 rfl hin dX12_isCrossing_5 (fun v1 ev1 => ?_)
  have hF := hF v1 ev1
  refine lv_bipush (v := (6 : Int32)) hx hb dX12_isCrossing_6 (by decide) ?_
  refine lv_icmp_ne (tgt := 23) hx hb dX12_isCrossing_8 (by decide) (fun c2 => ?_) (fun c2 => ?_)
  · have hF := brF hF c2
    refine lv_iconst (v := (0 : Int32)) hx hb dX12_isCrossing_23 (by decide) ?_
    exact wi_zret hx hb hr hlk hK hP hD hS dX12_isCrossing_24 (by decide) ⟨hF, rfl⟩
  · have hF := brT hF c2
    refine lv_aload_n hx hb dX12_isCrossing_11 rfl (lv_at hl 0 rfl) ?_
    refine lv_iload_n hx hb dX12_isCrossing_12 rfl (lv_at hl 1 rfl) ?_
    refine wi_callVi (k := 0) (As := [.int a1]) (c_X12_foreign l D cy ad tL σ a1 _ hF) vw_RX12_292 rfl cb_12 hx hb hml hown hg hK hP hD hS hA hLB rfl ⟨Nat.le_of_ble_eq_true rfl, Nat.le_of_ble_eq_true rfl⟩ hl.1 rfl (Nat.le_of_ble_eq_true rfl) dX12_isCrossing_13 (fun r3 σ4 hw H locs hP hD hS => ?_)
    obtain ⟨hF, rfl⟩ := hw
    refine lv_if_eq (tgt := 23) hx hb dX12_isCrossing_16 (by decide) (fun c5 => ?_) (fun c5 => ?_)
    · have hF := brT hF c5
      refine lv_iconst (v := (0 : Int32)) hx hb dX12_isCrossing_23 (by decide) ?_
      exact wi_zret hx hb hr hlk hK hP hD hS dX12_isCrossing_24 (by decide) ⟨hF, rfl⟩
    · have hF := brF hF c5
      refine lv_iconst (v := (1 : Int32)) hx hb dX12_isCrossing_19 (by decide) ?_
      refine lv_goto (tgt := 24) hx hb dX12_isCrossing_20 (by decide) ?_
      exact wi_zret hx hb hr hlk hK hP hD hS dX12_isCrossing_24 (by decide) ⟨hF, rfl⟩
def w_X12_crossingAt_L4 (a1 : Int32) (σ : St) (post : Int32 → Prop) (J1 : Prop) (rec4 : Int32 → Int32 → Prop) (y2 : Int32) (y3 : Int32) : Prop := br ((σ.1 0 1) ≤ y3) (J1) (w_X12_isCrossing σ y3 (fun r6 => br (r6 = (0 : Int32)) (nm (y3 + (1 : Int32)) (fun x9 => rec4 y2 x9)) (br (y2 = a1) (post y3) (nm (y2 + (1 : Int32)) (fun x11 => nm (y3 + (1 : Int32)) (fun x12 => rec4 x11 x12))))))
def w_X12_crossingAt (σ : St) (a1 : Int32) (post : Int32 → Prop) : Prop := jn (α := Prop) (post (-1 : Int32)) (fun J1 => lpE2 (w_X12_crossingAt_L4 a1 σ post J1) (0 : Int32) (0 : Int32))
set_option maxHeartbeats 4000000 in
set_option maxRecDepth 100000 in
theorem c_X12_crossingAt (l : Launch) (D : va_G) (cy : Nat → ClassId) (ad : Nat → Nat) (tL : Nat) (σ : St) (a1 : Int32) (post : Int32 → Prop) (hF : w_X12_crossingAt σ a1 post) : Cti l yX12_crossingAt cX12_crossingAt 4 (some .int) 3 69 D cy ad tL dsM σ [.ref (ad 0), .int a1] (fun r u => post r ∧ σ = u) := by
  refine cti_of (by decide) (Nat.le_of_ble_eq_true rfl) ?_
  intro p e s m args below meth c A hx hb hml hr hlk hg hown hA hK H locs hP hD hS hLB ls hl
  have hown : s.vm.findClass RX12 = some m.cls := hown
  have hl : lv_has ls 4 [(0, .ref (ad 0)), (1, .int a1)] := hl
  refine lv_iconst (v := (0 : Int32)) hx hb dX12_crossingAt_0 (by decide) ?_
  refine lv_istore_n (lv' := [(2, .int (0 : Int32)), (0, .ref (ad 0)), (1, .int a1)]) hx hb dX12_crossingAt_1 rfl hl (by decide) rfl (fun ls hl => ?_)
  refine lv_iconst (v := (0 : Int32)) hx hb dX12_crossingAt_2 (by decide) ?_
  refine lv_istore_n (lv' := [(3, .int (0 : Int32)), (2, .int (0 : Int32)), (0, .ref (ad 0)), (1, .int a1)]) hx hb dX12_crossingAt_3 rfl hl (by decide) rfl (fun ls hl => ?_)
  refine jn_use hF (fun K => ∀ (H : Heap) (locs : List Loc) (ls : Array Slot), K → va_P D vwCl (wld cy ad dsM σ) H → va_D A (wld cy ad dsM σ) → va_S A s.heap H locs → lv_has ls 4 [] → W p l e (rmO 3 69) s m args below meth c H locs 0 0 (MQ below (va_Qi (fun r u => post r ∧ σ = u) (cBk D cy ad dsM A) A) args s 0 0 A) (F0 m 36 ls [])) (fun H locs ls hF hP hD hS hl => ?_) (fun J1 hJ1 hF => ?_)
  · refine lv_iconst (v := (-1 : Int32)) hx hb dX12_crossingAt_36 (by decide) ?_
    exact wi_iret hx hb hr hlk hK hP hD hS dX12_crossingAt_37 ⟨hF, rfl⟩
  · refine lpE2_use hF (fun (y2 : Int32) (y3 : Int32) => ∀ (H : Heap) (locs : List Loc) (ls : Array Slot), va_P D vwCl (wld cy ad dsM σ) H → va_D A (wld cy ad dsM σ) → va_S A s.heap H locs → lv_has ls 4 [(0, .ref (ad 0)), (1, .int a1), (2, .int y2), (3, .int y3)] → W p l e (rmO 3 69) s m args below meth c H locs 0 0 (MQ below (va_Qi (fun r u => post r ∧ σ = u) (cBk D cy ad dsM A) A) args s 0 0 A) (F0 m 4 ls [])) (fun rec4 hrec4 y2 y3 hF H locs ls hP hD hS hl => ?_) H locs ls hP hD hS (lv_sub hl [2, 3, 1, 0] rfl)
    refine lv_iload_n hx hb dX12_crossingAt_4 rfl (lv_at hl 3 rfl) ?_
    refine lv_aload_n hx hb dX12_crossingAt_5 rfl (lv_at hl 0 rfl) ?_
    refine wi_geti hx hb hg hown hK hP 0 1 rfl rfl cb_12 (by decide) kw_559 dX12_crossingAt_6 ?_
    refine lv_icmp_ge (tgt := 36) hx hb dX12_crossingAt_9 (by decide) (fun c5 => ?_) (fun c5 => ?_)
    · have hF := brT hF c5
      exact hJ1  H locs ls hF hP hD hS (lv_sub hl [] rfl)
    · have hF := brF hF c5
      refine lv_aload_n hx hb dX12_crossingAt_12 rfl (lv_at hl 0 rfl) ?_
      refine lv_iload_n hx hb dX12_crossingAt_13 rfl (lv_at hl 3 rfl) ?_
      refine wi_callVi (k := 0) (As := [.int y3]) (c_X12_isCrossing l D cy ad tL σ y3 _ hF) vw_RX12_295 rfl cb_12 hx hb hml hown hg hK hP hD hS hA hLB rfl ⟨Nat.le_of_ble_eq_true rfl, Nat.le_of_ble_eq_true rfl⟩ hl.1 rfl (Nat.le_of_ble_eq_true rfl) dX12_crossingAt_14 (fun r6 σ7 hw H locs hP hD hS => ?_)
      obtain ⟨hF, rfl⟩ := hw
      refine lv_if_eq (tgt := 30) hx hb dX12_crossingAt_17 (by decide) (fun c8 => ?_) (fun c8 => ?_)
      · have hF := brT hF c8
        obtain ⟨x9, ex9⟩ : ∃ z : Int32, z = (y3 + (1 : Int32)) := ⟨_, rfl⟩
        have hF := hF x9 ex9
        refine lv_iinc (v := x9) (lv' := [(3, .int x9), (0, .ref (ad 0)), (1, .int a1), (2, .int y2)]) hx hb dX12_crossingAt_30 hl (k := 3) rfl (by rw [ex9]; rfl) (by decide) rfl (fun ls hl => ?_)
        refine lv_goto (tgt := 4) hx hb dX12_crossingAt_33 (by decide) ?_
        exact hrec4 y2 x9 hF H locs ls hP hD hS (lv_sub hl [1, 2, 3, 0] rfl)
      · have hF := brF hF c8
        refine lv_iload_n hx hb dX12_crossingAt_20 rfl (lv_at hl 2 rfl) ?_
        refine lv_iload_n hx hb dX12_crossingAt_21 rfl (lv_at hl 1 rfl) ?_
        refine lv_icmp_ne (tgt := 27) hx hb dX12_crossingAt_22 (by decide) (fun c10 => ?_) (fun c10 => ?_)
        · have hF := brF hF c10
          obtain ⟨x11, ex11⟩ : ∃ z : Int32, z = (y2 + (1 : Int32)) := ⟨_, rfl⟩
          have hF := hF x11 ex11
          refine lv_iinc (v := x11) (lv' := [(2, .int x11), (0, .ref (ad 0)), (1, .int a1), (3, .int y3)]) hx hb dX12_crossingAt_27 hl (k := 2) rfl (by rw [ex11]; rfl) (by decide) rfl (fun ls hl => ?_)
          obtain ⟨x12, ex12⟩ : ∃ z : Int32, z = (y3 + (1 : Int32)) := ⟨_, rfl⟩
          have hF := hF x12 ex12
          refine lv_iinc (v := x12) (lv' := [(3, .int x12), (2, .int x11), (0, .ref (ad 0)), (1, .int a1)]) hx hb dX12_crossingAt_30 hl (k := 3) rfl (by rw [ex12]; rfl) (by decide) rfl (fun ls hl => ?_)
          refine lv_goto (tgt := 4) hx hb dX12_crossingAt_33 (by decide) ?_
          exact hrec4 x11 x12 hF H locs ls hP hD hS (lv_sub hl [2, 3, 1, 0] rfl)
        · have hF := brT hF c10
          refine lv_iload_n hx hb dX12_crossingAt_25 rfl (lv_at hl 3 rfl) ?_
          exact wi_iret hx hb hr hlk hK hP hD hS dX12_crossingAt_26 ⟨hF, rfl⟩
def w_X12_isForeignBit (σ : St) (a1 : Int32) (a2 : Int32) (post : Int32 → Prop) : Prop := br (a1 < (0 : Int32)) (post (0 : Int32)) (rd (σ.1 1) 24 a1 (fun v2 => br (v2 ≤ (4 : Int32)) (post (0 : Int32)) (rd (σ.1 2) 24 a1 (fun v4 => rd (σ.1 2) 24 a2 (fun v5 => br (v4 = v5) (post (0 : Int32)) (post (1 : Int32)))))))
set_option maxHeartbeats 4000000 in
set_option maxRecDepth 100000 in
theorem c_X12_isForeignBit (l : Launch) (D : va_G) (cy : Nat → ClassId) (ad : Nat → Nat) (tL : Nat) (σ : St) (a1 : Int32) (a2 : Int32) (post : Int32 → Prop) (hF : w_X12_isForeignBit σ a1 a2 post) : Cti l yX12_isForeignBit cX12_isForeignBit 3 (some .boolean) 0 0 D cy ad tL dsM σ [.ref (ad 0), .int a1, .int a2] (fun r u => post r ∧ σ = u) := by
  refine cti_of (by decide) (Nat.le_of_ble_eq_true rfl) ?_
  intro p e s m args below meth c A hx hb hml hr hlk hg hown hA hK H locs hP hD hS hLB ls hl
  have hown : s.vm.findClass RX12 = some m.cls := hown
  have hl : lv_has ls 3 [(0, .ref (ad 0)), (1, .int a1), (2, .int a2)] := hl
  refine lv_iload_n hx hb dX12_isForeignBit_0 rfl (lv_at hl 1 rfl) ?_
  refine lv_if_lt (tgt := 33) hx hb dX12_isForeignBit_1 (by decide) (fun c1 => ?_) (fun c1 => ?_)
  · have hF := brT hF c1
    refine lv_iconst (v := (0 : Int32)) hx hb dX12_isForeignBit_33 (by decide) ?_
    exact wi_zret hx hb hr hlk hK hP hD hS dX12_isForeignBit_34 (by decide) ⟨hF, rfl⟩
  · have hF := brF hF c1
    refine lv_aload_n hx hb dX12_isForeignBit_4 rfl (lv_at hl 0 rfl) ?_
    refine wi_getr hx hb hg hown hK hP 0 3 1 rfl rfl cb_12 (by decide) kw_560 dX12_isForeignBit_5 ?_
    refine lv_iload_n hx hb dX12_isForeignBit_8 rfl (lv_at hl 1 rfl) ?_
    obtain ⟨hin, hF⟩ := hF
    refine wi_iald hx hb hK hP 1 rfl hin dX12_isForeignBit_9 (fun v2 ev2 => ?_)
    have hF := hF v2 ev2
    refine lv_iconst (v := (4 : Int32)) hx hb dX12_isForeignBit_10 (by decide) ?_
    refine lv_icmp_le (tgt := 33) hx hb dX12_isForeignBit_11 (by decide) (fun c3 => ?_) (fun c3 => ?_)
    · have hF := brT hF c3
      refine lv_iconst (v := (0 : Int32)) hx hb dX12_isForeignBit_33 (by decide) ?_
      exact wi_zret hx hb hr hlk hK hP hD hS dX12_isForeignBit_34 (by decide) ⟨hF, rfl⟩
    · have hF := brF hF c3
      refine lv_aload_n hx hb dX12_isForeignBit_14 rfl (lv_at hl 0 rfl) ?_
      refine wi_getr hx hb hg hown hK hP 0 4 2 rfl rfl cb_12 (by decide) kw_581 dX12_isForeignBit_15 ?_
      refine lv_iload_n hx hb dX12_isForeignBit_18 rfl (lv_at hl 1 rfl) ?_
      obtain ⟨hin, hF⟩ := hF
      refine wi_iald hx hb hK hP 2 rfl hin dX12_isForeignBit_19 (fun v4 ev4 => ?_)
      have hF := hF v4 ev4
      refine lv_aload_n hx hb dX12_isForeignBit_20 rfl (lv_at hl 0 rfl) ?_
      refine wi_getr hx hb hg hown hK hP 0 4 2 rfl rfl cb_12 (by decide) kw_581 dX12_isForeignBit_21 ?_
      refine lv_iload_n hx hb dX12_isForeignBit_24 rfl (lv_at hl 2 rfl) ?_
      obtain ⟨hin, hF⟩ := hF
      refine wi_iald hx hb hK hP 2 rfl hin dX12_isForeignBit_25 (fun v5 ev5 => ?_)
      have hF := hF v5 ev5
      refine lv_icmp_eq (tgt := 33) hx hb dX12_isForeignBit_26 (by decide) (fun c6 => ?_) (fun c6 => ?_)
      · have hF := brT hF c6
        refine lv_iconst (v := (0 : Int32)) hx hb dX12_isForeignBit_33 (by decide) ?_
        exact wi_zret hx hb hr hlk hK hP hD hS dX12_isForeignBit_34 (by decide) ⟨hF, rfl⟩
      · have hF := brF hF c6
        refine lv_iconst (v := (1 : Int32)) hx hb dX12_isForeignBit_29 (by decide) ?_
        refine lv_goto (tgt := 34) hx hb dX12_isForeignBit_30 (by decide) ?_
        exact wi_zret hx hb hr hlk hK hP hD hS dX12_isForeignBit_34 (by decide) ⟨hF, rfl⟩
def w_X12_isUsedOnce_L7 (a1 : Int32) (σ : St) (J1 : Int32 → Int32 → Prop) (rec9 : Int32 → Int32 → Int32 → Prop) (y6 : Int32) (y7 : Int32) (y8 : Int32) : Prop := br ((σ.1 0 1) ≤ y8) (J1 y6 y7) (rd (σ.1 1) 24 y8 (fun v11 => br ((5 : Int32) ≤ v11) (rd (σ.1 1) 24 y8 (fun v13 => br (v13 = (6 : Int32)) (rd (σ.1 4) 24 y8 (fun v16 => br (v16 = a1) (nm (y6 + (1 : Int32)) (fun x19 => br (y7 = (0 : Int32)) (nm (y8 + (1 : Int32)) (fun x21 => rec9 x19 (0 : Int32) x21)) (br (y8 = a1) (nm (y8 + (1 : Int32)) (fun x23 => rec9 x19 (0 : Int32) x23)) (rd (σ.1 2) 24 y8 (fun v24 => rd (σ.1 2) 24 a1 (fun v25 => br (v24 = v25) (nm (y8 + (1 : Int32)) (fun x28 => rec9 x19 (1 : Int32) x28)) (nm (y8 + (1 : Int32)) (fun x27 => rec9 x19 (0 : Int32) x27)))))))) (nm (y8 + (1 : Int32)) (fun x18 => rec9 y6 y7 x18)))) (nm (y8 + (1 : Int32)) (fun x15 => rec9 y6 y7 x15)))) (br (y7 = (0 : Int32)) (nm (y8 + (1 : Int32)) (fun x30 => rec9 y6 (0 : Int32) x30)) (rd (σ.1 4) 24 y8 (fun v31 => br (v31 = a1) (nm (y8 + (1 : Int32)) (fun x33 => rec9 y6 (0 : Int32) x33)) (rd (σ.1 5) 24 y8 (fun v34 => br (v34 = a1) (nm (y8 + (1 : Int32)) (fun x36 => rec9 y6 (0 : Int32) x36)) (rd (σ.1 6) 24 y8 (fun v37 => br (v37 = a1) (nm (y8 + (1 : Int32)) (fun x39 => rec9 y6 (0 : Int32) x39)) (nm (y8 + (1 : Int32)) (fun x40 => rec9 y6 (1 : Int32) x40)))))))))))
def w_X12_isUsedOnce (σ : St) (a1 : Int32) (post : Int32 → Prop) : Prop := jn (α := Int32 → Int32 → Prop) (fun (y2 : Int32) (y3 : Int32) => br (y3 = (0 : Int32)) (post (0 : Int32)) (br (y2 = (1 : Int32)) (post (1 : Int32)) (post (0 : Int32)))) (fun J1 => lpE3 (w_X12_isUsedOnce_L7 a1 σ J1) (0 : Int32) (1 : Int32) (0 : Int32))
set_option maxHeartbeats 4000000 in
set_option maxRecDepth 100000 in
theorem c_X12_isUsedOnce (l : Launch) (D : va_G) (cy : Nat → ClassId) (ad : Nat → Nat) (tL : Nat) (σ : St) (a1 : Int32) (post : Int32 → Prop) (hF : w_X12_isUsedOnce σ a1 post) : Cti l yX12_isUsedOnce cX12_isUsedOnce 5 (some .boolean) 0 0 D cy ad tL dsM σ [.ref (ad 0), .int a1] (fun r u => post r ∧ σ = u) := by
  refine cti_of (by decide) (Nat.le_of_ble_eq_true rfl) ?_
  intro p e s m args below meth c A hx hb hml hr hlk hg hown hA hK H locs hP hD hS hLB ls hl
  have hown : s.vm.findClass RX12 = some m.cls := hown
  have hl : lv_has ls 5 [(0, .ref (ad 0)), (1, .int a1)] := hl
  refine lv_iconst (v := (0 : Int32)) hx hb dX12_isUsedOnce_0 (by decide) ?_
  refine lv_istore_n (lv' := [(2, .int (0 : Int32)), (0, .ref (ad 0)), (1, .int a1)]) hx hb dX12_isUsedOnce_1 rfl hl (by decide) rfl (fun ls hl => ?_)
  refine lv_iconst (v := (1 : Int32)) hx hb dX12_isUsedOnce_2 (by decide) ?_
  refine lv_istore_n (lv' := [(3, .int (1 : Int32)), (2, .int (0 : Int32)), (0, .ref (ad 0)), (1, .int a1)]) hx hb dX12_isUsedOnce_3 rfl hl (by decide) rfl (fun ls hl => ?_)
  refine lv_iconst (v := (0 : Int32)) hx hb dX12_isUsedOnce_4 (by decide) ?_
  refine lv_istore (lv' := [(4, .int (0 : Int32)), (3, .int (1 : Int32)), (2, .int (0 : Int32)), (0, .ref (ad 0)), (1, .int a1)]) hx hb dX12_isUsedOnce_5 hl (by decide) rfl (fun ls hl => ?_)
  refine jn_use hF (fun K => ∀ (y2 : Int32) (y3 : Int32) (H : Heap) (locs : List Loc) (ls : Array Slot), K y2 y3 → va_P D vwCl (wld cy ad dsM σ) H → va_D A (wld cy ad dsM σ) → va_S A s.heap H locs → lv_has ls 5 [(2, .int y2), (3, .int y3)] → W p l e (rmO 0 0) s m args below meth c H locs 0 0 (MQ below (va_Qi (fun r u => post r ∧ σ = u) (cBk D cy ad dsM A) A) args s 0 0 A) (F0 m 137 ls [])) (fun y2 y3 H locs ls hF hP hD hS hl => ?_) (fun J1 hJ1 hF => ?_)
  · refine lv_iload_n hx hb dX12_isUsedOnce_137 rfl (lv_at hl 1 rfl) ?_
    refine lv_if_eq (tgt := 150) hx hb dX12_isUsedOnce_138 (by decide) (fun c4 => ?_) (fun c4 => ?_)
    · have hF := brT hF c4
      refine lv_iconst (v := (0 : Int32)) hx hb dX12_isUsedOnce_150 (by decide) ?_
      exact wi_zret hx hb hr hlk hK hP hD hS dX12_isUsedOnce_151 (by decide) ⟨hF, rfl⟩
    · have hF := brF hF c4
      refine lv_iload_n hx hb dX12_isUsedOnce_141 rfl (lv_at hl 0 rfl) ?_
      refine lv_iconst (v := (1 : Int32)) hx hb dX12_isUsedOnce_142 (by decide) ?_
      refine lv_icmp_ne (tgt := 150) hx hb dX12_isUsedOnce_143 (by decide) (fun c5 => ?_) (fun c5 => ?_)
      · have hF := brF hF c5
        refine lv_iconst (v := (0 : Int32)) hx hb dX12_isUsedOnce_150 (by decide) ?_
        exact wi_zret hx hb hr hlk hK hP hD hS dX12_isUsedOnce_151 (by decide) ⟨hF, rfl⟩
      · have hF := brT hF c5
        refine lv_iconst (v := (1 : Int32)) hx hb dX12_isUsedOnce_146 (by decide) ?_
        refine lv_goto (tgt := 151) hx hb dX12_isUsedOnce_147 (by decide) ?_
        exact wi_zret hx hb hr hlk hK hP hD hS dX12_isUsedOnce_151 (by decide) ⟨hF, rfl⟩
  · refine lpE3_use hF (fun (y6 : Int32) (y7 : Int32) (y8 : Int32) => ∀ (H : Heap) (locs : List Loc) (ls : Array Slot), va_P D vwCl (wld cy ad dsM σ) H → va_D A (wld cy ad dsM σ) → va_S A s.heap H locs → lv_has ls 5 [(0, .ref (ad 0)), (1, .int a1), (2, .int y6), (3, .int y7), (4, .int y8)] → W p l e (rmO 0 0) s m args below meth c H locs 0 0 (MQ below (va_Qi (fun r u => post r ∧ σ = u) (cBk D cy ad dsM A) A) args s 0 0 A) (F0 m 7 ls [])) (fun rec9 hrec9 y6 y7 y8 hF H locs ls hP hD hS hl => ?_) H locs ls hP hD hS (lv_sub hl [3, 4, 2, 1, 0] rfl)
    refine lv_iload hx hb dX12_isUsedOnce_7 (lv_at hl 4 rfl) ?_
    refine lv_aload_n hx hb dX12_isUsedOnce_9 rfl (lv_at hl 0 rfl) ?_
    refine wi_geti hx hb hg hown hK hP 0 1 rfl rfl cb_12 (by decide) kw_559 dX12_isUsedOnce_10 ?_
    refine lv_icmp_ge (tgt := 137) hx hb dX12_isUsedOnce_13 (by decide) (fun c10 => ?_) (fun c10 => ?_)
    · have hF := brT hF c10
      exact hJ1 y6 y7 H locs ls hF hP hD hS (lv_sub hl [2, 3] rfl)
    · have hF := brF hF c10
      refine lv_aload_n hx hb dX12_isUsedOnce_16 rfl (lv_at hl 0 rfl) ?_
      refine wi_getr hx hb hg hown hK hP 0 3 1 rfl rfl cb_12 (by decide) kw_560 dX12_isUsedOnce_17 ?_
      refine lv_iload hx hb dX12_isUsedOnce_20 (lv_at hl 4 rfl) ?_
      obtain ⟨hin, hF⟩ := hF
      refine wi_iald hx hb hK hP 1 rfl hin dX12_isUsedOnce_22 (fun v11 ev11 => ?_)
      have hF := hF v11 ev11
      refine lv_iconst (v := (5 : Int32)) hx hb dX12_isUsedOnce_23 (by decide) ?_
      refine lv_icmp_ge (tgt := 73) hx hb dX12_isUsedOnce_24 (by decide) (fun c12 => ?_) (fun c12 => ?_)
      · have hF := brT hF c12
        refine lv_aload_n hx hb dX12_isUsedOnce_73 rfl (lv_at hl 0 rfl) ?_
        refine wi_getr hx hb hg hown hK hP 0 3 1 rfl rfl cb_12 (by decide) kw_560 dX12_isUsedOnce_74 ?_
        refine lv_iload hx hb dX12_isUsedOnce_77 (lv_at hl 4 rfl) ?_
        obtain ⟨hin, hF⟩ := hF
        refine wi_iald hx hb hK hP 1 rfl hin dX12_isUsedOnce_79 (fun v13 ev13 => ?_)
        have hF := hF v13 ev13
        refine lv_bipush (v := (6 : Int32)) hx hb dX12_isUsedOnce_80 (by decide) ?_
        refine lv_icmp_ne (tgt := 131) hx hb dX12_isUsedOnce_82 (by decide) (fun c14 => ?_) (fun c14 => ?_)
        · have hF := brF hF c14
          obtain ⟨x15, ex15⟩ : ∃ z : Int32, z = (y8 + (1 : Int32)) := ⟨_, rfl⟩
          have hF := hF x15 ex15
          refine lv_iinc (v := x15) (lv' := [(4, .int x15), (0, .ref (ad 0)), (1, .int a1), (2, .int y6), (3, .int y7)]) hx hb dX12_isUsedOnce_131 hl (k := 4) rfl (by rw [ex15]; rfl) (by decide) rfl (fun ls hl => ?_)
          refine lv_goto (tgt := 7) hx hb dX12_isUsedOnce_134 (by decide) ?_
          exact hrec9 y6 y7 x15 hF H locs ls hP hD hS (lv_sub hl [1, 2, 3, 4, 0] rfl)
        · have hF := brT hF c14
          refine lv_aload_n hx hb dX12_isUsedOnce_85 rfl (lv_at hl 0 rfl) ?_
          refine wi_getr hx hb hg hown hK hP 0 6 4 rfl rfl cb_12 (by decide) kw_561 dX12_isUsedOnce_86 ?_
          refine lv_iload hx hb dX12_isUsedOnce_89 (lv_at hl 4 rfl) ?_
          obtain ⟨hin, hF⟩ := hF
          refine wi_iald hx hb hK hP 4 rfl hin dX12_isUsedOnce_91 (fun v16 ev16 => ?_)
          have hF := hF v16 ev16
          refine lv_iload_n hx hb dX12_isUsedOnce_92 rfl (lv_at hl 1 rfl) ?_
          refine lv_icmp_ne (tgt := 131) hx hb dX12_isUsedOnce_93 (by decide) (fun c17 => ?_) (fun c17 => ?_)
          · have hF := brF hF c17
            obtain ⟨x18, ex18⟩ : ∃ z : Int32, z = (y8 + (1 : Int32)) := ⟨_, rfl⟩
            have hF := hF x18 ex18
            refine lv_iinc (v := x18) (lv' := [(4, .int x18), (0, .ref (ad 0)), (1, .int a1), (2, .int y6), (3, .int y7)]) hx hb dX12_isUsedOnce_131 hl (k := 4) rfl (by rw [ex18]; rfl) (by decide) rfl (fun ls hl => ?_)
            refine lv_goto (tgt := 7) hx hb dX12_isUsedOnce_134 (by decide) ?_
            exact hrec9 y6 y7 x18 hF H locs ls hP hD hS (lv_sub hl [1, 2, 3, 4, 0] rfl)
          · have hF := brT hF c17
            obtain ⟨x19, ex19⟩ : ∃ z : Int32, z = (y6 + (1 : Int32)) := ⟨_, rfl⟩
            have hF := hF x19 ex19
            refine lv_iinc (v := x19) (lv' := [(2, .int x19), (0, .ref (ad 0)), (1, .int a1), (3, .int y7), (4, .int y8)]) hx hb dX12_isUsedOnce_96 hl (k := 2) rfl (by rw [ex19]; rfl) (by decide) rfl (fun ls hl => ?_)
            refine lv_iload_n hx hb dX12_isUsedOnce_99 rfl (lv_at hl 3 rfl) ?_
            refine lv_if_eq (tgt := 129) hx hb dX12_isUsedOnce_100 (by decide) (fun c20 => ?_) (fun c20 => ?_)
            · have hF := brT hF c20
              refine lv_iconst (v := (0 : Int32)) hx hb dX12_isUsedOnce_129 (by decide) ?_
              refine lv_istore_n (lv' := [(3, .int (0 : Int32)), (2, .int x19), (0, .ref (ad 0)), (1, .int a1), (4, .int y8)]) hx hb dX12_isUsedOnce_130 rfl hl (by decide) rfl (fun ls hl => ?_)
              obtain ⟨x21, ex21⟩ : ∃ z : Int32, z = (y8 + (1 : Int32)) := ⟨_, rfl⟩
              have hF := hF x21 ex21
              refine lv_iinc (v := x21) (lv' := [(4, .int x21), (3, .int (0 : Int32)), (2, .int x19), (0, .ref (ad 0)), (1, .int a1)]) hx hb dX12_isUsedOnce_131 hl (k := 4) rfl (by rw [ex21]; rfl) (by decide) rfl (fun ls hl => ?_)
              refine lv_goto (tgt := 7) hx hb dX12_isUsedOnce_134 (by decide) ?_
              exact hrec9 x19 (0 : Int32) x21 hF H locs ls hP hD hS (lv_sub hl [3, 4, 2, 1, 0] rfl)
            · have hF := brF hF c20
              refine lv_iload hx hb dX12_isUsedOnce_103 (lv_at hl 4 rfl) ?_
              refine lv_iload_n hx hb dX12_isUsedOnce_105 rfl (lv_at hl 2 rfl) ?_
              refine lv_icmp_eq (tgt := 129) hx hb dX12_isUsedOnce_106 (by decide) (fun c22 => ?_) (fun c22 => ?_)
              · have hF := brT hF c22
                refine lv_iconst (v := (0 : Int32)) hx hb dX12_isUsedOnce_129 (by decide) ?_
                refine lv_istore_n (lv' := [(3, .int (0 : Int32)), (2, .int x19), (0, .ref (ad 0)), (1, .int a1), (4, .int y8)]) hx hb dX12_isUsedOnce_130 rfl hl (by decide) rfl (fun ls hl => ?_)
                obtain ⟨x23, ex23⟩ : ∃ z : Int32, z = (y8 + (1 : Int32)) := ⟨_, rfl⟩
                have hF := hF x23 ex23
                refine lv_iinc (v := x23) (lv' := [(4, .int x23), (3, .int (0 : Int32)), (2, .int x19), (0, .ref (ad 0)), (1, .int a1)]) hx hb dX12_isUsedOnce_131 hl (k := 4) rfl (by rw [ex23]; rfl) (by decide) rfl (fun ls hl => ?_)
                refine lv_goto (tgt := 7) hx hb dX12_isUsedOnce_134 (by decide) ?_
                exact hrec9 x19 (0 : Int32) x23 hF H locs ls hP hD hS (lv_sub hl [3, 4, 2, 1, 0] rfl)
              · have hF := brF hF c22
                refine lv_aload_n hx hb dX12_isUsedOnce_109 rfl (lv_at hl 1 rfl) ?_
                refine wi_getr hx hb hg hown hK hP 0 4 2 rfl rfl cb_12 (by decide) kw_581 dX12_isUsedOnce_110 ?_
                refine lv_iload hx hb dX12_isUsedOnce_113 (lv_at hl 4 rfl) ?_
                obtain ⟨hin, hF⟩ := hF
                refine wi_iald hx hb hK hP 2 rfl hin dX12_isUsedOnce_115 (fun v24 ev24 => ?_)
                have hF := hF v24 ev24
                refine lv_aload_n hx hb dX12_isUsedOnce_116 rfl (lv_at hl 1 rfl) ?_
                refine wi_getr hx hb hg hown hK hP 0 4 2 rfl rfl cb_12 (by decide) kw_581 dX12_isUsedOnce_117 ?_
                refine lv_iload_n hx hb dX12_isUsedOnce_120 rfl (lv_at hl 2 rfl) ?_
                obtain ⟨hin, hF⟩ := hF
                refine wi_iald hx hb hK hP 2 rfl hin dX12_isUsedOnce_121 (fun v25 ev25 => ?_)
                have hF := hF v25 ev25
                refine lv_icmp_ne (tgt := 129) hx hb dX12_isUsedOnce_122 (by decide) (fun c26 => ?_) (fun c26 => ?_)
                · have hF := brF hF c26
                  refine lv_iconst (v := (0 : Int32)) hx hb dX12_isUsedOnce_129 (by decide) ?_
                  refine lv_istore_n (lv' := [(3, .int (0 : Int32)), (2, .int x19), (0, .ref (ad 0)), (1, .int a1), (4, .int y8)]) hx hb dX12_isUsedOnce_130 rfl hl (by decide) rfl (fun ls hl => ?_)
                  obtain ⟨x27, ex27⟩ : ∃ z : Int32, z = (y8 + (1 : Int32)) := ⟨_, rfl⟩
                  have hF := hF x27 ex27
                  refine lv_iinc (v := x27) (lv' := [(4, .int x27), (3, .int (0 : Int32)), (2, .int x19), (0, .ref (ad 0)), (1, .int a1)]) hx hb dX12_isUsedOnce_131 hl (k := 4) rfl (by rw [ex27]; rfl) (by decide) rfl (fun ls hl => ?_)
                  refine lv_goto (tgt := 7) hx hb dX12_isUsedOnce_134 (by decide) ?_
                  exact hrec9 x19 (0 : Int32) x27 hF H locs ls hP hD hS (lv_sub hl [3, 4, 2, 1, 0] rfl)
                · have hF := brT hF c26
                  refine lv_iconst (v := (1 : Int32)) hx hb dX12_isUsedOnce_125 (by decide) ?_
                  refine lv_goto (tgt := 130) hx hb dX12_isUsedOnce_126 (by decide) ?_
                  refine lv_istore_n (lv' := [(3, .int (1 : Int32)), (2, .int x19), (0, .ref (ad 0)), (1, .int a1), (4, .int y8)]) hx hb dX12_isUsedOnce_130 rfl hl (by decide) rfl (fun ls hl => ?_)
                  obtain ⟨x28, ex28⟩ : ∃ z : Int32, z = (y8 + (1 : Int32)) := ⟨_, rfl⟩
                  have hF := hF x28 ex28
                  refine lv_iinc (v := x28) (lv' := [(4, .int x28), (3, .int (1 : Int32)), (2, .int x19), (0, .ref (ad 0)), (1, .int a1)]) hx hb dX12_isUsedOnce_131 hl (k := 4) rfl (by rw [ex28]; rfl) (by decide) rfl (fun ls hl => ?_)
                  refine lv_goto (tgt := 7) hx hb dX12_isUsedOnce_134 (by decide) ?_
                  exact hrec9 x19 (1 : Int32) x28 hF H locs ls hP hD hS (lv_sub hl [3, 4, 2, 1, 0] rfl)
      · have hF := brF hF c12
        refine lv_iload_n hx hb dX12_isUsedOnce_27 rfl (lv_at hl 3 rfl) ?_
        refine lv_if_eq (tgt := 68) hx hb dX12_isUsedOnce_28 (by decide) (fun c29 => ?_) (fun c29 => ?_)
        · have hF := brT hF c29
          refine lv_iconst (v := (0 : Int32)) hx hb dX12_isUsedOnce_68 (by decide) ?_
          refine lv_istore_n (lv' := [(3, .int (0 : Int32)), (0, .ref (ad 0)), (1, .int a1), (2, .int y6), (4, .int y8)]) hx hb dX12_isUsedOnce_69 rfl hl (by decide) rfl (fun ls hl => ?_)
          refine lv_goto (tgt := 131) hx hb dX12_isUsedOnce_70 (by decide) ?_
          obtain ⟨x30, ex30⟩ : ∃ z : Int32, z = (y8 + (1 : Int32)) := ⟨_, rfl⟩
          have hF := hF x30 ex30
          refine lv_iinc (v := x30) (lv' := [(4, .int x30), (3, .int (0 : Int32)), (0, .ref (ad 0)), (1, .int a1), (2, .int y6)]) hx hb dX12_isUsedOnce_131 hl (k := 4) rfl (by rw [ex30]; rfl) (by decide) rfl (fun ls hl => ?_)
          refine lv_goto (tgt := 7) hx hb dX12_isUsedOnce_134 (by decide) ?_
          exact hrec9 y6 (0 : Int32) x30 hF H locs ls hP hD hS (lv_sub hl [2, 3, 4, 1, 0] rfl)
        · have hF := brF hF c29
          refine lv_aload_n hx hb dX12_isUsedOnce_31 rfl (lv_at hl 0 rfl) ?_
          refine wi_getr hx hb hg hown hK hP 0 6 4 rfl rfl cb_12 (by decide) kw_561 dX12_isUsedOnce_32 ?_
          refine lv_iload hx hb dX12_isUsedOnce_35 (lv_at hl 4 rfl) ?_
          obtain ⟨hin, hF⟩ := hF
          refine wi_iald hx hb hK hP 4 rfl hin dX12_isUsedOnce_37 (fun v31 ev31 => ?_)
          have hF := hF v31 ev31
          refine lv_iload_n hx hb dX12_isUsedOnce_38 rfl (lv_at hl 1 rfl) ?_
          refine lv_icmp_eq (tgt := 68) hx hb dX12_isUsedOnce_39 (by decide) (fun c32 => ?_) (fun c32 => ?_)
          · have hF := brT hF c32
            refine lv_iconst (v := (0 : Int32)) hx hb dX12_isUsedOnce_68 (by decide) ?_
            refine lv_istore_n (lv' := [(3, .int (0 : Int32)), (0, .ref (ad 0)), (1, .int a1), (2, .int y6), (4, .int y8)]) hx hb dX12_isUsedOnce_69 rfl hl (by decide) rfl (fun ls hl => ?_)
            refine lv_goto (tgt := 131) hx hb dX12_isUsedOnce_70 (by decide) ?_
            obtain ⟨x33, ex33⟩ : ∃ z : Int32, z = (y8 + (1 : Int32)) := ⟨_, rfl⟩
            have hF := hF x33 ex33
            refine lv_iinc (v := x33) (lv' := [(4, .int x33), (3, .int (0 : Int32)), (0, .ref (ad 0)), (1, .int a1), (2, .int y6)]) hx hb dX12_isUsedOnce_131 hl (k := 4) rfl (by rw [ex33]; rfl) (by decide) rfl (fun ls hl => ?_)
            refine lv_goto (tgt := 7) hx hb dX12_isUsedOnce_134 (by decide) ?_
            exact hrec9 y6 (0 : Int32) x33 hF H locs ls hP hD hS (lv_sub hl [2, 3, 4, 1, 0] rfl)
          · have hF := brF hF c32
            refine lv_aload_n hx hb dX12_isUsedOnce_42 rfl (lv_at hl 0 rfl) ?_
            refine wi_getr hx hb hg hown hK hP 0 7 5 rfl rfl cb_12 (by decide) kw_562 dX12_isUsedOnce_43 ?_
            refine lv_iload hx hb dX12_isUsedOnce_46 (lv_at hl 4 rfl) ?_
            obtain ⟨hin, hF⟩ := hF
            refine wi_iald hx hb hK hP 5 rfl hin dX12_isUsedOnce_48 (fun v34 ev34 => ?_)
            have hF := hF v34 ev34
            refine lv_iload_n hx hb dX12_isUsedOnce_49 rfl (lv_at hl 1 rfl) ?_
            refine lv_icmp_eq (tgt := 68) hx hb dX12_isUsedOnce_50 (by decide) (fun c35 => ?_) (fun c35 => ?_)
            · have hF := brT hF c35
              refine lv_iconst (v := (0 : Int32)) hx hb dX12_isUsedOnce_68 (by decide) ?_
              refine lv_istore_n (lv' := [(3, .int (0 : Int32)), (0, .ref (ad 0)), (1, .int a1), (2, .int y6), (4, .int y8)]) hx hb dX12_isUsedOnce_69 rfl hl (by decide) rfl (fun ls hl => ?_)
              refine lv_goto (tgt := 131) hx hb dX12_isUsedOnce_70 (by decide) ?_
              obtain ⟨x36, ex36⟩ : ∃ z : Int32, z = (y8 + (1 : Int32)) := ⟨_, rfl⟩
              have hF := hF x36 ex36
              refine lv_iinc (v := x36) (lv' := [(4, .int x36), (3, .int (0 : Int32)), (0, .ref (ad 0)), (1, .int a1), (2, .int y6)]) hx hb dX12_isUsedOnce_131 hl (k := 4) rfl (by rw [ex36]; rfl) (by decide) rfl (fun ls hl => ?_)
              refine lv_goto (tgt := 7) hx hb dX12_isUsedOnce_134 (by decide) ?_
              exact hrec9 y6 (0 : Int32) x36 hF H locs ls hP hD hS (lv_sub hl [2, 3, 4, 1, 0] rfl)
            · have hF := brF hF c35
              refine lv_aload_n hx hb dX12_isUsedOnce_53 rfl (lv_at hl 0 rfl) ?_
              refine wi_getr hx hb hg hown hK hP 0 8 6 rfl rfl cb_12 (by decide) kw_563 dX12_isUsedOnce_54 ?_
              refine lv_iload hx hb dX12_isUsedOnce_57 (lv_at hl 4 rfl) ?_
              obtain ⟨hin, hF⟩ := hF
              refine wi_iald hx hb hK hP 6 rfl hin dX12_isUsedOnce_59 (fun v37 ev37 => ?_)
              have hF := hF v37 ev37
              refine lv_iload_n hx hb dX12_isUsedOnce_60 rfl (lv_at hl 1 rfl) ?_
              refine lv_icmp_eq (tgt := 68) hx hb dX12_isUsedOnce_61 (by decide) (fun c38 => ?_) (fun c38 => ?_)
              · have hF := brT hF c38
                refine lv_iconst (v := (0 : Int32)) hx hb dX12_isUsedOnce_68 (by decide) ?_
                refine lv_istore_n (lv' := [(3, .int (0 : Int32)), (0, .ref (ad 0)), (1, .int a1), (2, .int y6), (4, .int y8)]) hx hb dX12_isUsedOnce_69 rfl hl (by decide) rfl (fun ls hl => ?_)
                refine lv_goto (tgt := 131) hx hb dX12_isUsedOnce_70 (by decide) ?_
                obtain ⟨x39, ex39⟩ : ∃ z : Int32, z = (y8 + (1 : Int32)) := ⟨_, rfl⟩
                have hF := hF x39 ex39
                refine lv_iinc (v := x39) (lv' := [(4, .int x39), (3, .int (0 : Int32)), (0, .ref (ad 0)), (1, .int a1), (2, .int y6)]) hx hb dX12_isUsedOnce_131 hl (k := 4) rfl (by rw [ex39]; rfl) (by decide) rfl (fun ls hl => ?_)
                refine lv_goto (tgt := 7) hx hb dX12_isUsedOnce_134 (by decide) ?_
                exact hrec9 y6 (0 : Int32) x39 hF H locs ls hP hD hS (lv_sub hl [2, 3, 4, 1, 0] rfl)
              · have hF := brF hF c38
                refine lv_iconst (v := (1 : Int32)) hx hb dX12_isUsedOnce_64 (by decide) ?_
                refine lv_goto (tgt := 69) hx hb dX12_isUsedOnce_65 (by decide) ?_
                refine lv_istore_n (lv' := [(3, .int (1 : Int32)), (0, .ref (ad 0)), (1, .int a1), (2, .int y6), (4, .int y8)]) hx hb dX12_isUsedOnce_69 rfl hl (by decide) rfl (fun ls hl => ?_)
                refine lv_goto (tgt := 131) hx hb dX12_isUsedOnce_70 (by decide) ?_
                obtain ⟨x40, ex40⟩ : ∃ z : Int32, z = (y8 + (1 : Int32)) := ⟨_, rfl⟩
                have hF := hF x40 ex40
                refine lv_iinc (v := x40) (lv' := [(4, .int x40), (3, .int (1 : Int32)), (0, .ref (ad 0)), (1, .int a1), (2, .int y6)]) hx hb dX12_isUsedOnce_131 hl (k := 4) rfl (by rw [ex40]; rfl) (by decide) rfl (fun ls hl => ?_)
                refine lv_goto (tgt := 7) hx hb dX12_isUsedOnce_134 (by decide) ?_
                exact hrec9 y6 (1 : Int32) x40 hF H locs ls hP hD hS (lv_sub hl [2, 3, 4, 1, 0] rfl)
def w_X12_allStill_L4 (a1 : Int32) (σ : St) (J1 : Int32 → Prop) (rec5 : Int32 → Int32 → Prop) (y3 : Int32) (y4 : Int32) : Prop := br ((σ.1 0 1) ≤ y4) (J1 y3) (br (y3 = (0 : Int32)) (nm (y4 + (1 : Int32)) (fun x8 => rec5 (0 : Int32) x8)) (br (((a1 >>> (y4 &&& 31)) &&& (1 : Int32)) = (0 : Int32)) (nm (y4 + (1 : Int32)) (fun x10 => rec5 (1 : Int32) x10)) (rd (σ.1 7) 24 y4 (fun v11 => br (v11 = (0 : Int32)) (nm (y4 + (1 : Int32)) (fun x13 => rec5 (0 : Int32) x13)) (nm (y4 + (1 : Int32)) (fun x14 => rec5 (1 : Int32) x14))))))
def w_X12_allStill (σ : St) (a1 : Int32) (post : Int32 → Prop) : Prop := jn (α := Int32 → Prop) (fun (y2 : Int32) => bl y2 (post y2)) (fun J1 => lpE2 (w_X12_allStill_L4 a1 σ J1) (1 : Int32) (0 : Int32))
set_option maxHeartbeats 4000000 in
set_option maxRecDepth 100000 in
theorem c_X12_allStill (l : Launch) (D : va_G) (cy : Nat → ClassId) (ad : Nat → Nat) (tL : Nat) (σ : St) (a1 : Int32) (post : Int32 → Prop) (hF : w_X12_allStill σ a1 post) : Cti l yX12_allStill cX12_allStill 4 (some .boolean) 0 0 D cy ad tL dsM σ [.ref (ad 0), .int a1] (fun r u => post r ∧ σ = u) := by
  refine cti_of (by decide) (Nat.le_of_ble_eq_true rfl) ?_
  intro p e s m args below meth c A hx hb hml hr hlk hg hown hA hK H locs hP hD hS hLB ls hl
  have hown : s.vm.findClass RX12 = some m.cls := hown
  have hl : lv_has ls 4 [(0, .ref (ad 0)), (1, .int a1)] := hl
  refine lv_iconst (v := (1 : Int32)) hx hb dX12_allStill_0 (by decide) ?_
  refine lv_istore_n (lv' := [(2, .int (1 : Int32)), (0, .ref (ad 0)), (1, .int a1)]) hx hb dX12_allStill_1 rfl hl (by decide) rfl (fun ls hl => ?_)
  refine lv_iconst (v := (0 : Int32)) hx hb dX12_allStill_2 (by decide) ?_
  refine lv_istore_n (lv' := [(3, .int (0 : Int32)), (2, .int (1 : Int32)), (0, .ref (ad 0)), (1, .int a1)]) hx hb dX12_allStill_3 rfl hl (by decide) rfl (fun ls hl => ?_)
  refine jn_use hF (fun K => ∀ (y2 : Int32) (H : Heap) (locs : List Loc) (ls : Array Slot), K y2 → va_P D vwCl (wld cy ad dsM σ) H → va_D A (wld cy ad dsM σ) → va_S A s.heap H locs → lv_has ls 4 [(2, .int y2)] → W p l e (rmO 0 0) s m args below meth c H locs 0 0 (MQ below (va_Qi (fun r u => post r ∧ σ = u) (cBk D cy ad dsM A) A) args s 0 0 A) (F0 m 45 ls [])) (fun y2 H locs ls hF hP hD hS hl => ?_) (fun J1 hJ1 hF => ?_)
  · refine lv_iload_n hx hb dX12_allStill_45 rfl (lv_at hl 0 rfl) ?_
    obtain ⟨hbl, hF⟩ := hF
    exact wi_zret hx hb hr hlk hK hP hD hS dX12_allStill_46 hbl ⟨hF, rfl⟩
  · refine lpE2_use hF (fun (y3 : Int32) (y4 : Int32) => ∀ (H : Heap) (locs : List Loc) (ls : Array Slot), va_P D vwCl (wld cy ad dsM σ) H → va_D A (wld cy ad dsM σ) → va_S A s.heap H locs → lv_has ls 4 [(0, .ref (ad 0)), (1, .int a1), (2, .int y3), (3, .int y4)] → W p l e (rmO 0 0) s m args below meth c H locs 0 0 (MQ below (va_Qi (fun r u => post r ∧ σ = u) (cBk D cy ad dsM A) A) args s 0 0 A) (F0 m 4 ls [])) (fun rec5 hrec5 y3 y4 hF H locs ls hP hD hS hl => ?_) H locs ls hP hD hS (lv_sub hl [2, 3, 1, 0] rfl)
    refine lv_iload_n hx hb dX12_allStill_4 rfl (lv_at hl 3 rfl) ?_
    refine lv_aload_n hx hb dX12_allStill_5 rfl (lv_at hl 0 rfl) ?_
    refine wi_geti hx hb hg hown hK hP 0 1 rfl rfl cb_12 (by decide) kw_559 dX12_allStill_6 ?_
    refine lv_icmp_ge (tgt := 45) hx hb dX12_allStill_9 (by decide) (fun c6 => ?_) (fun c6 => ?_)
    · have hF := brT hF c6
      exact hJ1 y3 H locs ls hF hP hD hS (lv_sub hl [2] rfl)
    · have hF := brF hF c6
      refine lv_iload_n hx hb dX12_allStill_12 rfl (lv_at hl 2 rfl) ?_
      refine lv_if_eq (tgt := 37) hx hb dX12_allStill_13 (by decide) (fun c7 => ?_) (fun c7 => ?_)
      · have hF := brT hF c7
        refine lv_iconst (v := (0 : Int32)) hx hb dX12_allStill_37 (by decide) ?_
        refine lv_istore_n (lv' := [(2, .int (0 : Int32)), (0, .ref (ad 0)), (1, .int a1), (3, .int y4)]) hx hb dX12_allStill_38 rfl hl (by decide) rfl (fun ls hl => ?_)
        obtain ⟨x8, ex8⟩ : ∃ z : Int32, z = (y4 + (1 : Int32)) := ⟨_, rfl⟩
        have hF := hF x8 ex8
        refine lv_iinc (v := x8) (lv' := [(3, .int x8), (2, .int (0 : Int32)), (0, .ref (ad 0)), (1, .int a1)]) hx hb dX12_allStill_39 hl (k := 3) rfl (by rw [ex8]; rfl) (by decide) rfl (fun ls hl => ?_)
        refine lv_goto (tgt := 4) hx hb dX12_allStill_42 (by decide) ?_
        exact hrec5 (0 : Int32) x8 hF H locs ls hP hD hS (lv_sub hl [2, 3, 1, 0] rfl)
      · have hF := brF hF c7
        refine lv_iload_n hx hb dX12_allStill_16 rfl (lv_at hl 1 rfl) ?_
        refine lv_iload_n hx hb dX12_allStill_17 rfl (lv_at hl 3 rfl) ?_
        refine lv_ishr hx hb dX12_allStill_18 ?_
        refine lv_iconst (v := (1 : Int32)) hx hb dX12_allStill_19 (by decide) ?_
        refine lv_iand hx hb dX12_allStill_20 ?_
        refine lv_if_eq (tgt := 33) hx hb dX12_allStill_21 (by decide) (fun c9 => ?_) (fun c9 => ?_)
        · have hF := brT hF c9
          refine lv_iconst (v := (1 : Int32)) hx hb dX12_allStill_33 (by decide) ?_
          refine lv_goto (tgt := 38) hx hb dX12_allStill_34 (by decide) ?_
          refine lv_istore_n (lv' := [(2, .int (1 : Int32)), (0, .ref (ad 0)), (1, .int a1), (3, .int y4)]) hx hb dX12_allStill_38 rfl hl (by decide) rfl (fun ls hl => ?_)
          obtain ⟨x10, ex10⟩ : ∃ z : Int32, z = (y4 + (1 : Int32)) := ⟨_, rfl⟩
          have hF := hF x10 ex10
          refine lv_iinc (v := x10) (lv' := [(3, .int x10), (2, .int (1 : Int32)), (0, .ref (ad 0)), (1, .int a1)]) hx hb dX12_allStill_39 hl (k := 3) rfl (by rw [ex10]; rfl) (by decide) rfl (fun ls hl => ?_)
          refine lv_goto (tgt := 4) hx hb dX12_allStill_42 (by decide) ?_
          exact hrec5 (1 : Int32) x10 hF H locs ls hP hD hS (lv_sub hl [2, 3, 1, 0] rfl)
        · have hF := brF hF c9
          refine lv_aload_n hx hb dX12_allStill_24 rfl (lv_at hl 0 rfl) ?_
          refine wi_getr hx hb hg hown hK hP 0 9 7 rfl rfl cb_12 (by decide) kw_582 dX12_allStill_25 ?_
          refine lv_iload_n hx hb dX12_allStill_28 rfl (lv_at hl 3 rfl) ?_
          obtain ⟨hin, hF⟩ := hF
          refine wi_zald hx hb hK hP 7 rfl hin dX12_allStill_29 (fun v11 ev11 => ?_)
          have hF := hF v11 ev11
          refine lv_if_eq (tgt := 37) hx hb dX12_allStill_30 (by decide) (fun c12 => ?_) (fun c12 => ?_)
          · have hF := brT hF c12
            refine lv_iconst (v := (0 : Int32)) hx hb dX12_allStill_37 (by decide) ?_
            refine lv_istore_n (lv' := [(2, .int (0 : Int32)), (0, .ref (ad 0)), (1, .int a1), (3, .int y4)]) hx hb dX12_allStill_38 rfl hl (by decide) rfl (fun ls hl => ?_)
            obtain ⟨x13, ex13⟩ : ∃ z : Int32, z = (y4 + (1 : Int32)) := ⟨_, rfl⟩
            have hF := hF x13 ex13
            refine lv_iinc (v := x13) (lv' := [(3, .int x13), (2, .int (0 : Int32)), (0, .ref (ad 0)), (1, .int a1)]) hx hb dX12_allStill_39 hl (k := 3) rfl (by rw [ex13]; rfl) (by decide) rfl (fun ls hl => ?_)
            refine lv_goto (tgt := 4) hx hb dX12_allStill_42 (by decide) ?_
            exact hrec5 (0 : Int32) x13 hF H locs ls hP hD hS (lv_sub hl [2, 3, 1, 0] rfl)
          · have hF := brF hF c12
            refine lv_iconst (v := (1 : Int32)) hx hb dX12_allStill_33 (by decide) ?_
            refine lv_goto (tgt := 38) hx hb dX12_allStill_34 (by decide) ?_
            refine lv_istore_n (lv' := [(2, .int (1 : Int32)), (0, .ref (ad 0)), (1, .int a1), (3, .int y4)]) hx hb dX12_allStill_38 rfl hl (by decide) rfl (fun ls hl => ?_)
            obtain ⟨x14, ex14⟩ : ∃ z : Int32, z = (y4 + (1 : Int32)) := ⟨_, rfl⟩
            have hF := hF x14 ex14
            refine lv_iinc (v := x14) (lv' := [(3, .int x14), (2, .int (1 : Int32)), (0, .ref (ad 0)), (1, .int a1)]) hx hb dX12_allStill_39 hl (k := 3) rfl (by rw [ex14]; rfl) (by decide) rfl (fun ls hl => ?_)
            refine lv_goto (tgt := 4) hx hb dX12_allStill_42 (by decide) ?_
            exact hrec5 (1 : Int32) x14 hF H locs ls hP hD hS (lv_sub hl [2, 3, 1, 0] rfl)
def w_X12_isTwice (σ : St) (a1 : Int32) (post : Int32 → Prop) : Prop := w_X12_isCrossing σ a1 (fun r1 => br (r1 = (0 : Int32)) (post (0 : Int32)) (w_X12_foreign σ a1 (fun r4 => w_X12_allStill σ r4 (fun r6 => br (r6 = (0 : Int32)) (rd (σ.1 4) 24 a1 (fun v9 => w_X12_isForeignBit σ v9 a1 (fun r10 => br (r10 = (0 : Int32)) (post (0 : Int32)) (w_X12_isUsedOnce σ a1 (fun r13 => br (r13 = (0 : Int32)) (post (0 : Int32)) (post (1 : Int32))))))) (post (0 : Int32))))))
set_option maxHeartbeats 4000000 in
set_option maxRecDepth 100000 in
theorem c_X12_isTwice (l : Launch) (D : va_G) (cy : Nat → ClassId) (ad : Nat → Nat) (tL : Nat) (σ : St) (a1 : Int32) (post : Int32 → Prop) (hF : w_X12_isTwice σ a1 post) : Cti l yX12_isTwice cX12_isTwice 2 (some .boolean) 3 69 D cy ad tL dsM σ [.ref (ad 0), .int a1] (fun r u => post r ∧ σ = u) := by
  refine cti_of (by decide) (Nat.le_of_ble_eq_true rfl) ?_
  intro p e s m args below meth c A hx hb hml hr hlk hg hown hA hK H locs hP hD hS hLB ls hl
  have hown : s.vm.findClass RX12 = some m.cls := hown
  have hl : lv_has ls 2 [(0, .ref (ad 0)), (1, .int a1)] := hl
  refine lv_aload_n hx hb dX12_isTwice_0 rfl (lv_at hl 0 rfl) ?_
  refine lv_iload_n hx hb dX12_isTwice_1 rfl (lv_at hl 1 rfl) ?_
  refine wi_callVi (k := 0) (As := [.int a1]) (c_X12_isCrossing l D cy ad tL σ a1 _ hF) vw_RX12_295 rfl cb_12 hx hb hml hown hg hK hP hD hS hA hLB rfl ⟨Nat.le_of_ble_eq_true rfl, Nat.le_of_ble_eq_true rfl⟩ hl.1 rfl (Nat.le_of_ble_eq_true rfl) dX12_isTwice_2 (fun r1 σ2 hw H locs hP hD hS => ?_)
  obtain ⟨hF, rfl⟩ := hw
  refine lv_if_eq (tgt := 46) hx hb dX12_isTwice_5 (by decide) (fun c3 => ?_) (fun c3 => ?_)
  · have hF := brT hF c3
    refine lv_iconst (v := (0 : Int32)) hx hb dX12_isTwice_46 (by decide) ?_
    exact wi_zret hx hb hr hlk hK hP hD hS dX12_isTwice_47 (by decide) ⟨hF, rfl⟩
  · have hF := brF hF c3
    refine lv_aload_n hx hb dX12_isTwice_8 rfl (lv_at hl 0 rfl) ?_
    refine lv_aload_n hx hb dX12_isTwice_9 rfl (lv_at hl 0 rfl) ?_
    refine lv_iload_n hx hb dX12_isTwice_10 rfl (lv_at hl 1 rfl) ?_
    refine wi_callVi (k := 0) (As := [.int a1]) (c_X12_foreign l D cy ad tL σ a1 _ hF) vw_RX12_292 rfl cb_12 hx hb hml hown hg hK hP hD hS hA hLB rfl ⟨Nat.le_of_ble_eq_true rfl, Nat.le_of_ble_eq_true rfl⟩ hl.1 rfl (Nat.le_of_ble_eq_true rfl) dX12_isTwice_11 (fun r4 σ5 hw H locs hP hD hS => ?_)
    obtain ⟨hF, rfl⟩ := hw
    refine wi_callVi (k := 0) (As := [.int r4]) (c_X12_allStill l D cy ad tL σ r4 _ hF) vw_RX12_298 rfl cb_12 hx hb hml hown hg hK hP hD hS hA hLB rfl ⟨Nat.le_of_ble_eq_true rfl, Nat.le_of_ble_eq_true rfl⟩ hl.1 rfl (Nat.le_of_ble_eq_true rfl) dX12_isTwice_14 (fun r6 σ7 hw H locs hP hD hS => ?_)
    obtain ⟨hF, rfl⟩ := hw
    refine lv_if_ne (tgt := 46) hx hb dX12_isTwice_17 (by decide) (fun c8 => ?_) (fun c8 => ?_)
    · have hF := brF hF c8
      refine lv_iconst (v := (0 : Int32)) hx hb dX12_isTwice_46 (by decide) ?_
      exact wi_zret hx hb hr hlk hK hP hD hS dX12_isTwice_47 (by decide) ⟨hF, rfl⟩
    · have hF := brT hF c8
      refine lv_aload_n hx hb dX12_isTwice_20 rfl (lv_at hl 0 rfl) ?_
      refine lv_aload_n hx hb dX12_isTwice_21 rfl (lv_at hl 0 rfl) ?_
      refine wi_getr hx hb hg hown hK hP 0 6 4 rfl rfl cb_12 (by decide) kw_561 dX12_isTwice_22 ?_
      refine lv_iload_n hx hb dX12_isTwice_25 rfl (lv_at hl 1 rfl) ?_
      obtain ⟨hin, hF⟩ := hF
      refine wi_iald hx hb hK hP 4 rfl hin dX12_isTwice_26 (fun v9 ev9 => ?_)
      have hF := hF v9 ev9
      refine lv_iload_n hx hb dX12_isTwice_27 rfl (lv_at hl 1 rfl) ?_
      refine wi_callVi (k := 0) (As := [.int v9, .int a1]) (c_X12_isForeignBit l D cy ad tL σ v9 a1 _ hF) vw_RX12_301 rfl cb_12 hx hb hml hown hg hK hP hD hS hA hLB rfl ⟨Nat.le_of_ble_eq_true rfl, Nat.le_of_ble_eq_true rfl⟩ hl.1 rfl (Nat.le_of_ble_eq_true rfl) dX12_isTwice_28 (fun r10 σ11 hw H locs hP hD hS => ?_)
      obtain ⟨hF, rfl⟩ := hw
      refine lv_if_eq (tgt := 46) hx hb dX12_isTwice_31 (by decide) (fun c12 => ?_) (fun c12 => ?_)
      · have hF := brT hF c12
        refine lv_iconst (v := (0 : Int32)) hx hb dX12_isTwice_46 (by decide) ?_
        exact wi_zret hx hb hr hlk hK hP hD hS dX12_isTwice_47 (by decide) ⟨hF, rfl⟩
      · have hF := brF hF c12
        refine lv_aload_n hx hb dX12_isTwice_34 rfl (lv_at hl 0 rfl) ?_
        refine lv_iload_n hx hb dX12_isTwice_35 rfl (lv_at hl 1 rfl) ?_
        refine wi_callVi (k := 0) (As := [.int a1]) (c_X12_isUsedOnce l D cy ad tL σ a1 _ hF) vw_RX12_304 rfl cb_12 hx hb hml hown hg hK hP hD hS hA hLB rfl ⟨Nat.le_of_ble_eq_true rfl, Nat.le_of_ble_eq_true rfl⟩ hl.1 rfl (Nat.le_of_ble_eq_true rfl) dX12_isTwice_36 (fun r13 σ14 hw H locs hP hD hS => ?_)
        obtain ⟨hF, rfl⟩ := hw
        refine lv_if_eq (tgt := 46) hx hb dX12_isTwice_39 (by decide) (fun c15 => ?_) (fun c15 => ?_)
        · have hF := brT hF c15
          refine lv_iconst (v := (0 : Int32)) hx hb dX12_isTwice_46 (by decide) ?_
          exact wi_zret hx hb hr hlk hK hP hD hS dX12_isTwice_47 (by decide) ⟨hF, rfl⟩
        · have hF := brF hF c15
          refine lv_iconst (v := (1 : Int32)) hx hb dX12_isTwice_42 (by decide) ?_
          refine lv_goto (tgt := 47) hx hb dX12_isTwice_43 (by decide) ?_
          exact wi_zret hx hb hr hlk hK hP hD hS dX12_isTwice_47 (by decide) ⟨hF, rfl⟩
def w_X12_isHeldOne (σ : St) (a1 : Int32) (post : Int32 → Prop) : Prop := rd (σ.1 4) 24 a1 (fun v1 => rd (σ.1 1) 24 v1 (fun v2 => br (v2 = (4 : Int32)) (rd (σ.1 5) 24 v1 (fun v4 => w_X12_isForeignBit σ v4 a1 (fun r5 => br (r5 = (0 : Int32)) (post (0 : Int32)) (rd (σ.1 6) 24 v1 (fun v8 => br (v8 = a1) (rd (σ.1 4) 24 v1 (fun v10 => rd (σ.1 1) 24 v10 (fun v11 => br (v11 = (6 : Int32)) (rd (σ.1 2) 24 v10 (fun v13 => rd (σ.1 2) 24 a1 (fun v14 => br (v13 = v14) (rd (σ.1 4) 24 v10 (fun v16 => rd (σ.1 1) 24 v16 (fun v17 => br (v17 = (6 : Int32)) (rd (σ.1 4) 24 v10 (fun v19 => w_X12_isTwice σ v19 (fun r20 => br (r20 = (0 : Int32)) (post (0 : Int32)) (post (1 : Int32))))) (post (0 : Int32))))) (post (0 : Int32))))) (post (0 : Int32))))) (post (0 : Int32))))))) (post (0 : Int32))))
set_option maxHeartbeats 4000000 in
set_option maxRecDepth 100000 in
theorem c_X12_isHeldOne (l : Launch) (D : va_G) (cy : Nat → ClassId) (ad : Nat → Nat) (tL : Nat) (σ : St) (a1 : Int32) (post : Int32 → Prop) (hF : w_X12_isHeldOne σ a1 post) : Cti l yX12_isHeldOne cX12_isHeldOne 4 (some .boolean) 4 90 D cy ad tL dsM σ [.ref (ad 0), .int a1] (fun r u => post r ∧ σ = u) := by
  refine cti_of (by decide) (Nat.le_of_ble_eq_true rfl) ?_
  intro p e s m args below meth c A hx hb hml hr hlk hg hown hA hK H locs hP hD hS hLB ls hl
  have hown : s.vm.findClass RX12 = some m.cls := hown
  have hl : lv_has ls 4 [(0, .ref (ad 0)), (1, .int a1)] := hl
  refine lv_aload_n hx hb dX12_isHeldOne_0 rfl (lv_at hl 0 rfl) ?_
  refine wi_getr hx hb hg hown hK hP 0 6 4 rfl rfl cb_12 (by decide) kw_561 dX12_isHeldOne_1 ?_
  refine lv_iload_n hx hb dX12_isHeldOne_4 rfl (lv_at hl 1 rfl) ?_
  obtain ⟨hin, hF⟩ := hF
  refine wi_iald hx hb hK hP 4 rfl hin dX12_isHeldOne_5 (fun v1 ev1 => ?_)
  have hF := hF v1 ev1
  refine lv_istore_n (lv' := [(2, .int v1), (0, .ref (ad 0)), (1, .int a1)]) hx hb dX12_isHeldOne_6 rfl hl (by decide) rfl (fun ls hl => ?_)
  refine lv_aload_n hx hb dX12_isHeldOne_7 rfl (lv_at hl 1 rfl) ?_
  refine wi_getr hx hb hg hown hK hP 0 3 1 rfl rfl cb_12 (by decide) kw_560 dX12_isHeldOne_8 ?_
  refine lv_iload_n hx hb dX12_isHeldOne_11 rfl (lv_at hl 0 rfl) ?_
  obtain ⟨hin, hF⟩ := hF
  refine wi_iald hx hb hK hP 1 rfl hin dX12_isHeldOne_12 (fun v2 ev2 => ?_)
  have hF := hF v2 ev2
  refine lv_iconst (v := (4 : Int32)) hx hb dX12_isHeldOne_13 (by decide) ?_
  refine lv_icmp_ne (tgt := 41) hx hb dX12_isHeldOne_14 (by decide) (fun c3 => ?_) (fun c3 => ?_)
  · have hF := brF hF c3
    refine lv_iconst (v := (0 : Int32)) hx hb dX12_isHeldOne_41 (by decide) ?_
    exact wi_zret hx hb hr hlk hK hP hD hS dX12_isHeldOne_42 (by decide) ⟨hF, rfl⟩
  · have hF := brT hF c3
    refine lv_aload_n hx hb dX12_isHeldOne_17 rfl (lv_at hl 1 rfl) ?_
    refine lv_aload_n hx hb dX12_isHeldOne_18 rfl (lv_at hl 1 rfl) ?_
    refine wi_getr hx hb hg hown hK hP 0 7 5 rfl rfl cb_12 (by decide) kw_562 dX12_isHeldOne_19 ?_
    refine lv_iload_n hx hb dX12_isHeldOne_22 rfl (lv_at hl 0 rfl) ?_
    obtain ⟨hin, hF⟩ := hF
    refine wi_iald hx hb hK hP 5 rfl hin dX12_isHeldOne_23 (fun v4 ev4 => ?_)
    have hF := hF v4 ev4
    refine lv_iload_n hx hb dX12_isHeldOne_24 rfl (lv_at hl 2 rfl) ?_
    refine wi_callVi (k := 0) (As := [.int v4, .int a1]) (c_X12_isForeignBit l D cy ad tL σ v4 a1 _ hF) vw_RX12_301 rfl cb_12 hx hb hml hown hg hK hP hD hS hA hLB rfl ⟨Nat.le_of_ble_eq_true rfl, Nat.le_of_ble_eq_true rfl⟩ hl.1 rfl (Nat.le_of_ble_eq_true rfl) dX12_isHeldOne_25 (fun r5 σ6 hw H locs hP hD hS => ?_)
    obtain ⟨hF, rfl⟩ := hw
    refine lv_if_eq (tgt := 41) hx hb dX12_isHeldOne_28 (by decide) (fun c7 => ?_) (fun c7 => ?_)
    · have hF := brT hF c7
      refine lv_iconst (v := (0 : Int32)) hx hb dX12_isHeldOne_41 (by decide) ?_
      exact wi_zret hx hb hr hlk hK hP hD hS dX12_isHeldOne_42 (by decide) ⟨hF, rfl⟩
    · have hF := brF hF c7
      refine lv_aload_n hx hb dX12_isHeldOne_31 rfl (lv_at hl 1 rfl) ?_
      refine wi_getr hx hb hg hown hK hP 0 8 6 rfl rfl cb_12 (by decide) kw_563 dX12_isHeldOne_32 ?_
      refine lv_iload_n hx hb dX12_isHeldOne_35 rfl (lv_at hl 0 rfl) ?_
      obtain ⟨hin, hF⟩ := hF
      refine wi_iald hx hb hK hP 6 rfl hin dX12_isHeldOne_36 (fun v8 ev8 => ?_)
      have hF := hF v8 ev8
      refine lv_iload_n hx hb dX12_isHeldOne_37 rfl (lv_at hl 2 rfl) ?_
      refine lv_icmp_eq (tgt := 43) hx hb dX12_isHeldOne_38 (by decide) (fun c9 => ?_) (fun c9 => ?_)
      · have hF := brT hF c9
        refine lv_aload_n hx hb dX12_isHeldOne_43 rfl (lv_at hl 1 rfl) ?_
        refine wi_getr hx hb hg hown hK hP 0 6 4 rfl rfl cb_12 (by decide) kw_561 dX12_isHeldOne_44 ?_
        refine lv_iload_n hx hb dX12_isHeldOne_47 rfl (lv_at hl 0 rfl) ?_
        obtain ⟨hin, hF⟩ := hF
        refine wi_iald hx hb hK hP 4 rfl hin dX12_isHeldOne_48 (fun v10 ev10 => ?_)
        have hF := hF v10 ev10
        refine lv_istore_n (lv' := [(3, .int v10), (2, .int v1), (0, .ref (ad 0)), (1, .int a1)]) hx hb dX12_isHeldOne_49 rfl hl (by decide) rfl (fun ls hl => ?_)
        refine lv_aload_n hx hb dX12_isHeldOne_50 rfl (lv_at hl 2 rfl) ?_
        refine wi_getr hx hb hg hown hK hP 0 3 1 rfl rfl cb_12 (by decide) kw_560 dX12_isHeldOne_51 ?_
        refine lv_iload_n hx hb dX12_isHeldOne_54 rfl (lv_at hl 0 rfl) ?_
        obtain ⟨hin, hF⟩ := hF
        refine wi_iald hx hb hK hP 1 rfl hin dX12_isHeldOne_55 (fun v11 ev11 => ?_)
        have hF := hF v11 ev11
        refine lv_bipush (v := (6 : Int32)) hx hb dX12_isHeldOne_56 (by decide) ?_
        refine lv_icmp_ne (tgt := 109) hx hb dX12_isHeldOne_58 (by decide) (fun c12 => ?_) (fun c12 => ?_)
        · have hF := brF hF c12
          refine lv_iconst (v := (0 : Int32)) hx hb dX12_isHeldOne_109 (by decide) ?_
          exact wi_zret hx hb hr hlk hK hP hD hS dX12_isHeldOne_110 (by decide) ⟨hF, rfl⟩
        · have hF := brT hF c12
          refine lv_aload_n hx hb dX12_isHeldOne_61 rfl (lv_at hl 2 rfl) ?_
          refine wi_getr hx hb hg hown hK hP 0 4 2 rfl rfl cb_12 (by decide) kw_581 dX12_isHeldOne_62 ?_
          refine lv_iload_n hx hb dX12_isHeldOne_65 rfl (lv_at hl 0 rfl) ?_
          obtain ⟨hin, hF⟩ := hF
          refine wi_iald hx hb hK hP 2 rfl hin dX12_isHeldOne_66 (fun v13 ev13 => ?_)
          have hF := hF v13 ev13
          refine lv_aload_n hx hb dX12_isHeldOne_67 rfl (lv_at hl 2 rfl) ?_
          refine wi_getr hx hb hg hown hK hP 0 4 2 rfl rfl cb_12 (by decide) kw_581 dX12_isHeldOne_68 ?_
          refine lv_iload_n hx hb dX12_isHeldOne_71 rfl (lv_at hl 3 rfl) ?_
          obtain ⟨hin, hF⟩ := hF
          refine wi_iald hx hb hK hP 2 rfl hin dX12_isHeldOne_72 (fun v14 ev14 => ?_)
          have hF := hF v14 ev14
          refine lv_icmp_ne (tgt := 109) hx hb dX12_isHeldOne_73 (by decide) (fun c15 => ?_) (fun c15 => ?_)
          · have hF := brF hF c15
            refine lv_iconst (v := (0 : Int32)) hx hb dX12_isHeldOne_109 (by decide) ?_
            exact wi_zret hx hb hr hlk hK hP hD hS dX12_isHeldOne_110 (by decide) ⟨hF, rfl⟩
          · have hF := brT hF c15
            refine lv_aload_n hx hb dX12_isHeldOne_76 rfl (lv_at hl 2 rfl) ?_
            refine wi_getr hx hb hg hown hK hP 0 3 1 rfl rfl cb_12 (by decide) kw_560 dX12_isHeldOne_77 ?_
            refine lv_aload_n hx hb dX12_isHeldOne_80 rfl (lv_at hl 2 rfl) ?_
            refine wi_getr hx hb hg hown hK hP 0 6 4 rfl rfl cb_12 (by decide) kw_561 dX12_isHeldOne_81 ?_
            refine lv_iload_n hx hb dX12_isHeldOne_84 rfl (lv_at hl 0 rfl) ?_
            obtain ⟨hin, hF⟩ := hF
            refine wi_iald hx hb hK hP 4 rfl hin dX12_isHeldOne_85 (fun v16 ev16 => ?_)
            have hF := hF v16 ev16
            obtain ⟨hin, hF⟩ := hF
            refine wi_iald hx hb hK hP 1 rfl hin dX12_isHeldOne_86 (fun v17 ev17 => ?_)
            have hF := hF v17 ev17
            refine lv_bipush (v := (6 : Int32)) hx hb dX12_isHeldOne_87 (by decide) ?_
            refine lv_icmp_ne (tgt := 109) hx hb dX12_isHeldOne_89 (by decide) (fun c18 => ?_) (fun c18 => ?_)
            · have hF := brF hF c18
              refine lv_iconst (v := (0 : Int32)) hx hb dX12_isHeldOne_109 (by decide) ?_
              exact wi_zret hx hb hr hlk hK hP hD hS dX12_isHeldOne_110 (by decide) ⟨hF, rfl⟩
            · have hF := brT hF c18
              refine lv_aload_n hx hb dX12_isHeldOne_92 rfl (lv_at hl 2 rfl) ?_
              refine lv_aload_n hx hb dX12_isHeldOne_93 rfl (lv_at hl 2 rfl) ?_
              refine wi_getr hx hb hg hown hK hP 0 6 4 rfl rfl cb_12 (by decide) kw_561 dX12_isHeldOne_94 ?_
              refine lv_iload_n hx hb dX12_isHeldOne_97 rfl (lv_at hl 0 rfl) ?_
              obtain ⟨hin, hF⟩ := hF
              refine wi_iald hx hb hK hP 4 rfl hin dX12_isHeldOne_98 (fun v19 ev19 => ?_)
              have hF := hF v19 ev19
              refine wi_callVi (k := 0) (As := [.int v19]) (c_X12_isTwice l D cy ad tL σ v19 _ hF) vw_RX12_307 rfl cb_12 hx hb hml hown hg hK hP hD hS hA hLB rfl ⟨Nat.le_of_ble_eq_true rfl, Nat.le_of_ble_eq_true rfl⟩ hl.1 rfl (Nat.le_of_ble_eq_true rfl) dX12_isHeldOne_99 (fun r20 σ21 hw H locs hP hD hS => ?_)
              obtain ⟨hF, rfl⟩ := hw
              refine lv_if_eq (tgt := 109) hx hb dX12_isHeldOne_102 (by decide) (fun c22 => ?_) (fun c22 => ?_)
              · have hF := brT hF c22
                refine lv_iconst (v := (0 : Int32)) hx hb dX12_isHeldOne_109 (by decide) ?_
                exact wi_zret hx hb hr hlk hK hP hD hS dX12_isHeldOne_110 (by decide) ⟨hF, rfl⟩
              · have hF := brF hF c22
                refine lv_iconst (v := (1 : Int32)) hx hb dX12_isHeldOne_105 (by decide) ?_
                refine lv_goto (tgt := 110) hx hb dX12_isHeldOne_106 (by decide) ?_
                exact wi_zret hx hb hr hlk hK hP hD hS dX12_isHeldOne_110 (by decide) ⟨hF, rfl⟩
      · have hF := brF hF c9
        refine lv_iconst (v := (0 : Int32)) hx hb dX12_isHeldOne_41 (by decide) ?_
        exact wi_zret hx hb hr hlk hK hP hD hS dX12_isHeldOne_42 (by decide) ⟨hF, rfl⟩
def w_X12_kindOf (σ : St) (a1 : Int32) (post : Int32 → Prop) : Prop := w_X12_foreign σ a1 (fun r1 => w_X12_allStill σ r1 (fun r3 => br (r3 = (0 : Int32)) (w_X12_isTwice σ a1 (fun r6 => br (r6 = (0 : Int32)) (w_X12_isHeldOne σ a1 (fun r9 => br (r9 = (0 : Int32)) (rd (σ.1 4) 24 a1 (fun v12 => w_X12_isForeignBit σ v12 a1 (fun r13 => br (r13 = (0 : Int32)) (post (4 : Int32)) (post (3 : Int32))))) (post (2 : Int32)))) (post (1 : Int32)))) (post (0 : Int32))))
set_option maxHeartbeats 4000000 in
set_option maxRecDepth 100000 in
theorem c_X12_kindOf (l : Launch) (D : va_G) (cy : Nat → ClassId) (ad : Nat → Nat) (tL : Nat) (σ : St) (a1 : Int32) (post : Int32 → Prop) (hF : w_X12_kindOf σ a1 post) : Cti l yX12_kindOf cX12_kindOf 2 (some .int) 5 113 D cy ad tL dsM σ [.ref (ad 0), .int a1] (fun r u => post r ∧ σ = u) := by
  refine cti_of (by decide) (Nat.le_of_ble_eq_true rfl) ?_
  intro p e s m args below meth c A hx hb hml hr hlk hg hown hA hK H locs hP hD hS hLB ls hl
  have hown : s.vm.findClass RX12 = some m.cls := hown
  have hl : lv_has ls 2 [(0, .ref (ad 0)), (1, .int a1)] := hl
  refine lv_aload_n hx hb dX12_kindOf_0 rfl (lv_at hl 0 rfl) ?_
  refine lv_aload_n hx hb dX12_kindOf_1 rfl (lv_at hl 0 rfl) ?_
  refine lv_iload_n hx hb dX12_kindOf_2 rfl (lv_at hl 1 rfl) ?_
  refine wi_callVi (k := 0) (As := [.int a1]) (c_X12_foreign l D cy ad tL σ a1 _ hF) vw_RX12_292 rfl cb_12 hx hb hml hown hg hK hP hD hS hA hLB rfl ⟨Nat.le_of_ble_eq_true rfl, Nat.le_of_ble_eq_true rfl⟩ hl.1 rfl (Nat.le_of_ble_eq_true rfl) dX12_kindOf_3 (fun r1 σ2 hw H locs hP hD hS => ?_)
  obtain ⟨hF, rfl⟩ := hw
  refine wi_callVi (k := 0) (As := [.int r1]) (c_X12_allStill l D cy ad tL σ r1 _ hF) vw_RX12_298 rfl cb_12 hx hb hml hown hg hK hP hD hS hA hLB rfl ⟨Nat.le_of_ble_eq_true rfl, Nat.le_of_ble_eq_true rfl⟩ hl.1 rfl (Nat.le_of_ble_eq_true rfl) dX12_kindOf_6 (fun r3 σ4 hw H locs hP hD hS => ?_)
  obtain ⟨hF, rfl⟩ := hw
  refine lv_if_eq (tgt := 16) hx hb dX12_kindOf_9 (by decide) (fun c5 => ?_) (fun c5 => ?_)
  · have hF := brT hF c5
    refine lv_aload_n hx hb dX12_kindOf_16 rfl (lv_at hl 0 rfl) ?_
    refine lv_iload_n hx hb dX12_kindOf_17 rfl (lv_at hl 1 rfl) ?_
    refine wi_callVi (k := 0) (As := [.int a1]) (c_X12_isTwice l D cy ad tL σ a1 _ hF) vw_RX12_307 rfl cb_12 hx hb hml hown hg hK hP hD hS hA hLB rfl ⟨Nat.le_of_ble_eq_true rfl, Nat.le_of_ble_eq_true rfl⟩ hl.1 rfl (Nat.le_of_ble_eq_true rfl) dX12_kindOf_18 (fun r6 σ7 hw H locs hP hD hS => ?_)
    obtain ⟨hF, rfl⟩ := hw
    refine lv_if_eq (tgt := 28) hx hb dX12_kindOf_21 (by decide) (fun c8 => ?_) (fun c8 => ?_)
    · have hF := brT hF c8
      refine lv_aload_n hx hb dX12_kindOf_28 rfl (lv_at hl 0 rfl) ?_
      refine lv_iload_n hx hb dX12_kindOf_29 rfl (lv_at hl 1 rfl) ?_
      refine wi_callVi (k := 0) (As := [.int a1]) (c_X12_isHeldOne l D cy ad tL σ a1 _ hF) vw_RX12_310 rfl cb_12 hx hb hml hown hg hK hP hD hS hA hLB rfl ⟨Nat.le_of_ble_eq_true rfl, Nat.le_of_ble_eq_true rfl⟩ hl.1 rfl (Nat.le_of_ble_eq_true rfl) dX12_kindOf_30 (fun r9 σ10 hw H locs hP hD hS => ?_)
      obtain ⟨hF, rfl⟩ := hw
      refine lv_if_eq (tgt := 40) hx hb dX12_kindOf_33 (by decide) (fun c11 => ?_) (fun c11 => ?_)
      · have hF := brT hF c11
        refine lv_aload_n hx hb dX12_kindOf_40 rfl (lv_at hl 0 rfl) ?_
        refine lv_aload_n hx hb dX12_kindOf_41 rfl (lv_at hl 0 rfl) ?_
        refine wi_getr hx hb hg hown hK hP 0 6 4 rfl rfl cb_12 (by decide) kw_561 dX12_kindOf_42 ?_
        refine lv_iload_n hx hb dX12_kindOf_45 rfl (lv_at hl 1 rfl) ?_
        obtain ⟨hin, hF⟩ := hF
        refine wi_iald hx hb hK hP 4 rfl hin dX12_kindOf_46 (fun v12 ev12 => ?_)
        have hF := hF v12 ev12
        refine lv_iload_n hx hb dX12_kindOf_47 rfl (lv_at hl 1 rfl) ?_
        refine wi_callVi (k := 0) (As := [.int v12, .int a1]) (c_X12_isForeignBit l D cy ad tL σ v12 a1 _ hF) vw_RX12_301 rfl cb_12 hx hb hml hown hg hK hP hD hS hA hLB rfl ⟨Nat.le_of_ble_eq_true rfl, Nat.le_of_ble_eq_true rfl⟩ hl.1 rfl (Nat.le_of_ble_eq_true rfl) dX12_kindOf_48 (fun r13 σ14 hw H locs hP hD hS => ?_)
        obtain ⟨hF, rfl⟩ := hw
        refine lv_if_eq (tgt := 58) hx hb dX12_kindOf_51 (by decide) (fun c15 => ?_) (fun c15 => ?_)
        · have hF := brT hF c15
          refine lv_iconst (v := (4 : Int32)) hx hb dX12_kindOf_58 (by decide) ?_
          exact wi_iret hx hb hr hlk hK hP hD hS dX12_kindOf_59 ⟨hF, rfl⟩
        · have hF := brF hF c15
          refine lv_iconst (v := (3 : Int32)) hx hb dX12_kindOf_54 (by decide) ?_
          refine lv_goto (tgt := 59) hx hb dX12_kindOf_55 (by decide) ?_
          exact wi_iret hx hb hr hlk hK hP hD hS dX12_kindOf_59 ⟨hF, rfl⟩
      · have hF := brF hF c11
        refine lv_iconst (v := (2 : Int32)) hx hb dX12_kindOf_36 (by decide) ?_
        refine lv_goto (tgt := 59) hx hb dX12_kindOf_37 (by decide) ?_
        exact wi_iret hx hb hr hlk hK hP hD hS dX12_kindOf_59 ⟨hF, rfl⟩
    · have hF := brF hF c8
      refine lv_iconst (v := (1 : Int32)) hx hb dX12_kindOf_24 (by decide) ?_
      refine lv_goto (tgt := 59) hx hb dX12_kindOf_25 (by decide) ?_
      exact wi_iret hx hb hr hlk hK hP hD hS dX12_kindOf_59 ⟨hF, rfl⟩
  · have hF := brF hF c5
    refine lv_iconst (v := (0 : Int32)) hx hb dX12_kindOf_12 (by decide) ?_
    refine lv_goto (tgt := 59) hx hb dX12_kindOf_13 (by decide) ?_
    exact wi_iret hx hb hr hlk hK hP hD hS dX12_kindOf_59 ⟨hF, rfl⟩
