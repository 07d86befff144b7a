def w_X8_spread_L7 (a2 : Int32) (J1 : Int32 → Prop) (rec6 : Int32 → Int32 → Int32 → Prop) (y3 : Int32) (y4 : Int32) (y5 : Int32) : Prop := br ((10 : Int32) ≤ y5) (J1 y4) (br (y3 = (0 : Int32)) (J1 y4) (br (((a2 >>> (y5 &&& 31)) &&& (1 : Int32)) = (1 : Int32)) (nm (y4 ||| ((y3 &&& (1 : Int32)) <<< (y5 &&& 31))) (fun x11 => nm (y3 >>> ((1 : Int32) &&& 31)) (fun x12 => nm (y5 + (1 : Int32)) (fun x13 => rec6 x12 x11 x13)))) (nm (y5 + (1 : Int32)) (fun x10 => rec6 y3 y4 x10))))
def w_X8_spread (a1 : Int32) (a2 : Int32) (post : Int32 → Prop) : Prop := jn (α := Int32 → Prop) (fun (y2 : Int32) => post y2) (fun J1 => lpE3 (w_X8_spread_L7 a2 J1) a1 (0 : Int32) (0 : Int32))
set_option maxHeartbeats 4000000 in
set_option maxRecDepth 100000 in
theorem c_X8_spread (l : Launch) (D : va_G) (cy : Nat → ClassId) (ad : Nat → Nat) (tL : Nat) (σ : St) (a1 : Int32) (a2 : Int32) (post : Int32 → Prop) (hF : w_X8_spread a1 a2 post) : Cti l yX8_spread cX8_spread 5 (some .int) 0 0 D cy ad tL dsC σ [.int a1, .int a2] (fun r u => post r ∧ σ = u) := by
  refine cti_of (by decide) (Nat.le_of_ble_eq_true rfl) ?_
  intro p e s m args below meth c A hx hb hml hr hlk hg hown hA hK H locs hP hD hS hLB ls hl
  have hown : s.vm.findClass RX8 = some m.cls := hown
  have hl : lv_has ls 5 [(0, .int a1), (1, .int a2)] := hl
  refine lv_iload_n hx hb dX8_spread_0 rfl (lv_at hl 0 rfl) ?_
  refine lv_istore_n (lv' := [(2, .int a1), (0, .int a1), (1, .int a2)]) hx hb dX8_spread_1 rfl hl (by decide) rfl (fun ls hl => ?_)
  refine lv_iconst (v := (0 : Int32)) hx hb dX8_spread_2 (by decide) ?_
  refine lv_istore_n (lv' := [(3, .int (0 : Int32)), (2, .int a1), (0, .int a1), (1, .int a2)]) hx hb dX8_spread_3 rfl hl (by decide) rfl (fun ls hl => ?_)
  refine lv_iconst (v := (0 : Int32)) hx hb dX8_spread_4 (by decide) ?_
  refine lv_istore (lv' := [(4, .int (0 : Int32)), (3, .int (0 : Int32)), (2, .int a1), (0, .int a1), (1, .int a2)]) hx hb dX8_spread_5 hl (by decide) rfl (fun ls hl => ?_)
  refine jn_use hF (fun K => ∀ (y2 : Int32) (H : Heap) (locs : List Loc) (ls : Array Slot), K y2 → va_P D vwCl (wld cy ad dsC σ) H → va_D A (wld cy ad dsC σ) → va_S A s.heap H locs → lv_has ls 5 [(3, .int y2)] → W p l e (rmO 0 0) s m args below meth c H locs 0 0 (MQ below (va_Qi (fun r u => post r ∧ σ = u) (cBk D cy ad dsC A) A) args s 0 0 A) (F0 m 47 ls [])) (fun y2 H locs ls hF hP hD hS hl => ?_) (fun J1 hJ1 hF => ?_)
  · refine lv_iload_n hx hb dX8_spread_47 rfl (lv_at hl 0 rfl) ?_
    exact wi_iret hx hb hr hlk hK hP hD hS dX8_spread_48 ⟨hF, rfl⟩
  · refine lpE3_use hF (fun (y3 : Int32) (y4 : Int32) (y5 : Int32) => ∀ (H : Heap) (locs : List Loc) (ls : Array Slot), va_P D vwCl (wld cy ad dsC σ) H → va_D A (wld cy ad dsC σ) → va_S A s.heap H locs → lv_has ls 5 [(1, .int a2), (2, .int y3), (3, .int y4), (4, .int y5)] → W p l e (rmO 0 0) s m args below meth c H locs 0 0 (MQ below (va_Qi (fun r u => post r ∧ σ = u) (cBk D cy ad dsC A) A) args s 0 0 A) (F0 m 7 ls [])) (fun rec6 hrec6 y3 y4 y5 hF H locs ls hP hD hS hl => ?_) H locs ls hP hD hS (lv_sub hl [4, 2, 1, 0] rfl)
    refine lv_iload hx hb dX8_spread_7 (lv_at hl 3 rfl) ?_
    refine lv_bipush (v := (10 : Int32)) hx hb dX8_spread_9 (by decide) ?_
    refine lv_icmp_ge (tgt := 47) hx hb dX8_spread_11 (by decide) (fun c7 => ?_) (fun c7 => ?_)
    · have hF := brT hF c7
      exact hJ1 y4 H locs ls hF hP hD hS (lv_sub hl [2] rfl)
    · have hF := brF hF c7
      refine lv_iload_n hx hb dX8_spread_14 rfl (lv_at hl 1 rfl) ?_
      refine lv_if_eq (tgt := 47) hx hb dX8_spread_15 (by decide) (fun c8 => ?_) (fun c8 => ?_)
      · have hF := brT hF c8
        exact hJ1 y4 H locs ls hF hP hD hS (lv_sub hl [2] rfl)
      · have hF := brF hF c8
        refine lv_iload_n hx hb dX8_spread_18 rfl (lv_at hl 0 rfl) ?_
        refine lv_iload hx hb dX8_spread_19 (lv_at hl 3 rfl) ?_
        refine lv_ishr hx hb dX8_spread_21 ?_
        refine lv_iconst (v := (1 : Int32)) hx hb dX8_spread_22 (by decide) ?_
        refine lv_iand hx hb dX8_spread_23 ?_
        refine lv_iconst (v := (1 : Int32)) hx hb dX8_spread_24 (by decide) ?_
        refine lv_icmp_ne (tgt := 41) hx hb dX8_spread_25 (by decide) (fun c9 => ?_) (fun c9 => ?_)
        · have hF := brF hF c9
          obtain ⟨x10, ex10⟩ : ∃ z : Int32, z = (y5 + (1 : Int32)) := ⟨_, rfl⟩
          have hF := hF x10 ex10
          refine lv_iinc (v := x10) (lv' := [(4, .int x10), (1, .int a2), (2, .int y3), (3, .int y4)]) hx hb dX8_spread_41 hl (k := 3) rfl (by rw [ex10]; rfl) (by decide) rfl (fun ls hl => ?_)
          refine lv_goto (tgt := 7) hx hb dX8_spread_44 (by decide) ?_
          exact hrec6 y3 y4 x10 hF H locs ls hP hD hS (lv_sub hl [1, 2, 3, 0] rfl)
        · have hF := brT hF c9
          refine lv_iload_n hx hb dX8_spread_28 rfl (lv_at hl 2 rfl) ?_
          refine lv_iload_n hx hb dX8_spread_29 rfl (lv_at hl 1 rfl) ?_
          refine lv_iconst (v := (1 : Int32)) hx hb dX8_spread_30 (by decide) ?_
          refine lv_iand hx hb dX8_spread_31 ?_
          refine lv_iload hx hb dX8_spread_32 (lv_at hl 3 rfl) ?_
          refine lv_ishl hx hb dX8_spread_34 ?_
          refine lv_ior hx hb dX8_spread_35 ?_
          refine lv_topi (fun x11 ex11 => ?_)
          have hF := hF x11 ex11
          refine lv_istore_n (lv' := [(3, .int x11), (1, .int a2), (2, .int y3), (4, .int y5)]) hx hb dX8_spread_36 rfl hl (by decide) rfl (fun ls hl => ?_)
          refine lv_iload_n hx hb dX8_spread_37 rfl (lv_at hl 2 rfl) ?_
          refine lv_iconst (v := (1 : Int32)) hx hb dX8_spread_38 (by decide) ?_
          refine lv_ishr hx hb dX8_spread_39 ?_
          refine lv_topi (fun x12 ex12 => ?_)
          have hF := hF x12 ex12
          refine lv_istore_n (lv' := [(2, .int x12), (3, .int x11), (1, .int a2), (4, .int y5)]) hx hb dX8_spread_40 rfl hl (by decide) rfl (fun ls hl => ?_)
          obtain ⟨x13, ex13⟩ : ∃ z : Int32, z = (y5 + (1 : Int32)) := ⟨_, rfl⟩
          have hF := hF x13 ex13
          refine lv_iinc (v := x13) (lv' := [(4, .int x13), (2, .int x12), (3, .int x11), (1, .int a2)]) hx hb dX8_spread_41 hl (k := 3) rfl (by rw [ex13]; rfl) (by decide) rfl (fun ls hl => ?_)
          refine lv_goto (tgt := 7) hx hb dX8_spread_44 (by decide) ?_
          exact hrec6 x12 x11 x13 hF H locs ls hP hD hS (lv_sub hl [3, 1, 2, 0] rfl)
def w_X8_isEither (σ : St) (a1 : Int32) (a2 : Int32) (post : Int32 → Prop) : Prop := w_X4_foreignBits σ a1 (fun r1 => nm (a2 &&& r1) (fun x3 => br (x3 = (0 : Int32)) (post (0 : Int32)) (rd (σ.1 10) 24 a1 (fun v5 => w_X4_hasBothValues σ v5 (σ.1 4 1) x3 (fun r6 => br (r6 = (0 : Int32)) (post (0 : Int32)) (post (1 : Int32)))))))
set_option maxHeartbeats 4000000 in
set_option maxRecDepth 100000 in
theorem c_X8_isEither (l : Launch) (D : va_G) (cy : Nat → ClassId) (ad : Nat → Nat) (tL : Nat) (σ : St) (a1 : Int32) (a2 : Int32) (post : Int32 → Prop) (hF : w_X8_isEither σ a1 a2 post) : Cti l yX8_isEither cX8_isEither 4 (some .boolean) 1 35 D cy ad tL dsC σ [.ref (ad 4), .int a1, .int a2] (fun r u => post r ∧ σ = u) := by
  refine cti_of (by decide) (Nat.le_of_ble_eq_true rfl) ?_
  intro p e s m args below meth c A hx hb hml hr hlk hg hown hA hK H locs hP hD hS hLB ls hl
  have hown : s.vm.findClass RX8 = some m.cls := hown
  have hl : lv_has ls 4 [(0, .ref (ad 4)), (1, .int a1), (2, .int a2)] := hl
  refine lv_iload_n hx hb dX8_isEither_0 rfl (lv_at hl 2 rfl) ?_
  refine lv_aload_n hx hb dX8_isEither_1 rfl (lv_at hl 0 rfl) ?_
  refine wi_getr hx hb hg hown hK hP 4 0 1 rfl rfl cb_8 (by decide) kw_176 dX8_isEither_2 ?_
  refine lv_iload_n hx hb dX8_isEither_5 rfl (lv_at hl 1 rfl) ?_
  refine wi_callVi (k := 1) (As := [.int a1]) (c_X4_foreignBits l D cy ad tL σ a1 _ hF) vw_RX8_64 rfl cb_4 hx hb hml hown hg hK hP hD hS hA hLB rfl ⟨Nat.le_of_ble_eq_true rfl, Nat.le_of_ble_eq_true rfl⟩ hl.1 rfl (Nat.le_of_ble_eq_true rfl) dX8_isEither_6 (fun r1 σ2 hw H locs hP hD hS => ?_)
  obtain ⟨hF, rfl⟩ := hw
  refine lv_iand hx hb dX8_isEither_9 ?_
  refine lv_topi (fun x3 ex3 => ?_)
  have hF := hF x3 ex3
  refine lv_istore_n (lv' := [(3, .int x3), (0, .ref (ad 4)), (1, .int a1), (2, .int a2)]) hx hb dX8_isEither_10 rfl hl (by decide) rfl (fun ls hl => ?_)
  refine lv_iload_n hx hb dX8_isEither_11 rfl (lv_at hl 0 rfl) ?_
  refine lv_if_eq (tgt := 43) hx hb dX8_isEither_12 (by decide) (fun c4 => ?_) (fun c4 => ?_)
  · have hF := brT hF c4
    refine lv_iconst (v := (0 : Int32)) hx hb dX8_isEither_43 (by decide) ?_
    exact wi_zret hx hb hr hlk hK hP hD hS dX8_isEither_44 (by decide) ⟨hF, rfl⟩
  · have hF := brF hF c4
    refine lv_aload_n hx hb dX8_isEither_15 rfl (lv_at hl 1 rfl) ?_
    refine wi_getr hx hb hg hown hK hP 4 0 1 rfl rfl cb_8 (by decide) kw_176 dX8_isEither_16 ?_
    refine lv_aload_n hx hb dX8_isEither_19 rfl (lv_at hl 1 rfl) ?_
    refine wi_getr hx hb hg hown hK hP 4 0 1 rfl rfl cb_8 (by decide) kw_176 dX8_isEither_20 ?_
    refine wi_getr hx hb hg hown hK hP 1 7 10 rfl rfl cb_4 (by decide) kw_182 dX8_isEither_23 ?_
    refine lv_iload_n hx hb dX8_isEither_26 rfl (lv_at hl 2 rfl) ?_
    obtain ⟨hin, hF⟩ := hF
    refine wi_iald hx hb hK hP 10 rfl hin dX8_isEither_27 (fun v5 ev5 => ?_)
    have hF := hF v5 ev5
    refine lv_aload_n hx hb dX8_isEither_28 rfl (lv_at hl 1 rfl) ?_
    refine wi_geti hx hb hg hown hK hP 4 1 rfl rfl cb_8 (by decide) kw_175 dX8_isEither_29 ?_
    refine lv_iload_n hx hb dX8_isEither_32 rfl (lv_at hl 0 rfl) ?_
    refine wi_callVi (k := 1) (As := [.int v5, .int (σ.1 4 1), .int x3]) (c_X4_hasBothValues l D cy ad tL σ v5 (σ.1 4 1) x3 _ hF) vw_RX8_67 rfl cb_4 hx hb hml hown hg hK hP hD hS hA hLB rfl ⟨Nat.le_of_ble_eq_true rfl, Nat.le_of_ble_eq_true rfl⟩ hl.1 rfl (Nat.le_of_ble_eq_true rfl) dX8_isEither_33 (fun r6 σ7 hw H locs hP hD hS => ?_)
    obtain ⟨hF, rfl⟩ := hw
    refine lv_if_eq (tgt := 43) hx hb dX8_isEither_36 (by decide) (fun c8 => ?_) (fun c8 => ?_)
    · have hF := brT hF c8
      refine lv_iconst (v := (0 : Int32)) hx hb dX8_isEither_43 (by decide) ?_
      exact wi_zret hx hb hr hlk hK hP hD hS dX8_isEither_44 (by decide) ⟨hF, rfl⟩
    · have hF := brF hF c8
      refine lv_iconst (v := (1 : Int32)) hx hb dX8_isEither_39 (by decide) ?_
      refine lv_goto (tgt := 44) hx hb dX8_isEither_40 (by decide) ?_
      exact wi_zret hx hb hr hlk hK hP hD hS dX8_isEither_44 (by decide) ⟨hF, rfl⟩
def w_X8_choose_L39 (x5 : Int32) (J7 : St → Prop) (rec11 : Int32 → St → Prop) (y9 : Int32) (σ10 : St) : Prop := br ((σ10.1 1 1) ≤ y9) (J7 σ10) (br ((((σ10.1 4 2) >>> (y9 &&& 31)) &&& (1 : Int32)) = (1 : Int32)) (rd (σ10.1 14) 10 y9 (fun v15 => w_X8_isEither σ10 v15 x5 (fun r16 => br (r16 = (0 : Int32)) (nm (y9 + (1 : Int32)) (fun x19 => rec11 x19 σ10)) (nm (upI σ10 4 6 ((σ10.1 4 6) ||| ((1 : Int32) <<< (y9 &&& 31)))) (fun σ20 => nm (y9 + (1 : Int32)) (fun x21 => rec11 x21 σ20)))))) (nm (y9 + (1 : Int32)) (fun x14 => rec11 x14 σ10)))
def w_X8_choose (σ : St) (a1 : Int32) (post : St → Prop) : Prop := w_X8_spread a1 (σ.1 4 5) (fun r1 => nm (upI σ 4 4 ((σ.1 4 3) ||| r1)) (fun σ3 => nm (upI σ3 4 6 (0 : Int32)) (fun σ4 => nm ((σ4.1 4 4) ^^^ (σ4.1 4 1)) (fun x5 => br (x5 = (0 : Int32)) (post σ4) (jn (α := St → Prop) (fun (σ8 : St) => post σ8) (fun J7 => lpE2 (w_X8_choose_L39 x5 J7) (0 : Int32) σ4))))))
set_option maxHeartbeats 4000000 in
set_option maxRecDepth 100000 in
theorem c_X8_choose (l : Launch) (D : va_G) (cy : Nat → ClassId) (ad : Nat → Nat) (tL : Nat) (σ : St) (a1 : Int32) (post : St → Prop) (hF : w_X8_choose σ a1 post) : Ctv l yX8_choose cX8_choose 4 none 2 58 D cy ad tL dsC σ [.ref (ad 4), .int a1] post := by
  refine ctv_of (by decide) (Nat.le_of_ble_eq_true rfl) ?_
  intro p e s m args below meth c A hx hb hml hr hlk hg hown hA hK H locs hP hD hS hLB ls hl
  have hown : s.vm.findClass RX8 = some m.cls := hown
  have hl : lv_has ls 4 [(0, .ref (ad 4)), (1, .int a1)] := hl
  refine lv_aload_n hx hb dX8_choose_0 rfl (lv_at hl 0 rfl) ?_
  refine lv_aload_n hx hb dX8_choose_1 rfl (lv_at hl 0 rfl) ?_
  refine wi_geti hx hb hg hown hK hP 4 3 rfl rfl cb_8 (by decide) kw_180 dX8_choose_2 ?_
  refine lv_iload_n hx hb dX8_choose_5 rfl (lv_at hl 1 rfl) ?_
  refine lv_aload_n hx hb dX8_choose_6 rfl (lv_at hl 0 rfl) ?_
  refine wi_geti hx hb hg hown hK hP 4 5 rfl rfl cb_8 (by decide) kw_179 dX8_choose_7 ?_
  refine wi_callSi (As := [.int a1, .int (σ.1 4 5)]) (c_X8_spread l D cy ad tL σ a1 (σ.1 4 5) _ hF) sw_RX8_57 hx hb hml hown hg hK hP hD hS hA hLB rfl ⟨Nat.le_of_ble_eq_true rfl, Nat.le_of_ble_eq_true rfl⟩ hl.1 rfl (Nat.le_of_ble_eq_true rfl) dX8_choose_10 (fun r1 σ2 hw H locs hP hD hS => ?_)
  obtain ⟨hF, rfl⟩ := hw
  refine lv_ior hx hb dX8_choose_13 ?_
  refine wi_puti hx hb hg hown hK hP hD hS 4 4 rfl rfl cb_8 (by decide) kw_194 rfl rfl rfl dX8_choose_14 (fun σ3 eσ3 H locs hP hD hS => ?_)
  have hF := hF σ3 eσ3
  refine lv_aload_n hx hb dX8_choose_17 rfl (lv_at hl 0 rfl) ?_
  refine lv_iconst (v := (0 : Int32)) hx hb dX8_choose_18 (by decide) ?_
  refine wi_puti hx hb hg hown hK hP hD hS 4 6 rfl rfl cb_8 (by decide) kw_195 rfl rfl rfl dX8_choose_19 (fun σ4 eσ4 H locs hP hD hS => ?_)
  have hF := hF σ4 eσ4
  refine lv_aload_n hx hb dX8_choose_22 rfl (lv_at hl 0 rfl) ?_
  refine wi_geti hx hb hg hown hK hP 4 4 rfl rfl cb_8 (by decide) kw_194 dX8_choose_23 ?_
  refine lv_aload_n hx hb dX8_choose_26 rfl (lv_at hl 0 rfl) ?_
  refine wi_geti hx hb hg hown hK hP 4 1 rfl rfl cb_8 (by decide) kw_175 dX8_choose_27 ?_
  refine lv_ixor hx hb dX8_choose_30 ?_
  refine lv_topi (fun x5 ex5 => ?_)
  have hF := hF x5 ex5
  refine lv_istore_n (lv' := [(2, .int x5), (0, .ref (ad 4)), (1, .int a1)]) hx hb dX8_choose_31 rfl hl (by decide) rfl (fun ls hl => ?_)
  refine lv_iload_n hx hb dX8_choose_32 rfl (lv_at hl 0 rfl) ?_
  refine lv_if_ne (tgt := 37) hx hb dX8_choose_33 (by decide) (fun c6 => ?_) (fun c6 => ?_)
  · have hF := brF hF c6
    refine lv_iconst (v := (0 : Int32)) hx hb dX8_choose_37 (by decide) ?_
    refine lv_istore_n (lv' := [(3, .int (0 : Int32)), (2, .int x5), (0, .ref (ad 4)), (1, .int a1)]) hx hb dX8_choose_38 rfl hl (by decide) rfl (fun ls hl => ?_)
    refine jn_use hF (fun K => ∀ (σ8 : St) (H : Heap) (locs : List Loc) (ls : Array Slot), K σ8 → va_P D vwCl (wld cy ad dsC σ8) H → va_D A (wld cy ad dsC σ8) → va_S A s.heap H locs → lv_has ls 4 [] → W p l e (rmO 2 58) s m args below meth c H locs 0 0 (MQ below (va_Qv post (cBk D cy ad dsC A) A) args s 0 0 A) (F0 m 97 ls [])) (fun σ8 H locs ls hF hP hD hS hl => ?_) (fun J7 hJ7 hF => ?_)
    · exact wi_vret hx hb hr hlk hK hP hD hS dX8_choose_97 hF
    · refine lpE2_use hF (fun (y9 : Int32) (σ10 : St) => ∀ (H : Heap) (locs : List Loc) (ls : Array Slot), va_P D vwCl (wld cy ad dsC σ10) H → va_D A (wld cy ad dsC σ10) → va_S A s.heap H locs → lv_has ls 4 [(0, .ref (ad 4)), (2, .int x5), (3, .int y9)] → W p l e (rmO 2 58) s m args below meth c H locs 0 0 (MQ below (va_Qv post (cBk D cy ad dsC A) A) args s 0 0 A) (F0 m 39 ls [])) (fun rec11 hrec11 y9 σ10 hF H locs ls hP hD hS hl => ?_) H locs ls hP hD hS (lv_sub hl [2, 1, 0] rfl)
      refine lv_iload_n hx hb dX8_choose_39 rfl (lv_at hl 2 rfl) ?_
      refine lv_aload_n hx hb dX8_choose_40 rfl (lv_at hl 0 rfl) ?_
      refine wi_getr hx hb hg hown hK hP 4 0 1 rfl rfl cb_8 (by decide) kw_176 dX8_choose_41 ?_
      refine wi_geti hx hb hg hown hK hP 1 1 rfl rfl cb_4 (by decide) kw_181 dX8_choose_44 ?_
      refine lv_icmp_ge (tgt := 97) hx hb dX8_choose_47 (by decide) (fun c12 => ?_) (fun c12 => ?_)
      · have hF := brT hF c12
        exact hJ7 σ10 H locs ls hF hP hD hS (lv_sub hl [] rfl)
      · have hF := brF hF c12
        refine lv_aload_n hx hb dX8_choose_50 rfl (lv_at hl 0 rfl) ?_
        refine wi_geti hx hb hg hown hK hP 4 2 rfl rfl cb_8 (by decide) kw_178 dX8_choose_51 ?_
        refine lv_iload_n hx hb dX8_choose_54 rfl (lv_at hl 2 rfl) ?_
        refine lv_ishr hx hb dX8_choose_55 ?_
        refine lv_iconst (v := (1 : Int32)) hx hb dX8_choose_56 (by decide) ?_
        refine lv_iand hx hb dX8_choose_57 ?_
        refine lv_iconst (v := (1 : Int32)) hx hb dX8_choose_58 (by decide) ?_
        refine lv_icmp_ne (tgt := 91) hx hb dX8_choose_59 (by decide) (fun c13 => ?_) (fun c13 => ?_)
        · have hF := brF hF c13
          obtain ⟨x14, ex14⟩ : ∃ z : Int32, z = (y9 + (1 : Int32)) := ⟨_, rfl⟩
          have hF := hF x14 ex14
          refine lv_iinc (v := x14) (lv' := [(3, .int x14), (0, .ref (ad 4)), (2, .int x5)]) hx hb dX8_choose_91 hl (k := 2) rfl (by rw [ex14]; rfl) (by decide) rfl (fun ls hl => ?_)
          refine lv_goto (tgt := 39) hx hb dX8_choose_94 (by decide) ?_
          exact hrec11 x14 σ10 hF H locs ls hP hD hS (lv_sub hl [1, 2, 0] rfl)
        · have hF := brT hF c13
          refine lv_aload_n hx hb dX8_choose_62 rfl (lv_at hl 0 rfl) ?_
          refine lv_aload_n hx hb dX8_choose_63 rfl (lv_at hl 0 rfl) ?_
          refine wi_getr hx hb hg hown hK hP 4 0 1 rfl rfl cb_8 (by decide) kw_176 dX8_choose_64 ?_
          refine wi_getr hx hb hg hown hK hP 1 11 14 rfl rfl cb_4 (by decide) kw_183 dX8_choose_67 ?_
          refine lv_iload_n hx hb dX8_choose_70 rfl (lv_at hl 2 rfl) ?_
          obtain ⟨hin, hF⟩ := hF
          refine wi_iald hx hb hK hP 14 rfl hin dX8_choose_71 (fun v15 ev15 => ?_)
          have hF := hF v15 ev15
          refine lv_iload_n hx hb dX8_choose_72 rfl (lv_at hl 1 rfl) ?_
          refine wi_callVi (k := 4) (As := [.int v15, .int x5]) (c_X8_isEither l D cy ad tL σ10 v15 x5 _ hF) vw_RX8_60 rfl cb_8 hx hb hml hown hg hK hP hD hS hA hLB rfl ⟨Nat.le_of_ble_eq_true rfl, Nat.le_of_ble_eq_true rfl⟩ hl.1 rfl (Nat.le_of_ble_eq_true rfl) dX8_choose_73 (fun r16 σ17 hw H locs hP hD hS => ?_)
          obtain ⟨hF, rfl⟩ := hw
          refine lv_if_eq (tgt := 91) hx hb dX8_choose_76 (by decide) (fun c18 => ?_) (fun c18 => ?_)
          · have hF := brT hF c18
            obtain ⟨x19, ex19⟩ : ∃ z : Int32, z = (y9 + (1 : Int32)) := ⟨_, rfl⟩
            have hF := hF x19 ex19
            refine lv_iinc (v := x19) (lv' := [(3, .int x19), (0, .ref (ad 4)), (2, .int x5)]) hx hb dX8_choose_91 hl (k := 2) rfl (by rw [ex19]; rfl) (by decide) rfl (fun ls hl => ?_)
            refine lv_goto (tgt := 39) hx hb dX8_choose_94 (by decide) ?_
            exact hrec11 x19 σ10 hF H locs ls hP hD hS (lv_sub hl [1, 2, 0] rfl)
          · have hF := brF hF c18
            refine lv_aload_n hx hb dX8_choose_79 rfl (lv_at hl 0 rfl) ?_
            refine lv_dup hx hb dX8_choose_80 rfl ?_
            refine wi_geti hx hb hg hown hK hP 4 6 rfl rfl cb_8 (by decide) kw_195 dX8_choose_81 ?_
            refine lv_iconst (v := (1 : Int32)) hx hb dX8_choose_84 (by decide) ?_
            refine lv_iload_n hx hb dX8_choose_85 rfl (lv_at hl 2 rfl) ?_
            refine lv_ishl hx hb dX8_choose_86 ?_
            refine lv_ior hx hb dX8_choose_87 ?_
            refine wi_puti hx hb hg hown hK hP hD hS 4 6 rfl rfl cb_8 (by decide) kw_195 rfl rfl rfl dX8_choose_88 (fun σ20 eσ20 H locs hP hD hS => ?_)
            have hF := hF σ20 eσ20
            obtain ⟨x21, ex21⟩ : ∃ z : Int32, z = (y9 + (1 : Int32)) := ⟨_, rfl⟩
            have hF := hF x21 ex21
            refine lv_iinc (v := x21) (lv' := [(3, .int x21), (0, .ref (ad 4)), (2, .int x5)]) hx hb dX8_choose_91 hl (k := 2) rfl (by rw [ex21]; rfl) (by decide) rfl (fun ls hl => ?_)
            refine lv_goto (tgt := 39) hx hb dX8_choose_94 (by decide) ?_
            exact hrec11 x21 σ20 hF H locs ls hP hD hS (lv_sub hl [1, 2, 0] rfl)
  · have hF := brT hF c6
    exact wi_vret hx hb hr hlk hK hP hD hS dX8_choose_36 hF
def w_X8_behind (σ : St) (a1 : Int32) (post : Int32 → Prop) : Prop := w_X8_spread a1 (σ.1 4 6) (fun r1 => post ((σ.1 4 4) ^^^ r1))
set_option maxHeartbeats 4000000 in
set_option maxRecDepth 100000 in
theorem c_X8_behind (l : Launch) (D : va_G) (cy : Nat → ClassId) (ad : Nat → Nat) (tL : Nat) (σ : St) (a1 : Int32) (post : Int32 → Prop) (hF : w_X8_behind σ a1 post) : Cti l yX8_behind cX8_behind 2 (some .int) 1 24 D cy ad tL dsC σ [.ref (ad 4), .int a1] (fun r u => post r ∧ σ = u) := by
  refine cti_of (by decide) (Nat.le_of_ble_eq_true rfl) ?_
  intro p e s m args below meth c A hx hb hml hr hlk hg hown hA hK H locs hP hD hS hLB ls hl
  have hown : s.vm.findClass RX8 = some m.cls := hown
  have hl : lv_has ls 2 [(0, .ref (ad 4)), (1, .int a1)] := hl
  refine lv_aload_n hx hb dX8_behind_0 rfl (lv_at hl 0 rfl) ?_
  refine wi_geti hx hb hg hown hK hP 4 4 rfl rfl cb_8 (by decide) kw_194 dX8_behind_1 ?_
  refine lv_iload_n hx hb dX8_behind_4 rfl (lv_at hl 1 rfl) ?_
  refine lv_aload_n hx hb dX8_behind_5 rfl (lv_at hl 0 rfl) ?_
  refine wi_geti hx hb hg hown hK hP 4 6 rfl rfl cb_8 (by decide) kw_195 dX8_behind_6 ?_
  refine wi_callSi (As := [.int a1, .int (σ.1 4 6)]) (c_X8_spread l D cy ad tL σ a1 (σ.1 4 6) _ hF) sw_RX8_57 hx hb hml hown hg hK hP hD hS hA hLB rfl ⟨Nat.le_of_ble_eq_true rfl, Nat.le_of_ble_eq_true rfl⟩ hl.1 rfl (Nat.le_of_ble_eq_true rfl) dX8_behind_9 (fun r1 σ2 hw H locs hP hD hS => ?_)
  obtain ⟨hF, rfl⟩ := hw
  refine lv_ixor hx hb dX8_behind_12 ?_
  exact wi_iret hx hb hr hlk hK hP hD hS dX8_behind_13 ⟨hF, rfl⟩
def w_X7_go (σ : St) (a1 : Int32) (a2 : Int32) (a3 : Int32) (post : Int32 → St → Prop) : Prop := w_X0_behind σ (σ.2 5 5) a1 (fun r1 => br ((lg_cmp r1 (-1 : Int64)) = (0 : Int32)) (post (-2 : Int32) σ) (br ((σ.1 5 3) < (60 : Int32)) (rd (σ.1 23) 61 (σ.1 5 3) (fun v5 => w_X8_tick σ v5 a1 (fun σ7 => w_X8_choose σ7 a2 (fun σ9 => ck (σ9.1 5 3) 60 (nm (upI σ9 24 ((σ9.1 5 3)).toNatClampNeg a1) (fun σ10 => nm (upI σ10 5 3 ((σ10.1 5 3) + (1 : Int32))) (fun σ11 => w_X8_behind σ11 a3 (fun r12 => ck (σ11.1 5 3) 61 (nm (upI σ11 23 ((σ11.1 5 3)).toNatClampNeg r12) (fun σ14 => nm (upJ σ14 5 5 r1) (fun σ15 => nm (upI σ15 5 4 (σ15.1 4 6)) (fun σ16 => w_J6_bitCount_0f7a4 (σ16.1 5 4) (fun r17 => post r17 σ16))))))))))))) (post (-3 : Int32) σ)))
set_option maxHeartbeats 4000000 in
set_option maxRecDepth 100000 in
theorem c_X7_go (l : Launch) (D : va_G) (cy : Nat → ClassId) (ad : Nat → Nat) (tL : Nat) (σ : St) (a1 : Int32) (a2 : Int32) (a3 : Int32) (post : Int32 → St → Prop) (hF : w_X7_go σ a1 a2 a3 post) : Cti l yX7_go cX7_go 6 (some .int) 3 81 D cy ad tL dsC σ [.ref (ad 5), .int a1, .int a2, .int a3] post := by
  refine cti_of (by decide) (Nat.le_of_ble_eq_true rfl) ?_
  intro p e s m args below meth c A hx hb hml hr hlk hg hown hA hK H locs hP hD hS hLB ls hl
  have hown : s.vm.findClass RX7 = some m.cls := hown
  have hl : lv_has ls 6 [(0, .ref (ad 5)), (1, .int a1), (2, .int a2), (3, .int a3)] := hl
  refine lv_aload_n hx hb dX7_go_0 rfl (lv_at hl 0 rfl) ?_
  refine wi_getr hx hb hg hown hK hP 5 1 2 rfl rfl cb_7 (by decide) kw_169 dX7_go_1 ?_
  refine lv_aload_n hx hb dX7_go_4 rfl (lv_at hl 0 rfl) ?_
  refine wi_getl hx hb hg hown hK hP 5 5 rfl rfl cb_7 (by decide) kw_165 dX7_go_5 ?_
  refine lv_iload_n hx hb dX7_go_8 rfl (lv_at hl 1 rfl) ?_
  refine wi_callVl (k := 2) (As := [.long (σ.2 5 5), .int a1]) (c_X0_behind l D cy ad tL σ (σ.2 5 5) a1 _ hF) vw_RX7_46 rfl cb_0 hx hb hml hown hg hK hP hD hS hA hLB rfl ⟨Nat.le_of_ble_eq_true rfl, Nat.le_of_ble_eq_true rfl⟩ hl.1 rfl (Nat.le_of_ble_eq_true rfl) dX7_go_9 (fun r1 σ2 hw H locs hP hD hS => ?_)
  obtain ⟨hF, rfl⟩ := hw
  refine lv_lstore (lv' := [(4, .long r1), (0, .ref (ad 5)), (1, .int a1), (2, .int a2), (3, .int a3)]) hx hb dX7_go_12 hl (by decide) rfl (fun ls hl => ?_)
  refine lv_lload hx hb dX7_go_14 (lv_at hl 0 rfl) ?_
  refine lv_ldc2 (v := (-1 : Int64)) hx hb hown (hg _ kw_204) dX7_go_16 ?_
  refine W.lcmp hx hb dX7_go_19 ?_
  refine lv_if_ne (tgt := 26) hx hb dX7_go_20 (by decide) (fun c3 => ?_) (fun c3 => ?_)
  · have hF := brF hF c3
    refine lv_aload_n hx hb dX7_go_26 rfl (lv_at hl 1 rfl) ?_
    refine wi_geti hx hb hg hown hK hP 5 3 rfl rfl cb_7 (by decide) kw_163 dX7_go_27 ?_
    refine lv_bipush (v := (60 : Int32)) hx hb dX7_go_30 (by decide) ?_
    refine lv_icmp_lt (tgt := 38) hx hb dX7_go_32 (by decide) (fun c4 => ?_) (fun c4 => ?_)
    · have hF := brT hF c4
      refine lv_aload_n hx hb dX7_go_38 rfl (lv_at hl 1 rfl) ?_
      refine wi_getr hx hb hg hown hK hP 5 2 4 rfl rfl cb_7 (by decide) kw_170 dX7_go_39 ?_
      refine lv_aload_n hx hb dX7_go_42 rfl (lv_at hl 1 rfl) ?_
      refine wi_getr hx hb hg hown hK hP 5 6 23 rfl rfl cb_7 (by decide) kw_166 dX7_go_43 ?_
      refine lv_aload_n hx hb dX7_go_46 rfl (lv_at hl 1 rfl) ?_
      refine wi_geti hx hb hg hown hK hP 5 3 rfl rfl cb_7 (by decide) kw_163 dX7_go_47 ?_
      obtain ⟨hin, hF⟩ := hF
      refine wi_iald hx hb hK hP 23 rfl hin dX7_go_50 (fun v5 ev5 => ?_)
      have hF := hF v5 ev5
      refine lv_iload_n hx hb dX7_go_51 rfl (lv_at hl 2 rfl) ?_
      refine wi_callVv (k := 4) (As := [.int v5, .int a1]) (c_X8_tick l D cy ad tL σ v5 a1 _ hF) vw_RX7_54 rfl cb_8 hx hb hml hown hg hK hP hD hS hA hLB rfl ⟨Nat.le_of_ble_eq_true rfl, Nat.le_of_ble_eq_true rfl⟩ hl.1 rfl (Nat.le_of_ble_eq_true rfl) dX7_go_52 (fun σ7 hw H locs hP hD hS => ?_)
      have hF := hw
      refine lv_aload_n hx hb dX7_go_55 rfl (lv_at hl 1 rfl) ?_
      refine wi_getr hx hb hg hown hK hP 5 2 4 rfl rfl cb_7 (by decide) kw_170 dX7_go_56 ?_
      refine lv_iload_n hx hb dX7_go_59 rfl (lv_at hl 3 rfl) ?_
      refine wi_callVv (k := 4) (As := [.int a2]) (c_X8_choose l D cy ad tL σ7 a2 _ hF) vw_RX7_60 rfl cb_8 hx hb hml hown hg hK hP hD hS hA hLB rfl ⟨Nat.le_of_ble_eq_true rfl, Nat.le_of_ble_eq_true rfl⟩ hl.1 rfl (Nat.le_of_ble_eq_true rfl) dX7_go_60 (fun σ9 hw H locs hP hD hS => ?_)
      have hF := hw
      refine lv_aload_n hx hb dX7_go_63 rfl (lv_at hl 1 rfl) ?_
      refine wi_getr hx hb hg hown hK hP 5 7 24 rfl rfl cb_7 (by decide) kw_167 dX7_go_64 ?_
      refine lv_aload_n hx hb dX7_go_67 rfl (lv_at hl 1 rfl) ?_
      refine wi_geti hx hb hg hown hK hP 5 3 rfl rfl cb_7 (by decide) kw_163 dX7_go_68 ?_
      refine lv_iload_n hx hb dX7_go_71 rfl (lv_at hl 2 rfl) ?_
      obtain ⟨hin, hF⟩ := hF
      refine wi_iast hx hb hK hP hD hS 24 rfl hin dX7_go_72 (fun σ10 eσ10 H locs hP hD hS => ?_)
      have hF := hF σ10 eσ10
      refine lv_aload_n hx hb dX7_go_73 rfl (lv_at hl 1 rfl) ?_
      refine lv_dup hx hb dX7_go_74 rfl ?_
      refine wi_geti hx hb hg hown hK hP 5 3 rfl rfl cb_7 (by decide) kw_163 dX7_go_75 ?_
      refine lv_iconst (v := (1 : Int32)) hx hb dX7_go_78 (by decide) ?_
      refine lv_iadd hx hb dX7_go_79 ?_
      refine wi_puti hx hb hg hown hK hP hD hS 5 3 rfl rfl cb_7 (by decide) kw_163 rfl rfl rfl dX7_go_80 (fun σ11 eσ11 H locs hP hD hS => ?_)
      have hF := hF σ11 eσ11
      refine lv_aload_n hx hb dX7_go_83 rfl (lv_at hl 1 rfl) ?_
      refine wi_getr hx hb hg hown hK hP 5 6 23 rfl rfl cb_7 (by decide) kw_166 dX7_go_84 ?_
      refine lv_aload_n hx hb dX7_go_87 rfl (lv_at hl 1 rfl) ?_
      refine wi_geti hx hb hg hown hK hP 5 3 rfl rfl cb_7 (by decide) kw_163 dX7_go_88 ?_
      refine lv_aload_n hx hb dX7_go_91 rfl (lv_at hl 1 rfl) ?_
      refine wi_getr hx hb hg hown hK hP 5 2 4 rfl rfl cb_7 (by decide) kw_170 dX7_go_92 ?_
      refine lv_iload_n hx hb dX7_go_95 rfl (lv_at hl 4 rfl) ?_
      refine wi_callVi (k := 4) (As := [.int a3]) (c_X8_behind l D cy ad tL σ11 a3 _ hF) vw_RX7_64 rfl cb_8 hx hb hml hown hg hK hP hD hS hA hLB rfl ⟨Nat.le_of_ble_eq_true rfl, Nat.le_of_ble_eq_true rfl⟩ hl.1 rfl (Nat.le_of_ble_eq_true rfl) dX7_go_96 (fun r12 σ13 hw H locs hP hD hS => ?_)
      obtain ⟨hF, rfl⟩ := hw
      obtain ⟨hin, hF⟩ := hF
      refine wi_iast hx hb hK hP hD hS 23 rfl hin dX7_go_99 (fun σ14 eσ14 H locs hP hD hS => ?_)
      have hF := hF σ14 eσ14
      refine lv_aload_n hx hb dX7_go_100 rfl (lv_at hl 1 rfl) ?_
      refine lv_lload hx hb dX7_go_101 (lv_at hl 0 rfl) ?_
      refine wi_putl hx hb hg hown hK hP hD hS 5 5 rfl rfl cb_7 (by decide) kw_165 rfl rfl rfl dX7_go_103 (fun σ15 eσ15 H locs hP hD hS => ?_)
      have hF := hF σ15 eσ15
      refine lv_aload_n hx hb dX7_go_106 rfl (lv_at hl 1 rfl) ?_
      refine lv_aload_n hx hb dX7_go_107 rfl (lv_at hl 1 rfl) ?_
      refine wi_getr hx hb hg hown hK hP 5 2 4 rfl rfl cb_7 (by decide) kw_170 dX7_go_108 ?_
      refine wi_geti hx hb hg hown hK hP 4 6 rfl rfl cb_8 (by decide) kw_205 dX7_go_111 ?_
      refine wi_puti hx hb hg hown hK hP hD hS 5 4 rfl rfl cb_7 (by decide) kw_164 rfl rfl rfl dX7_go_114 (fun σ16 eσ16 H locs hP hD hS => ?_)
      have hF := hF σ16 eσ16
      refine lv_aload_n hx hb dX7_go_117 rfl (lv_at hl 1 rfl) ?_
      refine wi_geti hx hb hg hown hK hP 5 4 rfl rfl cb_7 (by decide) kw_164 dX7_go_118 ?_
      refine wi_callSi (As := [.int (σ16.1 5 4)]) (c_J6_bitCount_0f7a4 l D cy ad tL σ16 (σ16.1 5 4) _ hF) sw_RX7_68 hx hb hml hown hg hK hP hD hS hA hLB rfl ⟨Nat.le_of_ble_eq_true rfl, Nat.le_of_ble_eq_true rfl⟩ hl.1 rfl (Nat.le_of_ble_eq_true rfl) dX7_go_121 (fun r17 σ18 hw H locs hP hD hS => ?_)
      obtain ⟨hF, rfl⟩ := hw
      exact wi_iret hx hb hr hlk hK hP hD hS dX7_go_124 hF
    · have hF := brF hF c4
      refine lv_bipush (v := (-3 : Int32)) hx hb dX7_go_35 (by decide) ?_
      exact wi_iret hx hb hr hlk hK hP hD hS dX7_go_37 hF
  · have hF := brT hF c3
    refine lv_bipush (v := (-2 : Int32)) hx hb dX7_go_23 (by decide) ?_
    exact wi_iret hx hb hr hlk hK hP hD hS dX7_go_25 hF
def w_X9_hasState (σ : St) (a1 : Int32) (post : Int32 → Prop) : Prop := br (a1 < (0 : Int32)) (post (0 : Int32)) (br ((σ.1 6 5) ≤ a1) (post (0 : Int32)) (post (1 : Int32)))
set_option maxHeartbeats 4000000 in
set_option maxRecDepth 100000 in
theorem c_X9_hasState (l : Launch) (D : va_G) (cy : Nat → ClassId) (ad : Nat → Nat) (tL : Nat) (σ : St) (a1 : Int32) (post : Int32 → Prop) (hF : w_X9_hasState σ a1 post) : Cti l yX9_hasState cX9_hasState 2 (some .boolean) 0 0 D cy ad tL dsC σ [.ref (ad 6), .int a1] (fun r u => post r ∧ σ = u) := by
  refine cti_of (by decide) (Nat.le_of_ble_eq_true rfl) ?_
  intro p e s m args below meth c A hx hb hml hr hlk hg hown hA hK H locs hP hD hS hLB ls hl
  have hown : s.vm.findClass RX9 = some m.cls := hown
  have hl : lv_has ls 2 [(0, .ref (ad 6)), (1, .int a1)] := hl
  refine lv_iload_n hx hb dX9_hasState_0 rfl (lv_at hl 1 rfl) ?_
  refine lv_if_lt (tgt := 16) hx hb dX9_hasState_1 (by decide) (fun c1 => ?_) (fun c1 => ?_)
  · have hF := brT hF c1
    refine lv_iconst (v := (0 : Int32)) hx hb dX9_hasState_16 (by decide) ?_
    exact wi_zret hx hb hr hlk hK hP hD hS dX9_hasState_17 (by decide) ⟨hF, rfl⟩
  · have hF := brF hF c1
    refine lv_iload_n hx hb dX9_hasState_4 rfl (lv_at hl 1 rfl) ?_
    refine lv_aload_n hx hb dX9_hasState_5 rfl (lv_at hl 0 rfl) ?_
    refine wi_geti hx hb hg hown hK hP 6 5 rfl rfl cb_9 (by decide) kw_235 dX9_hasState_6 ?_
    refine lv_icmp_ge (tgt := 16) hx hb dX9_hasState_9 (by decide) (fun c2 => ?_) (fun c2 => ?_)
    · have hF := brT hF c2
      refine lv_iconst (v := (0 : Int32)) hx hb dX9_hasState_16 (by decide) ?_
      exact wi_zret hx hb hr hlk hK hP hD hS dX9_hasState_17 (by decide) ⟨hF, rfl⟩
    · have hF := brF hF c2
      refine lv_iconst (v := (1 : Int32)) hx hb dX9_hasState_12 (by decide) ?_
      refine lv_goto (tgt := 17) hx hb dX9_hasState_13 (by decide) ?_
      exact wi_zret hx hb hr hlk hK hP hD hS dX9_hasState_17 (by decide) ⟨hF, rfl⟩
def w_X9_breaks (σ : St) (a1 : Int32) (post : Int32 → Prop) : Prop := rd (σ.1 30) 40 (((a1 * (5 : Int32)) + (5 : Int32)) - (1 : Int32)) (fun v1 => br (v1 = (-2 : Int32)) (post (0 : Int32)) (post (1 : Int32)))
set_option maxHeartbeats 4000000 in
set_option maxRecDepth 100000 in
theorem c_X9_breaks (l : Launch) (D : va_G) (cy : Nat → ClassId) (ad : Nat → Nat) (tL : Nat) (σ : St) (a1 : Int32) (post : Int32 → Prop) (hF : w_X9_breaks σ a1 post) : Cti l yX9_breaks cX9_breaks 2 (some .boolean) 0 0 D cy ad tL dsC σ [.ref (ad 6), .int a1] (fun r u => post r ∧ σ = u) := by
  refine cti_of (by decide) (Nat.le_of_ble_eq_true rfl) ?_
  intro p e s m args below meth c A hx hb hml hr hlk hg hown hA hK H locs hP hD hS hLB ls hl
  have hown : s.vm.findClass RX9 = some m.cls := hown
  have hl : lv_has ls 2 [(0, .ref (ad 6)), (1, .int a1)] := hl
  refine lv_aload_n hx hb dX9_breaks_0 rfl (lv_at hl 0 rfl) ?_
  refine wi_getr hx hb hg hown hK hP 6 14 30 rfl rfl cb_9 (by decide) kw_244 dX9_breaks_1 ?_
  refine lv_iload_n hx hb dX9_breaks_4 rfl (lv_at hl 1 rfl) ?_
  refine lv_iconst (v := (5 : Int32)) hx hb dX9_breaks_5 (by decide) ?_
  refine lv_imul hx hb dX9_breaks_6 ?_
  refine lv_iconst (v := (5 : Int32)) hx hb dX9_breaks_7 (by decide) ?_
  refine lv_iadd hx hb dX9_breaks_8 ?_
  refine lv_iconst (v := (1 : Int32)) hx hb dX9_breaks_9 (by decide) ?_
  refine lv_isub hx hb dX9_breaks_10 ?_
  obtain ⟨hin, hF⟩ := hF
  refine wi_iald hx hb hK hP 30 rfl hin dX9_breaks_11 (fun v1 ev1 => ?_)
  have hF := hF v1 ev1
  refine lv_bipush (v := (-2 : Int32)) hx hb dX9_breaks_12 (by decide) ?_
  refine lv_icmp_eq (tgt := 21) hx hb dX9_breaks_14 (by decide) (fun c2 => ?_) (fun c2 => ?_)
  · have hF := brT hF c2
    refine lv_iconst (v := (0 : Int32)) hx hb dX9_breaks_21 (by decide) ?_
    exact wi_zret hx hb hr hlk hK hP hD hS dX9_breaks_22 (by decide) ⟨hF, rfl⟩
  · have hF := brF hF c2
    refine lv_iconst (v := (1 : Int32)) hx hb dX9_breaks_17 (by decide) ?_
    refine lv_goto (tgt := 22) hx hb dX9_breaks_18 (by decide) ?_
    exact wi_zret hx hb hr hlk hK hP hD hS dX9_breaks_22 (by decide) ⟨hF, rfl⟩
def w_X9_forget (σ : St) (post : St → Prop) : Prop := nm (upI σ 6 5 (0 : Int32)) (fun σ1 => nm (upI σ1 6 6 (0 : Int32)) (fun σ2 => nm (upI σ2 6 7 (0 : Int32)) (fun σ3 => nm (upI σ3 6 8 (0 : Int32)) (fun σ4 => post σ4))))
set_option maxHeartbeats 4000000 in
set_option maxRecDepth 100000 in
theorem c_X9_forget (l : Launch) (D : va_G) (cy : Nat → ClassId) (ad : Nat → Nat) (tL : Nat) (σ : St) (post : St → Prop) (hF : w_X9_forget σ post) : Ctv l yX9_forget cX9_forget 1 none 0 0 D cy ad tL dsC σ [.ref (ad 6)] post := by
  refine ctv_of (by decide) (Nat.le_of_ble_eq_true rfl) ?_
  intro p e s m args below meth c A hx hb hml hr hlk hg hown hA hK H locs hP hD hS hLB ls hl
  have hown : s.vm.findClass RX9 = some m.cls := hown
  have hl : lv_has ls 1 [(0, .ref (ad 6))] := hl
  refine lv_aload_n hx hb dX9_forget_0 rfl (lv_at hl 0 rfl) ?_
  refine lv_iconst (v := (0 : Int32)) hx hb dX9_forget_1 (by decide) ?_
  refine wi_puti hx hb hg hown hK hP hD hS 6 5 rfl rfl cb_9 (by decide) kw_235 rfl rfl rfl dX9_forget_2 (fun σ1 eσ1 H locs hP hD hS => ?_)
  have hF := hF σ1 eσ1
  refine lv_aload_n hx hb dX9_forget_5 rfl (lv_at hl 0 rfl) ?_
  refine lv_iconst (v := (0 : Int32)) hx hb dX9_forget_6 (by decide) ?_
  refine wi_puti hx hb hg hown hK hP hD hS 6 6 rfl rfl cb_9 (by decide) kw_236 rfl rfl rfl dX9_forget_7 (fun σ2 eσ2 H locs hP hD hS => ?_)
  have hF := hF σ2 eσ2
  refine lv_aload_n hx hb dX9_forget_10 rfl (lv_at hl 0 rfl) ?_
  refine lv_iconst (v := (0 : Int32)) hx hb dX9_forget_11 (by decide) ?_
  refine wi_puti hx hb hg hown hK hP hD hS 6 7 rfl rfl cb_9 (by decide) kw_237 rfl rfl rfl dX9_forget_12 (fun σ3 eσ3 H locs hP hD hS => ?_)
  have hF := hF σ3 eσ3
  refine lv_aload_n hx hb dX9_forget_15 rfl (lv_at hl 0 rfl) ?_
  refine lv_iconst (v := (0 : Int32)) hx hb dX9_forget_16 (by decide) ?_
  refine wi_puti hx hb hg hown hK hP hD hS 6 8 rfl rfl cb_9 (by decide) kw_238 rfl (by decide) (by decide) dX9_forget_17 (fun σ4 eσ4 H locs hP hD hS => ?_)
  have hF := hF σ4 eσ4
  exact wi_vret hx hb hr hlk hK hP hD hS dX9_forget_20 hF
def w_J7_fill_d0a16_33_L6 (a2 : Int64) (J1 : St → Prop) (rec5 : Int32 → St → Prop) (y3 : Int32) (σ4 : St) : Prop := br ((4000 : Int32) ≤ y3) (J1 σ4) (ck y3 4000 (nm (upJ σ4 33 (y3).toNatClampNeg a2) (fun σ7 => nm (y3 + (1 : Int32)) (fun x8 => rec5 x8 σ7))))
def w_J7_fill_d0a16_33 (σ : St) (a2 : Int64) (post : St → Prop) : Prop := jn (α := St → Prop) (fun (σ2 : St) => post σ2) (fun J1 => lpE2 (w_J7_fill_d0a16_33_L6 a2 J1) (0 : Int32) σ)
set_option maxHeartbeats 4000000 in
set_option maxRecDepth 100000 in
theorem c_J7_fill_d0a16_33 (l : Launch) (D : va_G) (cy : Nat → ClassId) (ad : Nat → Nat) (tL : Nat) (σ : St) (a2 : Int64) (post : St → Prop) (hF : w_J7_fill_d0a16_33 σ a2 post) : Ctv l yJ7_fill_d0a16 cJ7_fill_d0a16 5 none 0 0 D cy ad tL dsC σ [.ref (ad 33), .long a2] post := by
  refine ctv_of (by decide) (Nat.le_of_ble_eq_true rfl) ?_
  intro p e s m args below meth c A hx hb hml hr hlk hg hown hA hK H locs hP hD hS hLB ls hl
  have hown : s.vm.findClass RJ7 = some m.cls := hown
  have hl : lv_has ls 5 [(0, .ref (ad 33)), (1, .long a2)] := hl
  refine lv_iconst (v := (0 : Int32)) hx hb dJ7_fill_d0a16_0 (by decide) ?_
  refine lv_istore_n (lv' := [(3, .int (0 : Int32)), (0, .ref (ad 33)), (1, .long a2)]) hx hb dJ7_fill_d0a16_1 rfl hl (by decide) rfl (fun ls hl => ?_)
  refine lv_aload_n hx hb dJ7_fill_d0a16_2 rfl (lv_at hl 1 rfl) ?_
  refine wi_alen1 (v := 4000) hx hb hK hP 33 rfl (by decide) dJ7_fill_d0a16_3 ?_
  refine lv_istore (lv' := [(4, .int (4000 : Int32)), (3, .int (0 : Int32)), (0, .ref (ad 33)), (1, .long a2)]) hx hb dJ7_fill_d0a16_4 hl (by decide) rfl (fun ls hl => ?_)
  refine jn_use hF (fun K => ∀ (σ2 : St) (H : Heap) (locs : List Loc) (ls : Array Slot), K σ2 → va_P D vwCl (wld cy ad dsC σ2) H → va_D A (wld cy ad dsC σ2) → va_S A s.heap H locs → lv_has ls 5 [] → W p l e (rmO 0 0) s m args below meth c H locs 0 0 (MQ below (va_Qv post (cBk D cy ad dsC A) A) args s 0 0 A) (F0 m 22 ls [])) (fun σ2 H locs ls hF hP hD hS hl => ?_) (fun J1 hJ1 hF => ?_)
  · exact wi_vret hx hb hr hlk hK hP hD hS dJ7_fill_d0a16_22 hF
  · refine lpE2_use hF (fun (y3 : Int32) (σ4 : St) => ∀ (H : Heap) (locs : List Loc) (ls : Array Slot), va_P D vwCl (wld cy ad dsC σ4) H → va_D A (wld cy ad dsC σ4) → va_S A s.heap H locs → lv_has ls 5 [(0, .ref (ad 33)), (1, .long a2), (3, .int y3), (4, .int (4000 : Int32))] → W p l e (rmO 0 0) s m args below meth c H locs 0 0 (MQ below (va_Qv post (cBk D cy ad dsC A) A) args s 0 0 A) (F0 m 6 ls [])) (fun rec5 hrec5 y3 σ4 hF H locs ls hP hD hS hl => ?_) H locs ls hP hD hS (lv_sub hl [2, 3, 1, 0] rfl)
    refine lv_iload_n hx hb dJ7_fill_d0a16_6 rfl (lv_at hl 2 rfl) ?_
    refine lv_iload hx hb dJ7_fill_d0a16_7 (lv_at hl 3 rfl) ?_
    refine lv_icmp_ge (tgt := 22) hx hb dJ7_fill_d0a16_9 (by decide) (fun c6 => ?_) (fun c6 => ?_)
    · have hF := brT hF c6
      exact hJ1 σ4 H locs ls hF hP hD hS (lv_sub hl [] rfl)
    · have hF := brF hF c6
      refine lv_aload_n hx hb dJ7_fill_d0a16_12 rfl (lv_at hl 0 rfl) ?_
      refine lv_iload_n hx hb dJ7_fill_d0a16_13 rfl (lv_at hl 2 rfl) ?_
      refine lv_lload_n hx hb dJ7_fill_d0a16_14 rfl (lv_at hl 1 rfl) ?_
      obtain ⟨hin, hF⟩ := hF
      refine wi_last hx hb hK hP hD hS 33 rfl hin dJ7_fill_d0a16_15 (fun σ7 eσ7 H locs hP hD hS => ?_)
      have hF := hF σ7 eσ7
      obtain ⟨x8, ex8⟩ : ∃ z : Int32, z = (y3 + (1 : Int32)) := ⟨_, rfl⟩
      have hF := hF x8 ex8
      refine lv_iinc (v := x8) (lv' := [(3, .int x8), (0, .ref (ad 33)), (1, .long a2), (4, .int (4000 : Int32))]) hx hb dJ7_fill_d0a16_16 hl (k := 2) rfl (by rw [ex8]; rfl) (by decide) rfl (fun ls hl => ?_)
      refine lv_goto (tgt := 6) hx hb dJ7_fill_d0a16_19 (by decide) ?_
      exact hrec5 x8 σ7 hF H locs ls hP hD hS (lv_sub hl [1, 2, 0, 3] rfl)
def w_X10_clear (σ : St) (post : St → Prop) : Prop := nm (upI σ 7 4 (0 : Int32)) (fun σ1 => w_J7_fill_d0a16_33 σ1 (0 : Int64) (fun σ3 => post σ3))
set_option maxHeartbeats 4000000 in
set_option maxRecDepth 100000 in
theorem c_X10_clear (l : Launch) (D : va_G) (cy : Nat → ClassId) (ad : Nat → Nat) (tL : Nat) (σ : St) (post : St → Prop) (hF : w_X10_clear σ post) : Ctv l yX10_clear cX10_clear 1 none 1 24 D cy ad tL dsC σ [.ref (ad 7)] post := by
  refine ctv_of (by decide) (Nat.le_of_ble_eq_true rfl) ?_
  intro p e s m args below meth c A hx hb hml hr hlk hg hown hA hK H locs hP hD hS hLB ls hl
  have hown : s.vm.findClass RX10 = some m.cls := hown
  have hl : lv_has ls 1 [(0, .ref (ad 7))] := hl
  refine lv_aload_n hx hb dX10_clear_0 rfl (lv_at hl 0 rfl) ?_
  refine lv_iconst (v := (0 : Int32)) hx hb dX10_clear_1 (by decide) ?_
  refine wi_puti hx hb hg hown hK hP hD hS 7 4 rfl rfl cb_10 (by decide) kw_229 rfl (by decide) (by decide) dX10_clear_2 (fun σ1 eσ1 H locs hP hD hS => ?_)
  have hF := hF σ1 eσ1
  refine lv_aload_n hx hb dX10_clear_5 rfl (lv_at hl 0 rfl) ?_
  refine wi_getr hx hb hg hown hK hP 7 0 33 rfl rfl cb_10 (by decide) kw_224 dX10_clear_6 ?_
  refine lv_lconst (v := (0 : Int64)) hx hb dX10_clear_9 (by decide) ?_
  refine wi_callSv (As := [.ref (ad 33), .long (0 : Int64)]) (c_J7_fill_d0a16_33 l D cy ad tL σ1 (0 : Int64) _ hF) sw_RX10_30 hx hb hml hown hg hK hP hD hS hA hLB rfl ⟨Nat.le_of_ble_eq_true rfl, Nat.le_of_ble_eq_true rfl⟩ hl.1 rfl (Nat.le_of_ble_eq_true rfl) dX10_clear_10 (fun σ3 hw H locs hP hD hS => ?_)
  have hF := hw
  exact wi_vret hx hb hr hlk hK hP hD hS dX10_clear_13 hF
def w_J7_fill_53178_31_L5 (a2 : Int32) (J1 : St → Prop) (rec5 : Int32 → St → Prop) (y3 : Int32) (σ4 : St) : Prop := br ((512 : Int32) ≤ y3) (J1 σ4) (ck y3 512 (nm (upI σ4 31 (y3).toNatClampNeg a2) (fun σ7 => nm (y3 + (1 : Int32)) (fun x8 => rec5 x8 σ7))))
def w_J7_fill_53178_31 (σ : St) (a2 : Int32) (post : St → Prop) : Prop := jn (α := St → Prop) (fun (σ2 : St) => post σ2) (fun J1 => lpE2 (w_J7_fill_53178_31_L5 a2 J1) (0 : Int32) σ)
set_option maxHeartbeats 4000000 in
set_option maxRecDepth 100000 in
theorem c_J7_fill_53178_31 (l : Launch) (D : va_G) (cy : Nat → ClassId) (ad : Nat → Nat) (tL : Nat) (σ : St) (a2 : Int32) (post : St → Prop) (hF : w_J7_fill_53178_31 σ a2 post) : Ctv l yJ7_fill_53178 cJ7_fill_53178 4 none 0 0 D cy ad tL dsC σ [.ref (ad 31), .int a2] post := by
  refine ctv_of (by decide) (Nat.le_of_ble_eq_true rfl) ?_
  intro p e s m args below meth c A hx hb hml hr hlk hg hown hA hK H locs hP hD hS hLB ls hl
  have hown : s.vm.findClass RJ7 = some m.cls := hown
  have hl : lv_has ls 4 [(0, .ref (ad 31)), (1, .int a2)] := hl
  refine lv_iconst (v := (0 : Int32)) hx hb dJ7_fill_53178_0 (by decide) ?_
  refine lv_istore_n (lv' := [(2, .int (0 : Int32)), (0, .ref (ad 31)), (1, .int a2)]) hx hb dJ7_fill_53178_1 rfl hl (by decide) rfl (fun ls hl => ?_)
  refine lv_aload_n hx hb dJ7_fill_53178_2 rfl (lv_at hl 1 rfl) ?_
  refine wi_alen0 (v := 512) hx hb hK hP 31 rfl (by decide) dJ7_fill_53178_3 ?_
  refine lv_istore_n (lv' := [(3, .int (512 : Int32)), (2, .int (0 : Int32)), (0, .ref (ad 31)), (1, .int a2)]) hx hb dJ7_fill_53178_4 rfl hl (by decide) rfl (fun ls hl => ?_)
  refine jn_use hF (fun K => ∀ (σ2 : St) (H : Heap) (locs : List Loc) (ls : Array Slot), K σ2 → va_P D vwCl (wld cy ad dsC σ2) H → va_D A (wld cy ad dsC σ2) → va_S A s.heap H locs → lv_has ls 4 [] → W p l e (rmO 0 0) s m args below meth c H locs 0 0 (MQ below (va_Qv post (cBk D cy ad dsC A) A) args s 0 0 A) (F0 m 20 ls [])) (fun σ2 H locs ls hF hP hD hS hl => ?_) (fun J1 hJ1 hF => ?_)
  · exact wi_vret hx hb hr hlk hK hP hD hS dJ7_fill_53178_20 hF
  · refine lpE2_use hF (fun (y3 : Int32) (σ4 : St) => ∀ (H : Heap) (locs : List Loc) (ls : Array Slot), va_P D vwCl (wld cy ad dsC σ4) H → va_D A (wld cy ad dsC σ4) → va_S A s.heap H locs → lv_has ls 4 [(0, .ref (ad 31)), (1, .int a2), (2, .int y3), (3, .int (512 : Int32))] → W p l e (rmO 0 0) s m args below meth c H locs 0 0 (MQ below (va_Qv post (cBk D cy ad dsC A) A) args s 0 0 A) (F0 m 5 ls [])) (fun rec5 hrec5 y3 σ4 hF H locs ls hP hD hS hl => ?_) H locs ls hP hD hS (lv_sub hl [2, 3, 1, 0] rfl)
    refine lv_iload_n hx hb dJ7_fill_53178_5 rfl (lv_at hl 2 rfl) ?_
    refine lv_iload_n hx hb dJ7_fill_53178_6 rfl (lv_at hl 3 rfl) ?_
    refine lv_icmp_ge (tgt := 20) hx hb dJ7_fill_53178_7 (by decide) (fun c6 => ?_) (fun c6 => ?_)
    · have hF := brT hF c6
      exact hJ1 σ4 H locs ls hF hP hD hS (lv_sub hl [] rfl)
    · have hF := brF hF c6
      refine lv_aload_n hx hb dJ7_fill_53178_10 rfl (lv_at hl 0 rfl) ?_
      refine lv_iload_n hx hb dJ7_fill_53178_11 rfl (lv_at hl 2 rfl) ?_
      refine lv_iload_n hx hb dJ7_fill_53178_12 rfl (lv_at hl 1 rfl) ?_
      obtain ⟨hin, hF⟩ := hF
      refine wi_iast hx hb hK hP hD hS 31 rfl hin dJ7_fill_53178_13 (fun σ7 eσ7 H locs hP hD hS => ?_)
      have hF := hF σ7 eσ7
      obtain ⟨x8, ex8⟩ : ∃ z : Int32, z = (y3 + (1 : Int32)) := ⟨_, rfl⟩
      have hF := hF x8 ex8
      refine lv_iinc (v := x8) (lv' := [(2, .int x8), (0, .ref (ad 31)), (1, .int a2), (3, .int (512 : Int32))]) hx hb dJ7_fill_53178_14 hl (k := 2) rfl (by rw [ex8]; rfl) (by decide) rfl (fun ls hl => ?_)
      refine lv_goto (tgt := 5) hx hb dJ7_fill_53178_17 (by decide) ?_
      exact hrec5 x8 σ7 hF H locs ls hP hD hS (lv_sub hl [1, 2, 0, 3] rfl)
def w_J7_fill_53178_30_L5 (a2 : Int32) (J1 : St → Prop) (rec5 : Int32 → St → Prop) (y3 : Int32) (σ4 : St) : Prop := br ((40 : Int32) ≤ y3) (J1 σ4) (ck y3 40 (nm (upI σ4 30 (y3).toNatClampNeg a2) (fun σ7 => nm (y3 + (1 : Int32)) (fun x8 => rec5 x8 σ7))))
def w_J7_fill_53178_30 (σ : St) (a2 : Int32) (post : St → Prop) : Prop := jn (α := St → Prop) (fun (σ2 : St) => post σ2) (fun J1 => lpE2 (w_J7_fill_53178_30_L5 a2 J1) (0 : Int32) σ)
set_option maxHeartbeats 4000000 in
set_option maxRecDepth 100000 in
theorem c_J7_fill_53178_30 (l : Launch) (D : va_G) (cy : Nat → ClassId) (ad : Nat → Nat) (tL : Nat) (σ : St) (a2 : Int32) (post : St → Prop) (hF : w_J7_fill_53178_30 σ a2 post) : Ctv l yJ7_fill_53178 cJ7_fill_53178 4 none 0 0 D cy ad tL dsC σ [.ref (ad 30), .int a2] post := by
  refine ctv_of (by decide) (Nat.le_of_ble_eq_true rfl) ?_
  intro p e s m args below meth c A hx hb hml hr hlk hg hown hA hK H locs hP hD hS hLB ls hl
  have hown : s.vm.findClass RJ7 = some m.cls := hown
  have hl : lv_has ls 4 [(0, .ref (ad 30)), (1, .int a2)] := hl
  refine lv_iconst (v := (0 : Int32)) hx hb dJ7_fill_53178_0 (by decide) ?_
  refine lv_istore_n (lv' := [(2, .int (0 : Int32)), (0, .ref (ad 30)), (1, .int a2)]) hx hb dJ7_fill_53178_1 rfl hl (by decide) rfl (fun ls hl => ?_)
  refine lv_aload_n hx hb dJ7_fill_53178_2 rfl (lv_at hl 1 rfl) ?_
  refine wi_alen0 (v := 40) hx hb hK hP 30 rfl (by decide) dJ7_fill_53178_3 ?_
  refine lv_istore_n (lv' := [(3, .int (40 : Int32)), (2, .int (0 : Int32)), (0, .ref (ad 30)), (1, .int a2)]) hx hb dJ7_fill_53178_4 rfl hl (by decide) rfl (fun ls hl => ?_)
  refine jn_use hF (fun K => ∀ (σ2 : St) (H : Heap) (locs : List Loc) (ls : Array Slot), K σ2 → va_P D vwCl (wld cy ad dsC σ2) H → va_D A (wld cy ad dsC σ2) → va_S A s.heap H locs → lv_has ls 4 [] → W p l e (rmO 0 0) s m args below meth c H locs 0 0 (MQ below (va_Qv post (cBk D cy ad dsC A) A) args s 0 0 A) (F0 m 20 ls [])) (fun σ2 H locs ls hF hP hD hS hl => ?_) (fun J1 hJ1 hF => ?_)
  · exact wi_vret hx hb hr hlk hK hP hD hS dJ7_fill_53178_20 hF
  · refine lpE2_use hF (fun (y3 : Int32) (σ4 : St) => ∀ (H : Heap) (locs : List Loc) (ls : Array Slot), va_P D vwCl (wld cy ad dsC σ4) H → va_D A (wld cy ad dsC σ4) → va_S A s.heap H locs → lv_has ls 4 [(0, .ref (ad 30)), (1, .int a2), (2, .int y3), (3, .int (40 : Int32))] → W p l e (rmO 0 0) s m args below meth c H locs 0 0 (MQ below (va_Qv post (cBk D cy ad dsC A) A) args s 0 0 A) (F0 m 5 ls [])) (fun rec5 hrec5 y3 σ4 hF H locs ls hP hD hS hl => ?_) H locs ls hP hD hS (lv_sub hl [2, 3, 1, 0] rfl)
    refine lv_iload_n hx hb dJ7_fill_53178_5 rfl (lv_at hl 2 rfl) ?_
    refine lv_iload_n hx hb dJ7_fill_53178_6 rfl (lv_at hl 3 rfl) ?_
    refine lv_icmp_ge (tgt := 20) hx hb dJ7_fill_53178_7 (by decide) (fun c6 => ?_) (fun c6 => ?_)
    · have hF := brT hF c6
      exact hJ1 σ4 H locs ls hF hP hD hS (lv_sub hl [] rfl)
    · have hF := brF hF c6
      refine lv_aload_n hx hb dJ7_fill_53178_10 rfl (lv_at hl 0 rfl) ?_
      refine lv_iload_n hx hb dJ7_fill_53178_11 rfl (lv_at hl 2 rfl) ?_
      refine lv_iload_n hx hb dJ7_fill_53178_12 rfl (lv_at hl 1 rfl) ?_
      obtain ⟨hin, hF⟩ := hF
      refine wi_iast hx hb hK hP hD hS 30 rfl hin dJ7_fill_53178_13 (fun σ7 eσ7 H locs hP hD hS => ?_)
      have hF := hF σ7 eσ7
      obtain ⟨x8, ex8⟩ : ∃ z : Int32, z = (y3 + (1 : Int32)) := ⟨_, rfl⟩
      have hF := hF x8 ex8
      refine lv_iinc (v := x8) (lv' := [(2, .int x8), (0, .ref (ad 30)), (1, .int a2), (3, .int (40 : Int32))]) hx hb dJ7_fill_53178_14 hl (k := 2) rfl (by rw [ex8]; rfl) (by decide) rfl (fun ls hl => ?_)
      refine lv_goto (tgt := 5) hx hb dJ7_fill_53178_17 (by decide) ?_
      exact hrec5 x8 σ7 hF H locs ls hP hD hS (lv_sub hl [1, 2, 0, 3] rfl)
def w_X9_slotOf_L25 (a1 : Int32) (a2 : Int64) (σ : St) (post : Int32 → Prop) (J3 : Int32 → Prop) (rec7 : Int32 → Int32 → Prop) (y5 : Int32) (y6 : Int32) : Prop := br ((512 : Int32) ≤ y6) (J3 y5) (rd (σ.1 31) 512 y5 (fun v9 => nm (v9 - (1 : Int32)) (fun x10 => br (x10 < (0 : Int32)) (post y5) (rd (σ.1 25) 250 x10 (fun v12 => jn (α := Prop) (nm ((y5 + (1 : Int32)) &&& (511 : Int32)) (fun x14 => nm (y6 + (1 : Int32)) (fun x15 => rec7 x14 x15))) (fun J13 => br (v12 = a1) (rd (σ.2 26) 250 x10 (fun v17 => br ((lg_cmp v17 a2) = (0 : Int32)) (post y5) (J13))) (J13)))))))
def w_X9_slotOf (σ : St) (a1 : Int32) (a2 : Int64) (post : Int32 → Prop) : Prop := nm (((a2 * (-7046029254386353131 : Int64)) + ((a1 : Int32).toInt64)) * (-2960836687051489901 : Int64)) (fun x1 => nm (((((x1 : Int64).toUInt64 >>> (((55 : Int32) : Int32).toInt64.toUInt64 &&& Int64.toUInt64 63)).toInt64) : Int64).toInt32) (fun x2 => jn (α := Int32 → Prop) (fun (y4 : Int32) => post y4) (fun J3 => lpE2 (w_X9_slotOf_L25 a1 a2 σ post J3) x2 (0 : Int32))))
set_option maxHeartbeats 4000000 in
set_option maxRecDepth 100000 in
theorem c_X9_slotOf (l : Launch) (D : va_G) (cy : Nat → ClassId) (ad : Nat → Nat) (tL : Nat) (σ : St) (a1 : Int32) (a2 : Int64) (post : Int32 → Prop) (hF : w_X9_slotOf σ a1 a2 post) : Cti l yX9_slotOf cX9_slotOf 9 (some .int) 0 0 D cy ad tL dsC σ [.ref (ad 6), .int a1, .long a2] (fun r u => post r ∧ σ = u) := by
  refine cti_of (by decide) (Nat.le_of_ble_eq_true rfl) ?_
  intro p e s m args below meth c A hx hb hml hr hlk hg hown hA hK H locs hP hD hS hLB ls hl
  have hown : s.vm.findClass RX9 = some m.cls := hown
  have hl : lv_has ls 9 [(0, .ref (ad 6)), (1, .int a1), (2, .long a2)] := hl
  refine lv_lload_n hx hb dX9_slotOf_0 rfl (lv_at hl 2 rfl) ?_
  refine lv_ldc2 (v := (-7046029254386353131 : Int64)) hx hb hown (hg _ kw_263) dX9_slotOf_1 ?_
  refine lv_lmul hx hb dX9_slotOf_4 ?_
  refine lv_iload_n hx hb dX9_slotOf_5 rfl (lv_at hl 1 rfl) ?_
  refine lv_i2l hx hb dX9_slotOf_6 rfl ?_
  refine lv_ladd hx hb dX9_slotOf_7 ?_
  refine lv_ldc2 (v := (-2960836687051489901 : Int64)) hx hb hown (hg _ kw_264) dX9_slotOf_8 ?_
  refine lv_lmul hx hb dX9_slotOf_11 ?_
  refine lv_topl (fun x1 ex1 => ?_)
  have hF := hF x1 ex1
  refine lv_lstore (lv' := [(4, .long x1), (0, .ref (ad 6)), (1, .int a1), (2, .long a2)]) hx hb dX9_slotOf_12 hl (by decide) rfl (fun ls hl => ?_)
  refine lv_lload hx hb dX9_slotOf_14 (lv_at hl 0 rfl) ?_
  refine lv_bipush (v := (55 : Int32)) hx hb dX9_slotOf_16 (by decide) ?_
  refine lv_lushr hx hb dX9_slotOf_18 rfl ?_
  refine lv_l2i hx hb dX9_slotOf_19 rfl ?_
  refine lv_topi (fun x2 ex2 => ?_)
  have hF := hF x2 ex2
  refine lv_istore (lv' := [(6, .int x2), (4, .long x1), (0, .ref (ad 6)), (1, .int a1), (2, .long a2)]) hx hb dX9_slotOf_20 hl (by decide) rfl (fun ls hl => ?_)
  refine lv_iconst (v := (0 : Int32)) hx hb dX9_slotOf_22 (by decide) ?_
  refine lv_istore (lv' := [(7, .int (0 : Int32)), (6, .int x2), (4, .long x1), (0, .ref (ad 6)), (1, .int a1), (2, .long a2)]) hx hb dX9_slotOf_23 hl (by decide) rfl (fun ls hl => ?_)
  refine jn_use hF (fun K => ∀ (y4 : Int32) (H : Heap) (locs : List Loc) (ls : Array Slot), K y4 → va_P D vwCl (wld cy ad dsC σ) H → va_D A (wld cy ad dsC σ) → va_S A s.heap H locs → lv_has ls 9 [(6, .int y4)] → W p l e (rmO 0 0) s m args below meth c H locs 0 0 (MQ below (va_Qi (fun r u => post r ∧ σ = u) (cBk D cy ad dsC A) A) args s 0 0 A) (F0 m 91 ls [])) (fun y4 H locs ls hF hP hD hS hl => ?_) (fun J3 hJ3 hF => ?_)
  · refine lv_iload hx hb dX9_slotOf_91 (lv_at hl 0 rfl) ?_
    exact wi_iret hx hb hr hlk hK hP hD hS dX9_slotOf_93 ⟨hF, rfl⟩
  · refine lpE2_use hF (fun (y5 : Int32) (y6 : Int32) => ∀ (H : Heap) (locs : List Loc) (ls : Array Slot), va_P D vwCl (wld cy ad dsC σ) H → va_D A (wld cy ad dsC σ) → va_S A s.heap H locs → lv_has ls 9 [(0, .ref (ad 6)), (1, .int a1), (2, .long a2), (6, .int y5), (7, .int y6)] → W p l e (rmO 0 0) s m args below meth c H locs 0 0 (MQ below (va_Qi (fun r u => post r ∧ σ = u) (cBk D cy ad dsC A) A) args s 0 0 A) (F0 m 25 ls [])) (fun rec7 hrec7 y5 y6 hF H locs ls hP hD hS hl => ?_) H locs ls hP hD hS (lv_sub hl [3, 4, 5, 1, 0] rfl)
    refine lv_iload hx hb dX9_slotOf_25 (lv_at hl 4 rfl) ?_
    refine lv_sipush (v := (512 : Int32)) hx hb dX9_slotOf_27 (by decide) ?_
    refine lv_icmp_ge (tgt := 91) hx hb dX9_slotOf_30 (by decide) (fun c8 => ?_) (fun c8 => ?_)
    · have hF := brT hF c8
      exact hJ3 y5 H locs ls hF hP hD hS (lv_sub hl [3] rfl)
    · have hF := brF hF c8
      refine lv_aload_n hx hb dX9_slotOf_33 rfl (lv_at hl 0 rfl) ?_
      refine wi_getr hx hb hg hown hK hP 6 15 31 rfl rfl cb_9 (by decide) kw_245 dX9_slotOf_34 ?_
      refine lv_iload hx hb dX9_slotOf_37 (lv_at hl 3 rfl) ?_
      obtain ⟨hin, hF⟩ := hF
      refine wi_iald hx hb hK hP 31 rfl hin dX9_slotOf_39 (fun v9 ev9 => ?_)
      have hF := hF v9 ev9
      refine lv_iconst (v := (1 : Int32)) hx hb dX9_slotOf_40 (by decide) ?_
      refine lv_isub hx hb dX9_slotOf_41 ?_
      refine lv_topi (fun x10 ex10 => ?_)
      have hF := hF x10 ex10
      refine lv_istore (lv' := [(8, .int x10), (0, .ref (ad 6)), (1, .int a1), (2, .long a2), (6, .int y5), (7, .int y6)]) hx hb dX9_slotOf_42 hl (by decide) rfl (fun ls hl => ?_)
      refine lv_iload hx hb dX9_slotOf_44 (lv_at hl 0 rfl) ?_
      refine lv_if_lt (tgt := 72) hx hb dX9_slotOf_46 (by decide) (fun c11 => ?_) (fun c11 => ?_)
      · have hF := brT hF c11
        refine lv_iload hx hb dX9_slotOf_72 (lv_at hl 4 rfl) ?_
        exact wi_iret hx hb hr hlk hK hP hD hS dX9_slotOf_74 ⟨hF, rfl⟩
      · have hF := brF hF c11
        refine lv_aload_n hx hb dX9_slotOf_49 rfl (lv_at hl 1 rfl) ?_
        refine wi_getr hx hb hg hown hK hP 6 9 25 rfl rfl cb_9 (by decide) kw_239 dX9_slotOf_50 ?_
        refine lv_iload hx hb dX9_slotOf_53 (lv_at hl 0 rfl) ?_
        obtain ⟨hin, hF⟩ := hF
        refine wi_iald hx hb hK hP 25 rfl hin dX9_slotOf_55 (fun v12 ev12 => ?_)
        have hF := hF v12 ev12
        refine lv_iload_n hx hb dX9_slotOf_56 rfl (lv_at hl 2 rfl) ?_
        refine jn_use hF (fun K => ∀ (H : Heap) (locs : List Loc) (ls : Array Slot), K → va_P D vwCl (wld cy ad dsC σ) H → va_D A (wld cy ad dsC σ) → va_S A s.heap H locs → lv_has ls 9 [(0, .ref (ad 6)), (1, .int a1), (2, .long a2), (6, .int y5), (7, .int y6)] → W p l e (rmO 0 0) s m args below meth c H locs 0 0 (MQ below (va_Qi (fun r u => post r ∧ σ = u) (cBk D cy ad dsC A) A) args s 0 0 A) (F0 m 75 ls [])) (fun H locs ls hF hP hD hS hl => ?_) (fun J13 hJ13 hF => ?_)
        · refine lv_iload hx hb dX9_slotOf_75 (lv_at hl 3 rfl) ?_
          refine lv_iconst (v := (1 : Int32)) hx hb dX9_slotOf_77 (by decide) ?_
          refine lv_iadd hx hb dX9_slotOf_78 ?_
          refine lv_sipush (v := (511 : Int32)) hx hb dX9_slotOf_79 (by decide) ?_
          refine lv_iand hx hb dX9_slotOf_82 ?_
          refine lv_topi (fun x14 ex14 => ?_)
          have hF := hF x14 ex14
          refine lv_istore (lv' := [(6, .int x14), (0, .ref (ad 6)), (1, .int a1), (2, .long a2), (7, .int y6)]) hx hb dX9_slotOf_83 hl (by decide) rfl (fun ls hl => ?_)
          obtain ⟨x15, ex15⟩ : ∃ z : Int32, z = (y6 + (1 : Int32)) := ⟨_, rfl⟩
          have hF := hF x15 ex15
          refine lv_iinc (v := x15) (lv' := [(7, .int x15), (6, .int x14), (0, .ref (ad 6)), (1, .int a1), (2, .long a2)]) hx hb dX9_slotOf_85 hl (k := 4) rfl (by rw [ex15]; rfl) (by decide) rfl (fun ls hl => ?_)
          refine lv_goto (tgt := 25) hx hb dX9_slotOf_88 (by decide) ?_
          exact hrec7 x14 x15 hF H locs ls hP hD hS (lv_sub hl [2, 3, 4, 1, 0] rfl)
        · refine lv_icmp_ne (tgt := 75) hx hb dX9_slotOf_57 (by decide) (fun c16 => ?_) (fun c16 => ?_)
          · have hF := brF hF c16
            exact hJ13  H locs ls hF hP hD hS (lv_sub hl [1, 2, 3, 4, 5] rfl)
          · have hF := brT hF c16
            refine lv_aload_n hx hb dX9_slotOf_60 rfl (lv_at hl 1 rfl) ?_
            refine wi_getr hx hb hg hown hK hP 6 10 26 rfl rfl cb_9 (by decide) kw_240 dX9_slotOf_61 ?_
            refine lv_iload hx hb dX9_slotOf_64 (lv_at hl 0 rfl) ?_
            obtain ⟨hin, hF⟩ := hF
            refine wi_lald hx hb hK hP 26 rfl hin dX9_slotOf_66 (fun v17 ev17 => ?_)
            have hF := hF v17 ev17
            refine lv_lload_n hx hb dX9_slotOf_67 rfl (lv_at hl 3 rfl) ?_
            refine W.lcmp hx hb dX9_slotOf_68 ?_
            refine lv_if_ne (tgt := 75) hx hb dX9_slotOf_69 (by decide) (fun c18 => ?_) (fun c18 => ?_)
            · have hF := brF hF c18
              exact hJ13  H locs ls hF hP hD hS (lv_sub hl [1, 2, 3, 4, 5] rfl)
            · have hF := brT hF c18
              refine lv_iload hx hb dX9_slotOf_72 (lv_at hl 4 rfl) ?_
              exact wi_iret hx hb hr hlk hK hP hD hS dX9_slotOf_74 ⟨hF, rfl⟩
def w_X9_addState (σ : St) (a1 : Int32) (a2 : Int32) (a3 : Int64) (a4 : Int32) (post : St → Prop) : Prop := ck (σ.1 6 5) 250 (nm (upI σ 25 ((σ.1 6 5)).toNatClampNeg a2) (fun σ1 => ck (σ1.1 6 5) 250 (nm (upJ σ1 26 ((σ1.1 6 5)).toNatClampNeg a3) (fun σ2 => ck (σ2.1 6 5) 250 (nm (upI σ2 27 ((σ2.1 6 5)).toNatClampNeg a4) (fun σ3 => ck (σ3.1 6 5) 250 (nm (upI σ3 28 ((σ3.1 6 5)).toNatClampNeg (-2 : Int32)) (fun σ4 => nm (upI σ4 6 5 ((σ4.1 6 5) + (1 : Int32))) (fun σ5 => ck a1 512 (nm (upI σ5 31 (a1).toNatClampNeg (σ5.1 6 5)) (fun σ6 => post σ6)))))))))))
set_option maxHeartbeats 4000000 in
set_option maxRecDepth 100000 in
theorem c_X9_addState (l : Launch) (D : va_G) (cy : Nat → ClassId) (ad : Nat → Nat) (tL : Nat) (σ : St) (a1 : Int32) (a2 : Int32) (a3 : Int64) (a4 : Int32) (post : St → Prop) (hF : w_X9_addState σ a1 a2 a3 a4 post) : Ctv l yX9_addState cX9_addState 6 none 0 0 D cy ad tL dsC σ [.ref (ad 6), .int a1, .int a2, .long a3, .int a4] post := by
  refine ctv_of (by decide) (Nat.le_of_ble_eq_true rfl) ?_
  intro p e s m args below meth c A hx hb hml hr hlk hg hown hA hK H locs hP hD hS hLB ls hl
  have hown : s.vm.findClass RX9 = some m.cls := hown
  have hl : lv_has ls 6 [(0, .ref (ad 6)), (1, .int a1), (2, .int a2), (3, .long a3), (5, .int a4)] := hl
  refine lv_aload_n hx hb dX9_addState_0 rfl (lv_at hl 0 rfl) ?_
  refine wi_getr hx hb hg hown hK hP 6 9 25 rfl rfl cb_9 (by decide) kw_239 dX9_addState_1 ?_
  refine lv_aload_n hx hb dX9_addState_4 rfl (lv_at hl 0 rfl) ?_
  refine wi_geti hx hb hg hown hK hP 6 5 rfl rfl cb_9 (by decide) kw_235 dX9_addState_5 ?_
  refine lv_iload_n hx hb dX9_addState_8 rfl (lv_at hl 2 rfl) ?_
  obtain ⟨hin, hF⟩ := hF
  refine wi_iast hx hb hK hP hD hS 25 rfl hin dX9_addState_9 (fun σ1 eσ1 H locs hP hD hS => ?_)
  have hF := hF σ1 eσ1
  refine lv_aload_n hx hb dX9_addState_10 rfl (lv_at hl 0 rfl) ?_
  refine wi_getr hx hb hg hown hK hP 6 10 26 rfl rfl cb_9 (by decide) kw_240 dX9_addState_11 ?_
  refine lv_aload_n hx hb dX9_addState_14 rfl (lv_at hl 0 rfl) ?_
  refine wi_geti hx hb hg hown hK hP 6 5 rfl rfl cb_9 (by decide) kw_235 dX9_addState_15 ?_
  refine lv_lload_n hx hb dX9_addState_18 rfl (lv_at hl 3 rfl) ?_
  obtain ⟨hin, hF⟩ := hF
  refine wi_last hx hb hK hP hD hS 26 rfl hin dX9_addState_19 (fun σ2 eσ2 H locs hP hD hS => ?_)
  have hF := hF σ2 eσ2
  refine lv_aload_n hx hb dX9_addState_20 rfl (lv_at hl 0 rfl) ?_
  refine wi_getr hx hb hg hown hK hP 6 11 27 rfl rfl cb_9 (by decide) kw_241 dX9_addState_21 ?_
  refine lv_aload_n hx hb dX9_addState_24 rfl (lv_at hl 0 rfl) ?_
  refine wi_geti hx hb hg hown hK hP 6 5 rfl rfl cb_9 (by decide) kw_235 dX9_addState_25 ?_
  refine lv_iload hx hb dX9_addState_28 (lv_at hl 4 rfl) ?_
  obtain ⟨hin, hF⟩ := hF
  refine wi_iast hx hb hK hP hD hS 27 rfl hin dX9_addState_30 (fun σ3 eσ3 H locs hP hD hS => ?_)
  have hF := hF σ3 eσ3
  refine lv_aload_n hx hb dX9_addState_31 rfl (lv_at hl 0 rfl) ?_
  refine wi_getr hx hb hg hown hK hP 6 12 28 rfl rfl cb_9 (by decide) kw_242 dX9_addState_32 ?_
  refine lv_aload_n hx hb dX9_addState_35 rfl (lv_at hl 0 rfl) ?_
  refine wi_geti hx hb hg hown hK hP 6 5 rfl rfl cb_9 (by decide) kw_235 dX9_addState_36 ?_
  refine lv_bipush (v := (-2 : Int32)) hx hb dX9_addState_39 (by decide) ?_
  obtain ⟨hin, hF⟩ := hF
  refine wi_iast hx hb hK hP hD hS 28 rfl hin dX9_addState_41 (fun σ4 eσ4 H locs hP hD hS => ?_)
  have hF := hF σ4 eσ4
  refine lv_aload_n hx hb dX9_addState_42 rfl (lv_at hl 0 rfl) ?_
  refine lv_dup hx hb dX9_addState_43 rfl ?_
  refine wi_geti hx hb hg hown hK hP 6 5 rfl rfl cb_9 (by decide) kw_235 dX9_addState_44 ?_
  refine lv_iconst (v := (1 : Int32)) hx hb dX9_addState_47 (by decide) ?_
  refine lv_iadd hx hb dX9_addState_48 ?_
  refine wi_puti hx hb hg hown hK hP hD hS 6 5 rfl rfl cb_9 (by decide) kw_235 rfl rfl rfl dX9_addState_49 (fun σ5 eσ5 H locs hP hD hS => ?_)
  have hF := hF σ5 eσ5
  refine lv_aload_n hx hb dX9_addState_52 rfl (lv_at hl 0 rfl) ?_
  refine wi_getr hx hb hg hown hK hP 6 15 31 rfl rfl cb_9 (by decide) kw_245 dX9_addState_53 ?_
  refine lv_iload_n hx hb dX9_addState_56 rfl (lv_at hl 1 rfl) ?_
  refine lv_aload_n hx hb dX9_addState_57 rfl (lv_at hl 0 rfl) ?_
  refine wi_geti hx hb hg hown hK hP 6 5 rfl rfl cb_9 (by decide) kw_235 dX9_addState_58 ?_
  obtain ⟨hin, hF⟩ := hF
  refine wi_iast hx hb hK hP hD hS 31 rfl hin dX9_addState_61 (fun σ6 eσ6 H locs hP hD hS => ?_)
  have hF := hF σ6 eσ6
  exact wi_vret hx hb hr hlk hK hP hD hS dX9_addState_62 hF
def w_X9_tell_29 (σ : St) (a2 : Int32) (a3 : Int32) (a4 : Int32) (a5 : Int32) (a6 : Int32) (a7 : Int32) (post : St → Prop) : Prop := nm (a2 * (5 : Int32)) (fun x1 => ck x1 1250 (nm (upI σ 29 (x1).toNatClampNeg a3) (fun σ2 => ck (x1 + (1 : Int32)) 1250 (nm (upI σ2 29 ((x1 + (1 : Int32))).toNatClampNeg a4) (fun σ3 => ck (x1 + (2 : Int32)) 1250 (nm (upI σ3 29 ((x1 + (2 : Int32))).toNatClampNeg a5) (fun σ4 => ck (x1 + (3 : Int32)) 1250 (nm (upI σ4 29 ((x1 + (3 : Int32))).toNatClampNeg a6) (fun σ5 => ck (x1 + (4 : Int32)) 1250 (nm (upI σ5 29 ((x1 + (4 : Int32))).toNatClampNeg a7) (fun σ6 => post σ6)))))))))))
set_option maxHeartbeats 4000000 in
set_option maxRecDepth 100000 in
theorem c_X9_tell_29 (l : Launch) (D : va_G) (cy : Nat → ClassId) (ad : Nat → Nat) (tL : Nat) (σ : St) (a2 : Int32) (a3 : Int32) (a4 : Int32) (a5 : Int32) (a6 : Int32) (a7 : Int32) (post : St → Prop) (hF : w_X9_tell_29 σ a2 a3 a4 a5 a6 a7 post) : Ctv l yX9_tell cX9_tell 8 none 0 0 D cy ad tL dsC σ [.ref (ad 29), .int a2, .int a3, .int a4, .int a5, .int a6, .int a7] post := by
  refine ctv_of (by decide) (Nat.le_of_ble_eq_true rfl) ?_
  intro p e s m args below meth c A hx hb hml hr hlk hg hown hA hK H locs hP hD hS hLB ls hl
  have hown : s.vm.findClass RX9 = some m.cls := hown
  have hl : lv_has ls 8 [(0, .ref (ad 29)), (1, .int a2), (2, .int a3), (3, .int a4), (4, .int a5), (5, .int a6), (6, .int a7)] := hl
  refine lv_iload_n hx hb dX9_tell_0 rfl (lv_at hl 1 rfl) ?_
  refine lv_iconst (v := (5 : Int32)) hx hb dX9_tell_1 (by decide) ?_
  refine lv_imul hx hb dX9_tell_2 ?_
  refine lv_topi (fun x1 ex1 => ?_)
  have hF := hF x1 ex1
  refine lv_istore (lv' := [(7, .int x1), (0, .ref (ad 29)), (1, .int a2), (2, .int a3), (3, .int a4), (4, .int a5), (5, .int a6), (6, .int a7)]) hx hb dX9_tell_3 hl (by decide) rfl (fun ls hl => ?_)
  refine lv_aload_n hx hb dX9_tell_5 rfl (lv_at hl 1 rfl) ?_
  refine lv_iload hx hb dX9_tell_6 (lv_at hl 0 rfl) ?_
  refine lv_iload_n hx hb dX9_tell_8 rfl (lv_at hl 3 rfl) ?_
  obtain ⟨hin, hF⟩ := hF
  refine wi_iast hx hb hK hP hD hS 29 rfl hin dX9_tell_9 (fun σ2 eσ2 H locs hP hD hS => ?_)
  have hF := hF σ2 eσ2
  refine lv_aload_n hx hb dX9_tell_10 rfl (lv_at hl 1 rfl) ?_
  refine lv_iload hx hb dX9_tell_11 (lv_at hl 0 rfl) ?_
  refine lv_iconst (v := (1 : Int32)) hx hb dX9_tell_13 (by decide) ?_
  refine lv_iadd hx hb dX9_tell_14 ?_
  refine lv_iload_n hx hb dX9_tell_15 rfl (lv_at hl 4 rfl) ?_
  obtain ⟨hin, hF⟩ := hF
  refine wi_iast hx hb hK hP hD hS 29 rfl hin dX9_tell_16 (fun σ3 eσ3 H locs hP hD hS => ?_)
  have hF := hF σ3 eσ3
  refine lv_aload_n hx hb dX9_tell_17 rfl (lv_at hl 1 rfl) ?_
  refine lv_iload hx hb dX9_tell_18 (lv_at hl 0 rfl) ?_
  refine lv_iconst (v := (2 : Int32)) hx hb dX9_tell_20 (by decide) ?_
  refine lv_iadd hx hb dX9_tell_21 ?_
  refine lv_iload hx hb dX9_tell_22 (lv_at hl 5 rfl) ?_
  obtain ⟨hin, hF⟩ := hF
  refine wi_iast hx hb hK hP hD hS 29 rfl hin dX9_tell_24 (fun σ4 eσ4 H locs hP hD hS => ?_)
  have hF := hF σ4 eσ4
  refine lv_aload_n hx hb dX9_tell_25 rfl (lv_at hl 1 rfl) ?_
  refine lv_iload hx hb dX9_tell_26 (lv_at hl 0 rfl) ?_
  refine lv_iconst (v := (3 : Int32)) hx hb dX9_tell_28 (by decide) ?_
  refine lv_iadd hx hb dX9_tell_29 ?_
  refine lv_iload hx hb dX9_tell_30 (lv_at hl 6 rfl) ?_
  obtain ⟨hin, hF⟩ := hF
  refine wi_iast hx hb hK hP hD hS 29 rfl hin dX9_tell_32 (fun σ5 eσ5 H locs hP hD hS => ?_)
  have hF := hF σ5 eσ5
  refine lv_aload_n hx hb dX9_tell_33 rfl (lv_at hl 1 rfl) ?_
  refine lv_iload hx hb dX9_tell_34 (lv_at hl 0 rfl) ?_
  refine lv_iconst (v := (4 : Int32)) hx hb dX9_tell_36 (by decide) ?_
  refine lv_iadd hx hb dX9_tell_37 ?_
  refine lv_iload hx hb dX9_tell_38 (lv_at hl 7 rfl) ?_
  obtain ⟨hin, hF⟩ := hF
  refine wi_iast hx hb hK hP hD hS 29 rfl hin dX9_tell_40 (fun σ6 eσ6 H locs hP hD hS => ?_)
  have hF := hF σ6 eσ6
  exact wi_vret hx hb hr hlk hK hP hD hS dX9_tell_41 hF
def w_X9_tell_30 (σ : St) (a2 : Int32) (a3 : Int32) (a4 : Int32) (a5 : Int32) (a6 : Int32) (a7 : Int32) (post : St → Prop) : Prop := nm (a2 * (5 : Int32)) (fun x1 => ck x1 40 (nm (upI σ 30 (x1).toNatClampNeg a3) (fun σ2 => ck (x1 + (1 : Int32)) 40 (nm (upI σ2 30 ((x1 + (1 : Int32))).toNatClampNeg a4) (fun σ3 => ck (x1 + (2 : Int32)) 40 (nm (upI σ3 30 ((x1 + (2 : Int32))).toNatClampNeg a5) (fun σ4 => ck (x1 + (3 : Int32)) 40 (nm (upI σ4 30 ((x1 + (3 : Int32))).toNatClampNeg a6) (fun σ5 => ck (x1 + (4 : Int32)) 40 (nm (upI σ5 30 ((x1 + (4 : Int32))).toNatClampNeg a7) (fun σ6 => post σ6)))))))))))
set_option maxHeartbeats 4000000 in
set_option maxRecDepth 100000 in
theorem c_X9_tell_30 (l : Launch) (D : va_G) (cy : Nat → ClassId) (ad : Nat → Nat) (tL : Nat) (σ : St) (a2 : Int32) (a3 : Int32) (a4 : Int32) (a5 : Int32) (a6 : Int32) (a7 : Int32) (post : St → Prop) (hF : w_X9_tell_30 σ a2 a3 a4 a5 a6 a7 post) : Ctv l yX9_tell cX9_tell 8 none 0 0 D cy ad tL dsC σ [.ref (ad 30), .int a2, .int a3, .int a4, .int a5, .int a6, .int a7] post := by
  refine ctv_of (by decide) (Nat.le_of_ble_eq_true rfl) ?_
  intro p e s m args below meth c A hx hb hml hr hlk hg hown hA hK H locs hP hD hS hLB ls hl
  have hown : s.vm.findClass RX9 = some m.cls := hown
  have hl : lv_has ls 8 [(0, .ref (ad 30)), (1, .int a2), (2, .int a3), (3, .int a4), (4, .int a5), (5, .int a6), (6, .int a7)] := hl
  refine lv_iload_n hx hb dX9_tell_0 rfl (lv_at hl 1 rfl) ?_
  refine lv_iconst (v := (5 : Int32)) hx hb dX9_tell_1 (by decide) ?_
  refine lv_imul hx hb dX9_tell_2 ?_
  refine lv_topi (fun x1 ex1 => ?_)
  have hF := hF x1 ex1
  refine lv_istore (lv' := [(7, .int x1), (0, .ref (ad 30)), (1, .int a2), (2, .int a3), (3, .int a4), (4, .int a5), (5, .int a6), (6, .int a7)]) hx hb dX9_tell_3 hl (by decide) rfl (fun ls hl => ?_)
  refine lv_aload_n hx hb dX9_tell_5 rfl (lv_at hl 1 rfl) ?_
  refine lv_iload hx hb dX9_tell_6 (lv_at hl 0 rfl) ?_
  refine lv_iload_n hx hb dX9_tell_8 rfl (lv_at hl 3 rfl) ?_
  obtain ⟨hin, hF⟩ := hF
  refine wi_iast hx hb hK hP hD hS 30 rfl hin dX9_tell_9 (fun σ2 eσ2 H locs hP hD hS => ?_)
  have hF := hF σ2 eσ2
  refine lv_aload_n hx hb dX9_tell_10 rfl (lv_at hl 1 rfl) ?_
  refine lv_iload hx hb dX9_tell_11 (lv_at hl 0 rfl) ?_
  refine lv_iconst (v := (1 : Int32)) hx hb dX9_tell_13 (by decide) ?_
  refine lv_iadd hx hb dX9_tell_14 ?_
  refine lv_iload_n hx hb dX9_tell_15 rfl (lv_at hl 4 rfl) ?_
  obtain ⟨hin, hF⟩ := hF
  refine wi_iast hx hb hK hP hD hS 30 rfl hin dX9_tell_16 (fun σ3 eσ3 H locs hP hD hS => ?_)
  have hF := hF σ3 eσ3
  refine lv_aload_n hx hb dX9_tell_17 rfl (lv_at hl 1 rfl) ?_
  refine lv_iload hx hb dX9_tell_18 (lv_at hl 0 rfl) ?_
  refine lv_iconst (v := (2 : Int32)) hx hb dX9_tell_20 (by decide) ?_
  refine lv_iadd hx hb dX9_tell_21 ?_
  refine lv_iload hx hb dX9_tell_22 (lv_at hl 5 rfl) ?_
  obtain ⟨hin, hF⟩ := hF
  refine wi_iast hx hb hK hP hD hS 30 rfl hin dX9_tell_24 (fun σ4 eσ4 H locs hP hD hS => ?_)
  have hF := hF σ4 eσ4
  refine lv_aload_n hx hb dX9_tell_25 rfl (lv_at hl 1 rfl) ?_
  refine lv_iload hx hb dX9_tell_26 (lv_at hl 0 rfl) ?_
  refine lv_iconst (v := (3 : Int32)) hx hb dX9_tell_28 (by decide) ?_
  refine lv_iadd hx hb dX9_tell_29 ?_
  refine lv_iload hx hb dX9_tell_30 (lv_at hl 6 rfl) ?_
  obtain ⟨hin, hF⟩ := hF
  refine wi_iast hx hb hK hP hD hS 30 rfl hin dX9_tell_32 (fun σ5 eσ5 H locs hP hD hS => ?_)
  have hF := hF σ5 eσ5
  refine lv_aload_n hx hb dX9_tell_33 rfl (lv_at hl 1 rfl) ?_
  refine lv_iload hx hb dX9_tell_34 (lv_at hl 0 rfl) ?_
  refine lv_iconst (v := (4 : Int32)) hx hb dX9_tell_36 (by decide) ?_
  refine lv_iadd hx hb dX9_tell_37 ?_
  refine lv_iload hx hb dX9_tell_38 (lv_at hl 7 rfl) ?_
  obtain ⟨hin, hF⟩ := hF
  refine wi_iast hx hb hK hP hD hS 30 rfl hin dX9_tell_40 (fun σ6 eσ6 H locs hP hD hS => ?_)
  have hF := hF σ6 eσ6
  exact wi_vret hx hb hr hlk hK hP hD hS dX9_tell_41 hF
