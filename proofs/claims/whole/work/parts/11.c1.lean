def w_X1_isBad (σ : St) (a2 : Int32) (post : Int32 → Prop) : Prop := w_X1_kindOf σ a2 (fun r1 => br ((3 : Int32) ≤ r1) (post (1 : Int32)) (w_X1_meets σ a2 (fun r4 => br (r4 = (0 : Int32)) (post (0 : Int32)) (post (1 : Int32)))))
set_option maxHeartbeats 4000000 in
set_option maxRecDepth 100000 in
theorem c_X1_isBad (l : Launch) (D : va_G) (cy : Nat → ClassId) (ad : Nat → Nat) (tL : Nat) (σ : St) (a2 : Int32) (post : Int32 → Prop) (hF : w_X1_isBad σ a2 post) : Cti l yX1_isBad cX1_isBad 2 (some .boolean) 6 132 D cy ad tL dsC σ [.ref (ad 1), .int a2] (fun r u => post r ∧ σ = u) := by
  refine cti_of (by decide) (Nat.le_of_ble_eq_true rfl) ?_
  intro p e s m args below meth c A hx hb hml hr hlk hg hown hA hK H locs hP hD hS hLB ls hl
  have hown : s.vm.findClass RX1 = some m.cls := hown
  have hl : lv_has ls 2 [(0, .ref (ad 1)), (1, .int a2)] := hl
  refine lv_aload_n hx hb dX1_isBad_0 rfl (lv_at hl 0 rfl) ?_
  refine lv_iload_n hx hb dX1_isBad_1 rfl (lv_at hl 1 rfl) ?_
  refine wi_callSi (As := [.ref (ad 1), .int a2]) (c_X1_kindOf l D cy ad tL σ a2 _ hF) sw_RX1_42 hx hb hml hown hg hK hP hD hS hA hLB rfl ⟨Nat.le_of_ble_eq_true rfl, Nat.le_of_ble_eq_true rfl⟩ hl.1 rfl (Nat.le_of_ble_eq_true rfl) dX1_isBad_2 (fun r1 σ2 hw H locs hP hD hS => ?_)
  obtain ⟨hF, rfl⟩ := hw
  refine lv_iconst (v := (3 : Int32)) hx hb dX1_isBad_5 (by decide) ?_
  refine lv_icmp_ge (tgt := 17) hx hb dX1_isBad_6 (by decide) (fun c3 => ?_) (fun c3 => ?_)
  · have hF := brT hF c3
    refine lv_iconst (v := (1 : Int32)) hx hb dX1_isBad_17 (by decide) ?_
    refine lv_goto (tgt := 22) hx hb dX1_isBad_18 (by decide) ?_
    exact wi_zret hx hb hr hlk hK hP hD hS dX1_isBad_22 (by decide) ⟨hF, rfl⟩
  · have hF := brF hF c3
    refine lv_aload_n hx hb dX1_isBad_9 rfl (lv_at hl 0 rfl) ?_
    refine lv_iload_n hx hb dX1_isBad_10 rfl (lv_at hl 1 rfl) ?_
    refine wi_callSi (As := [.ref (ad 1), .int a2]) (c_X1_meets l D cy ad tL σ a2 _ hF) sw_RX1_46 hx hb hml hown hg hK hP hD hS hA hLB rfl ⟨Nat.le_of_ble_eq_true rfl, Nat.le_of_ble_eq_true rfl⟩ hl.1 rfl (Nat.le_of_ble_eq_true rfl) dX1_isBad_11 (fun r4 σ5 hw H locs hP hD hS => ?_)
    obtain ⟨hF, rfl⟩ := hw
    refine lv_if_eq (tgt := 21) hx hb dX1_isBad_14 (by decide) (fun c6 => ?_) (fun c6 => ?_)
    · have hF := brT hF c6
      refine lv_iconst (v := (0 : Int32)) hx hb dX1_isBad_21 (by decide) ?_
      exact wi_zret hx hb hr hlk hK hP hD hS dX1_isBad_22 (by decide) ⟨hF, rfl⟩
    · have hF := brF hF c6
      refine lv_iconst (v := (1 : Int32)) hx hb dX1_isBad_17 (by decide) ?_
      refine lv_goto (tgt := 22) hx hb dX1_isBad_18 (by decide) ?_
      exact wi_zret hx hb hr hlk hK hP hD hS dX1_isBad_22 (by decide) ⟨hF, rfl⟩
def w_X4_takesNoBit (σ : St) (post : Int32 → Prop) : Prop := br ((24 : Int32) ≤ (σ.1 1 0)) (post (1 : Int32)) (br ((σ.1 1 1) < (10 : Int32)) (post (0 : Int32)) (post (1 : Int32)))
set_option maxHeartbeats 4000000 in
set_option maxRecDepth 100000 in
theorem c_X4_takesNoBit (l : Launch) (D : va_G) (cy : Nat → ClassId) (ad : Nat → Nat) (tL : Nat) (σ : St) (post : Int32 → Prop) (hF : w_X4_takesNoBit σ post) : Cti l yX4_takesNoBit cX4_takesNoBit 1 (some .boolean) 0 0 D cy ad tL dsC σ [.ref (ad 1)] (fun r u => post r ∧ σ = u) := by
  refine cti_of (by decide) (Nat.le_of_ble_eq_true rfl) ?_
  intro p e s m args below meth c A hx hb hml hr hlk hg hown hA hK H locs hP hD hS hLB ls hl
  have hown : s.vm.findClass RX4 = some m.cls := hown
  have hl : lv_has ls 1 [(0, .ref (ad 1))] := hl
  refine lv_aload_n hx hb dX4_takesNoBit_0 rfl (lv_at hl 0 rfl) ?_
  refine wi_geti hx hb hg hown hK hP 1 0 rfl rfl cb_4 (by decide) kw_16 dX4_takesNoBit_1 ?_
  refine lv_bipush (v := (24 : Int32)) hx hb dX4_takesNoBit_4 (by decide) ?_
  refine lv_icmp_ge (tgt := 18) hx hb dX4_takesNoBit_6 (by decide) (fun c1 => ?_) (fun c1 => ?_)
  · have hF := brT hF c1
    refine lv_iconst (v := (1 : Int32)) hx hb dX4_takesNoBit_18 (by decide) ?_
    refine lv_goto (tgt := 23) hx hb dX4_takesNoBit_19 (by decide) ?_
    exact wi_zret hx hb hr hlk hK hP hD hS dX4_takesNoBit_23 (by decide) ⟨hF, rfl⟩
  · have hF := brF hF c1
    refine lv_aload_n hx hb dX4_takesNoBit_9 rfl (lv_at hl 0 rfl) ?_
    refine wi_geti hx hb hg hown hK hP 1 1 rfl rfl cb_4 (by decide) kw_92 dX4_takesNoBit_10 ?_
    refine lv_bipush (v := (10 : Int32)) hx hb dX4_takesNoBit_13 (by decide) ?_
    refine lv_icmp_lt (tgt := 22) hx hb dX4_takesNoBit_15 (by decide) (fun c2 => ?_) (fun c2 => ?_)
    · have hF := brT hF c2
      refine lv_iconst (v := (0 : Int32)) hx hb dX4_takesNoBit_22 (by decide) ?_
      exact wi_zret hx hb hr hlk hK hP hD hS dX4_takesNoBit_23 (by decide) ⟨hF, rfl⟩
    · have hF := brF hF c2
      refine lv_iconst (v := (1 : Int32)) hx hb dX4_takesNoBit_18 (by decide) ?_
      refine lv_goto (tgt := 23) hx hb dX4_takesNoBit_19 (by decide) ?_
      exact wi_zret hx hb hr hlk hK hP hD hS dX4_takesNoBit_23 (by decide) ⟨hF, rfl⟩
def w_X4_put (σ : St) (a1 : Int32) (a2 : Int32) (a3 : Int32) (a4 : Int32) (a5 : Int32) (post : St → Prop) : Prop := ck a1 24 (nm (upI σ 8 (a1).toNatClampNeg a2) (fun σ1 => ck a1 24 (nm (upI σ1 10 (a1).toNatClampNeg a3) (fun σ2 => ck a1 24 (nm (upI σ2 11 (a1).toNatClampNeg a4) (fun σ3 => ck a1 24 (nm (upI σ3 12 (a1).toNatClampNeg a5) (fun σ4 => post σ4))))))))
set_option maxHeartbeats 4000000 in
set_option maxRecDepth 100000 in
theorem c_X4_put (l : Launch) (D : va_G) (cy : Nat → ClassId) (ad : Nat → Nat) (tL : Nat) (σ : St) (a1 : Int32) (a2 : Int32) (a3 : Int32) (a4 : Int32) (a5 : Int32) (post : St → Prop) (hF : w_X4_put σ a1 a2 a3 a4 a5 post) : Ctv l yX4_put cX4_put 6 none 0 0 D cy ad tL dsC σ [.ref (ad 1), .int a1, .int a2, .int a3, .int a4, .int a5] post := by
  refine ctv_of (by decide) (Nat.le_of_ble_eq_true rfl) ?_
  intro p e s m args below meth c A hx hb hml hr hlk hg hown hA hK H locs hP hD hS hLB ls hl
  have hown : s.vm.findClass RX4 = some m.cls := hown
  have hl : lv_has ls 6 [(0, .ref (ad 1)), (1, .int a1), (2, .int a2), (3, .int a3), (4, .int a4), (5, .int a5)] := hl
  refine lv_aload_n hx hb dX4_put_0 rfl (lv_at hl 0 rfl) ?_
  refine wi_getr hx hb hg hown hK hP 1 5 8 rfl rfl cb_4 (by decide) kw_18 dX4_put_1 ?_
  refine lv_iload_n hx hb dX4_put_4 rfl (lv_at hl 1 rfl) ?_
  refine lv_iload_n hx hb dX4_put_5 rfl (lv_at hl 2 rfl) ?_
  obtain ⟨hin, hF⟩ := hF
  refine wi_iast hx hb hK hP hD hS 8 rfl hin dX4_put_6 (fun σ1 eσ1 H locs hP hD hS => ?_)
  have hF := hF σ1 eσ1
  refine lv_aload_n hx hb dX4_put_7 rfl (lv_at hl 0 rfl) ?_
  refine wi_getr hx hb hg hown hK hP 1 7 10 rfl rfl cb_4 (by decide) kw_25 dX4_put_8 ?_
  refine lv_iload_n hx hb dX4_put_11 rfl (lv_at hl 1 rfl) ?_
  refine lv_iload_n hx hb dX4_put_12 rfl (lv_at hl 3 rfl) ?_
  obtain ⟨hin, hF⟩ := hF
  refine wi_iast hx hb hK hP hD hS 10 rfl hin dX4_put_13 (fun σ2 eσ2 H locs hP hD hS => ?_)
  have hF := hF σ2 eσ2
  refine lv_aload_n hx hb dX4_put_14 rfl (lv_at hl 0 rfl) ?_
  refine wi_getr hx hb hg hown hK hP 1 8 11 rfl rfl cb_4 (by decide) kw_96 dX4_put_15 ?_
  refine lv_iload_n hx hb dX4_put_18 rfl (lv_at hl 1 rfl) ?_
  refine lv_iload hx hb dX4_put_19 (lv_at hl 4 rfl) ?_
  obtain ⟨hin, hF⟩ := hF
  refine wi_iast hx hb hK hP hD hS 11 rfl hin dX4_put_21 (fun σ3 eσ3 H locs hP hD hS => ?_)
  have hF := hF σ3 eσ3
  refine lv_aload_n hx hb dX4_put_22 rfl (lv_at hl 0 rfl) ?_
  refine wi_getr hx hb hg hown hK hP 1 9 12 rfl rfl cb_4 (by decide) kw_97 dX4_put_23 ?_
  refine lv_iload_n hx hb dX4_put_26 rfl (lv_at hl 1 rfl) ?_
  refine lv_iload hx hb dX4_put_27 (lv_at hl 5 rfl) ?_
  obtain ⟨hin, hF⟩ := hF
  refine wi_iast hx hb hK hP hD hS 12 rfl hin dX4_put_29 (fun σ4 eσ4 H locs hP hD hS => ?_)
  have hF := hF σ4 eσ4
  exact wi_vret hx hb hr hlk hK hP hD hS dX4_put_30 hF
def w_X4_wordOfBit (σ : St) (a1 : Int32) (a2 : Int32) (post : Int64 → Prop) : Prop := br ((6 : Int32) ≤ a1) (br (((a2 >>> ((a1 - (6 : Int32)) &&& 31)) &&& (1 : Int32)) = (1 : Int32)) (post (-1 : Int64)) (post (0 : Int64))) (rd lowF 6 a1 (fun v3 => post v3))
set_option maxHeartbeats 4000000 in
set_option maxRecDepth 100000 in
theorem c_X4_wordOfBit (l : Launch) (D : va_G) (cy : Nat → ClassId) (ad : Nat → Nat) (tL : Nat) (σ : St) (a1 : Int32) (a2 : Int32) (post : Int64 → Prop) (hF : w_X4_wordOfBit σ a1 a2 post) : Ctl l yX4_wordOfBit cX4_wordOfBit 2 (some .long) 0 0 D cy ad tL dsC σ [.int a1, .int a2] (fun r u => post r ∧ σ = u) := by
  refine ctl_of (by decide) (Nat.le_of_ble_eq_true rfl) ?_
  intro p e s m args below meth c A hx hb hml hr hlk hg hown hA hK H locs hP hD hS hLB ls hl
  have hown : s.vm.findClass RX4 = some m.cls := hown
  have hl : lv_has ls 2 [(0, .int a1), (1, .int a2)] := hl
  refine lv_iload_n hx hb dX4_wordOfBit_0 rfl (lv_at hl 0 rfl) ?_
  refine va_gets hx hb hLB.1 hS hown (hg _ kw_105) (fun _ h9 => h9) dX4_wordOfBit_1 ?_
  refine va_tlen (v := 6) hx hb hLB.2 hS (by decide) dX4_wordOfBit_4 ?_
  refine lv_icmp_ge (tgt := 14) hx hb dX4_wordOfBit_5 (by decide) (fun c1 => ?_) (fun c1 => ?_)
  · have hF := brT hF c1
    refine lv_iload_n hx hb dX4_wordOfBit_14 rfl (lv_at hl 1 rfl) ?_
    refine lv_iload_n hx hb dX4_wordOfBit_15 rfl (lv_at hl 0 rfl) ?_
    refine va_gets hx hb hLB.1 hS hown (hg _ kw_105) (fun _ h9 => h9) dX4_wordOfBit_16 ?_
    refine va_tlen (v := 6) hx hb hLB.2 hS (by decide) dX4_wordOfBit_19 ?_
    refine lv_isub hx hb dX4_wordOfBit_20 ?_
    refine lv_ishr hx hb dX4_wordOfBit_21 ?_
    refine lv_iconst (v := (1 : Int32)) hx hb dX4_wordOfBit_22 (by decide) ?_
    refine lv_iand hx hb dX4_wordOfBit_23 ?_
    refine lv_iconst (v := (1 : Int32)) hx hb dX4_wordOfBit_24 (by decide) ?_
    refine lv_icmp_ne (tgt := 34) hx hb dX4_wordOfBit_25 (by decide) (fun c2 => ?_) (fun c2 => ?_)
    · have hF := brF hF c2
      refine lv_lconst (v := (0 : Int64)) hx hb dX4_wordOfBit_34 (by decide) ?_
      exact wi_lret hx hb hr hlk hK hP hD hS dX4_wordOfBit_35 ⟨hF, rfl⟩
    · have hF := brT hF c2
      refine lv_ldc2 (v := (-1 : Int64)) hx hb hown (hg _ kw_106) dX4_wordOfBit_28 ?_
      refine lv_goto (tgt := 35) hx hb dX4_wordOfBit_31 (by decide) ?_
      exact wi_lret hx hb hr hlk hK hP hD hS dX4_wordOfBit_35 ⟨hF, rfl⟩
  · have hF := brF hF c1
    refine va_gets hx hb hLB.1 hS hown (hg _ kw_105) (fun _ h9 => h9) dX4_wordOfBit_8 ?_
    refine lv_iload_n hx hb dX4_wordOfBit_11 rfl (lv_at hl 0 rfl) ?_
    obtain ⟨hin, hF⟩ := hF
    refine va_tl hx hb hLB.2 hS hin rfl dX4_wordOfBit_12 ?_
    refine lv_topl (fun v3 ev3 => ?_)
    have hF := hF v3 ev3
    exact wi_lret hx hb hr hlk hK hP hD hS dX4_wordOfBit_13 ⟨hF, rfl⟩
def w_X4_addBit_L125 (x1 : Int32) (x2 : Int32) (J17 : St → Prop) (rec23 : Int32 → St → Prop) (y21 : Int32) (σ22 : St) : Prop := br ((16 : Int32) ≤ y21) (J17 σ22) (w_X4_wordOfBit σ22 x2 y21 (fun r25 => ck ((x1 * (16 : Int32)) + y21) 384 (nm (upJ σ22 17 (((x1 * (16 : Int32)) + y21)).toNatClampNeg r25) (fun σ27 => nm (y21 + (1 : Int32)) (fun x28 => rec23 x28 σ27)))))
def w_X4_addBit (σ : St) (a1 : Int32) (a2 : Int32) (a3 : Int32) (post : Int32 → St → Prop) : Prop := nm (σ.1 1 0) (fun x1 => nm (σ.1 1 1) (fun x2 => jn (α := Int32 → Prop) (fun (y4 : Int32) => w_X4_put σ x1 a1 y4 (-2 : Int32) (-2 : Int32) (fun σ6 => ck x1 24 (nm (upI σ6 9 (x1).toNatClampNeg a2) (fun σ7 => ck x1 24 (nm (upI σ7 13 (x1).toNatClampNeg x2) (fun σ8 => ck x2 10 (nm (upI σ8 14 (x2).toNatClampNeg x1) (fun σ9 => rd (σ9.1 15) 4 a2 (fun v10 => ck a2 4 (nm (upI σ9 15 (a2).toNatClampNeg (v10 ||| ((1 : Int32) <<< (x2 &&& 31)))) (fun σ11 => nm (upI σ11 1 2 ((σ11.1 1 2) ||| (a3 <<< (x2 &&& 31)))) (fun σ12 => jn (α := Int32 → Prop) (fun (y14 : Int32) => nm (upI σ12 1 4 ((σ12.1 1 4) ||| y14)) (fun σ15 => ck x1 24 (nm (upI σ15 16 (x1).toNatClampNeg ((1 : Int32) <<< (x2 &&& 31))) (fun σ16 => jn (α := St → Prop) (fun (σ18 : St) => nm (upI σ18 1 1 ((σ18.1 1 1) + (1 : Int32))) (fun σ19 => nm (upI σ19 1 0 ((σ19.1 1 0) + (1 : Int32))) (fun σ20 => post x1 σ20))) (fun J17 => lpE2 (w_X4_addBit_L125 x1 x2 J17) (0 : Int32) σ16))))) (fun J13 => br (a1 = (6 : Int32)) (J13 ((1 : Int32) <<< (x2 &&& 31))) (J13 (0 : Int32))))))))))))))) (fun J3 => br (a1 = (6 : Int32)) (J3 x1) (J3 (-2 : Int32)))))
set_option maxHeartbeats 4000000 in
set_option maxRecDepth 100000 in
theorem c_X4_addBit (l : Launch) (D : va_G) (cy : Nat → ClassId) (ad : Nat → Nat) (tL : Nat) (σ : St) (a1 : Int32) (a2 : Int32) (a3 : Int32) (post : Int32 → St → Prop) (hF : w_X4_addBit σ a1 a2 a3 post) : Cti l yX4_addBit cX4_addBit 7 (some .int) 1 25 D cy ad tL dsC σ [.ref (ad 1), .int a1, .int a2, .int a3] post := by
  refine cti_of (by decide) (Nat.le_of_ble_eq_true rfl) ?_
  intro p e s m args below meth c A hx hb hml hr hlk hg hown hA hK H locs hP hD hS hLB ls hl
  have hown : s.vm.findClass RX4 = some m.cls := hown
  have hl : lv_has ls 7 [(0, .ref (ad 1)), (1, .int a1), (2, .int a2), (3, .int a3)] := hl
  refine lv_aload_n hx hb dX4_addBit_0 rfl (lv_at hl 0 rfl) ?_
  refine wi_geti hx hb hg hown hK hP 1 0 rfl rfl cb_4 (by decide) kw_16 dX4_addBit_1 ?_
  refine lv_topi (fun x1 ex1 => ?_)
  have hF := hF x1 ex1
  refine lv_istore (lv' := [(4, .int x1), (0, .ref (ad 1)), (1, .int a1), (2, .int a2), (3, .int a3)]) hx hb dX4_addBit_4 hl (by decide) rfl (fun ls hl => ?_)
  refine lv_aload_n hx hb dX4_addBit_6 rfl (lv_at hl 1 rfl) ?_
  refine wi_geti hx hb hg hown hK hP 1 1 rfl rfl cb_4 (by decide) kw_92 dX4_addBit_7 ?_
  refine lv_topi (fun x2 ex2 => ?_)
  have hF := hF x2 ex2
  refine lv_istore (lv' := [(5, .int x2), (4, .int x1), (0, .ref (ad 1)), (1, .int a1), (2, .int a2), (3, .int a3)]) hx hb dX4_addBit_10 hl (by decide) rfl (fun ls hl => ?_)
  refine lv_aload_n hx hb dX4_addBit_12 rfl (lv_at hl 2 rfl) ?_
  refine lv_iload hx hb dX4_addBit_13 (lv_at hl 1 rfl) ?_
  refine lv_iload_n hx hb dX4_addBit_15 rfl (lv_at hl 3 rfl) ?_
  refine lv_iload_n hx hb dX4_addBit_16 rfl (lv_at hl 3 rfl) ?_
  refine lv_bipush (v := (6 : Int32)) hx hb dX4_addBit_17 (by decide) ?_
  refine jn_use hF (fun K => ∀ (y4 : Int32) (H : Heap) (locs : List Loc) (ls : Array Slot), K y4 → va_P D vwCl (wld cy ad dsC σ) H → va_D A (wld cy ad dsC σ) → va_S A s.heap H locs → lv_has ls 7 [(0, .ref (ad 1)), (1, .int a1), (2, .int a2), (3, .int a3), (4, .int x1), (5, .int x2)] → W p l e (rmO 1 25) s m args below meth c H locs 0 0 (MQ below (va_Qi post (cBk D cy ad dsC A) A) args s 0 0 A) (F0 m 29 ls [.int y4, .int a1, .int x1, .ref (ad 1)])) (fun y4 H locs ls hF hP hD hS hl => ?_) (fun J3 hJ3 hF => ?_)
  · refine lv_bipush (v := (-2 : Int32)) hx hb dX4_addBit_29 (by decide) ?_
    refine lv_bipush (v := (-2 : Int32)) hx hb dX4_addBit_31 (by decide) ?_
    refine wi_callVv (k := 1) (As := [.int x1, .int a1, .int y4, .int (-2 : Int32), .int (-2 : Int32)]) (c_X4_put l D cy ad tL σ x1 a1 y4 (-2 : Int32) (-2 : Int32) _ hF) vw_RX4_63 rfl cb_4 hx hb hml hown hg hK hP hD hS hA hLB rfl ⟨Nat.le_of_ble_eq_true rfl, Nat.le_of_ble_eq_true rfl⟩ hl.1 rfl (Nat.le_of_ble_eq_true rfl) dX4_addBit_33 (fun σ6 hw H locs hP hD hS => ?_)
    have hF := hw
    refine lv_aload_n hx hb dX4_addBit_36 rfl (lv_at hl 0 rfl) ?_
    refine wi_getr hx hb hg hown hK hP 1 6 9 rfl rfl cb_4 (by decide) kw_27 dX4_addBit_37 ?_
    refine lv_iload hx hb dX4_addBit_40 (lv_at hl 4 rfl) ?_
    refine lv_iload_n hx hb dX4_addBit_42 rfl (lv_at hl 2 rfl) ?_
    obtain ⟨hin, hF⟩ := hF
    refine wi_iast hx hb hK hP hD hS 9 rfl hin dX4_addBit_43 (fun σ7 eσ7 H locs hP hD hS => ?_)
    have hF := hF σ7 eσ7
    refine lv_aload_n hx hb dX4_addBit_44 rfl (lv_at hl 0 rfl) ?_
    refine wi_getr hx hb hg hown hK hP 1 10 13 rfl rfl cb_4 (by decide) kw_98 dX4_addBit_45 ?_
    refine lv_iload hx hb dX4_addBit_48 (lv_at hl 4 rfl) ?_
    refine lv_iload hx hb dX4_addBit_50 (lv_at hl 5 rfl) ?_
    obtain ⟨hin, hF⟩ := hF
    refine wi_iast hx hb hK hP hD hS 13 rfl hin dX4_addBit_52 (fun σ8 eσ8 H locs hP hD hS => ?_)
    have hF := hF σ8 eσ8
    refine lv_aload_n hx hb dX4_addBit_53 rfl (lv_at hl 0 rfl) ?_
    refine wi_getr hx hb hg hown hK hP 1 11 14 rfl rfl cb_4 (by decide) kw_99 dX4_addBit_54 ?_
    refine lv_iload hx hb dX4_addBit_57 (lv_at hl 5 rfl) ?_
    refine lv_iload hx hb dX4_addBit_59 (lv_at hl 4 rfl) ?_
    obtain ⟨hin, hF⟩ := hF
    refine wi_iast hx hb hK hP hD hS 14 rfl hin dX4_addBit_61 (fun σ9 eσ9 H locs hP hD hS => ?_)
    have hF := hF σ9 eσ9
    refine lv_aload_n hx hb dX4_addBit_62 rfl (lv_at hl 0 rfl) ?_
    refine wi_getr hx hb hg hown hK hP 1 12 15 rfl rfl cb_4 (by decide) kw_26 dX4_addBit_63 ?_
    refine lv_iload_n hx hb dX4_addBit_66 rfl (lv_at hl 2 rfl) ?_
    refine lv_dup2_11 hx hb dX4_addBit_67 rfl rfl ?_
    obtain ⟨hin, hF⟩ := hF
    refine wi_iald hx hb hK hP 15 rfl hin dX4_addBit_68 (fun v10 ev10 => ?_)
    have hF := hF v10 ev10
    refine lv_iconst (v := (1 : Int32)) hx hb dX4_addBit_69 (by decide) ?_
    refine lv_iload hx hb dX4_addBit_70 (lv_at hl 5 rfl) ?_
    refine lv_ishl hx hb dX4_addBit_72 ?_
    refine lv_ior hx hb dX4_addBit_73 ?_
    obtain ⟨hin, hF⟩ := hF
    refine wi_iast hx hb hK hP hD hS 15 rfl hin dX4_addBit_74 (fun σ11 eσ11 H locs hP hD hS => ?_)
    have hF := hF σ11 eσ11
    refine lv_aload_n hx hb dX4_addBit_75 rfl (lv_at hl 0 rfl) ?_
    refine lv_dup hx hb dX4_addBit_76 rfl ?_
    refine wi_geti hx hb hg hown hK hP 1 2 rfl rfl cb_4 (by decide) kw_93 dX4_addBit_77 ?_
    refine lv_iload_n hx hb dX4_addBit_80 rfl (lv_at hl 3 rfl) ?_
    refine lv_iload hx hb dX4_addBit_81 (lv_at hl 5 rfl) ?_
    refine lv_ishl hx hb dX4_addBit_83 ?_
    refine lv_ior hx hb dX4_addBit_84 ?_
    refine wi_puti hx hb hg hown hK hP hD hS 1 2 rfl rfl cb_4 (by decide) kw_93 rfl rfl rfl dX4_addBit_85 (fun σ12 eσ12 H locs hP hD hS => ?_)
    have hF := hF σ12 eσ12
    refine lv_aload_n hx hb dX4_addBit_88 rfl (lv_at hl 0 rfl) ?_
    refine lv_dup hx hb dX4_addBit_89 rfl ?_
    refine wi_geti hx hb hg hown hK hP 1 4 rfl rfl cb_4 (by decide) kw_95 dX4_addBit_90 ?_
    refine lv_iload_n hx hb dX4_addBit_93 rfl (lv_at hl 1 rfl) ?_
    refine lv_bipush (v := (6 : Int32)) hx hb dX4_addBit_94 (by decide) ?_
    refine jn_use hF (fun K => ∀ (y14 : Int32) (H : Heap) (locs : List Loc) (ls : Array Slot), K y14 → va_P D vwCl (wld cy ad dsC σ12) H → va_D A (wld cy ad dsC σ12) → va_S A s.heap H locs → lv_has ls 7 [(0, .ref (ad 1)), (4, .int x1), (5, .int x2)] → W p l e (rmO 1 25) s m args below meth c H locs 0 0 (MQ below (va_Qi post (cBk D cy ad dsC A) A) args s 0 0 A) (F0 m 107 ls [.int y14, .int (σ12.1 1 4), .ref (ad 1)])) (fun y14 H locs ls hF hP hD hS hl => ?_) (fun J13 hJ13 hF => ?_)
    · refine lv_ior hx hb dX4_addBit_107 ?_
      refine wi_puti hx hb hg hown hK hP hD hS 1 4 rfl rfl cb_4 (by decide) kw_95 rfl rfl rfl dX4_addBit_108 (fun σ15 eσ15 H locs hP hD hS => ?_)
      have hF := hF σ15 eσ15
      refine lv_aload_n hx hb dX4_addBit_111 rfl (lv_at hl 0 rfl) ?_
      refine wi_getr hx hb hg hown hK hP 1 13 16 rfl rfl cb_4 (by decide) kw_24 dX4_addBit_112 ?_
      refine lv_iload hx hb dX4_addBit_115 (lv_at hl 1 rfl) ?_
      refine lv_iconst (v := (1 : Int32)) hx hb dX4_addBit_117 (by decide) ?_
      refine lv_iload hx hb dX4_addBit_118 (lv_at hl 2 rfl) ?_
      refine lv_ishl hx hb dX4_addBit_120 ?_
      obtain ⟨hin, hF⟩ := hF
      refine wi_iast hx hb hK hP hD hS 16 rfl hin dX4_addBit_121 (fun σ16 eσ16 H locs hP hD hS => ?_)
      have hF := hF σ16 eσ16
      refine lv_iconst (v := (0 : Int32)) hx hb dX4_addBit_122 (by decide) ?_
      refine lv_istore (lv' := [(6, .int (0 : Int32)), (0, .ref (ad 1)), (4, .int x1), (5, .int x2)]) hx hb dX4_addBit_123 hl (by decide) rfl (fun ls hl => ?_)
      refine jn_use hF (fun K => ∀ (σ18 : St) (H : Heap) (locs : List Loc) (ls : Array Slot), K σ18 → va_P D vwCl (wld cy ad dsC σ18) H → va_D A (wld cy ad dsC σ18) → va_S A s.heap H locs → lv_has ls 7 [(0, .ref (ad 1)), (4, .int x1)] → W p l e (rmO 1 25) s m args below meth c H locs 0 0 (MQ below (va_Qi post (cBk D cy ad dsC A) A) args s 0 0 A) (F0 m 158 ls [])) (fun σ18 H locs ls hF hP hD hS hl => ?_) (fun J17 hJ17 hF => ?_)
      · refine lv_aload_n hx hb dX4_addBit_158 rfl (lv_at hl 0 rfl) ?_
        refine lv_dup hx hb dX4_addBit_159 rfl ?_
        refine wi_geti hx hb hg hown hK hP 1 1 rfl rfl cb_4 (by decide) kw_92 dX4_addBit_160 ?_
        refine lv_iconst (v := (1 : Int32)) hx hb dX4_addBit_163 (by decide) ?_
        refine lv_iadd hx hb dX4_addBit_164 ?_
        refine wi_puti hx hb hg hown hK hP hD hS 1 1 rfl rfl cb_4 (by decide) kw_92 rfl rfl rfl dX4_addBit_165 (fun σ19 eσ19 H locs hP hD hS => ?_)
        have hF := hF σ19 eσ19
        refine lv_aload_n hx hb dX4_addBit_168 rfl (lv_at hl 0 rfl) ?_
        refine lv_dup hx hb dX4_addBit_169 rfl ?_
        refine wi_geti hx hb hg hown hK hP 1 0 rfl rfl cb_4 (by decide) kw_16 dX4_addBit_170 ?_
        refine lv_iconst (v := (1 : Int32)) hx hb dX4_addBit_173 (by decide) ?_
        refine lv_iadd hx hb dX4_addBit_174 ?_
        refine wi_puti hx hb hg hown hK hP hD hS 1 0 rfl rfl cb_4 (by decide) kw_16 rfl rfl rfl dX4_addBit_175 (fun σ20 eσ20 H locs hP hD hS => ?_)
        have hF := hF σ20 eσ20
        refine lv_iload hx hb dX4_addBit_178 (lv_at hl 1 rfl) ?_
        exact wi_iret hx hb hr hlk hK hP hD hS dX4_addBit_180 hF
      · refine lpE2_use hF (fun (y21 : Int32) (σ22 : St) => ∀ (H : Heap) (locs : List Loc) (ls : Array Slot), va_P D vwCl (wld cy ad dsC σ22) H → va_D A (wld cy ad dsC σ22) → va_S A s.heap H locs → lv_has ls 7 [(0, .ref (ad 1)), (4, .int x1), (5, .int x2), (6, .int y21)] → W p l e (rmO 1 25) s m args below meth c H locs 0 0 (MQ below (va_Qi post (cBk D cy ad dsC A) A) args s 0 0 A) (F0 m 125 ls [])) (fun rec23 hrec23 y21 σ22 hF H locs ls hP hD hS hl => ?_) H locs ls hP hD hS (lv_sub hl [1, 2, 3, 0] rfl)
        refine lv_iload hx hb dX4_addBit_125 (lv_at hl 3 rfl) ?_
        refine lv_bipush (v := (16 : Int32)) hx hb dX4_addBit_127 (by decide) ?_
        refine lv_icmp_ge (tgt := 158) hx hb dX4_addBit_129 (by decide) (fun c24 => ?_) (fun c24 => ?_)
        · have hF := brT hF c24
          exact hJ17 σ22 H locs ls hF hP hD hS (lv_sub hl [0, 1] rfl)
        · have hF := brF hF c24
          refine lv_aload_n hx hb dX4_addBit_132 rfl (lv_at hl 0 rfl) ?_
          refine wi_getr hx hb hg hown hK hP 1 14 17 rfl rfl cb_4 (by decide) kw_101 dX4_addBit_133 ?_
          refine lv_iload hx hb dX4_addBit_136 (lv_at hl 1 rfl) ?_
          refine lv_bipush (v := (16 : Int32)) hx hb dX4_addBit_138 (by decide) ?_
          refine lv_imul hx hb dX4_addBit_140 ?_
          refine lv_iload hx hb dX4_addBit_141 (lv_at hl 3 rfl) ?_
          refine lv_iadd hx hb dX4_addBit_143 ?_
          refine lv_iload hx hb dX4_addBit_144 (lv_at hl 2 rfl) ?_
          refine lv_iload hx hb dX4_addBit_146 (lv_at hl 3 rfl) ?_
          refine wi_callSl (As := [.int x2, .int y21]) (c_X4_wordOfBit l D cy ad tL σ22 x2 y21 _ hF) sw_RX4_67 hx hb hml hown hg hK hP hD hS hA hLB rfl ⟨Nat.le_of_ble_eq_true rfl, Nat.le_of_ble_eq_true rfl⟩ hl.1 rfl (Nat.le_of_ble_eq_true rfl) dX4_addBit_148 (fun r25 σ26 hw H locs hP hD hS => ?_)
          obtain ⟨hF, rfl⟩ := hw
          obtain ⟨hin, hF⟩ := hF
          refine wi_last hx hb hK hP hD hS 17 rfl hin dX4_addBit_151 (fun σ27 eσ27 H locs hP hD hS => ?_)
          have hF := hF σ27 eσ27
          obtain ⟨x28, ex28⟩ : ∃ z : Int32, z = (y21 + (1 : Int32)) := ⟨_, rfl⟩
          have hF := hF x28 ex28
          refine lv_iinc (v := x28) (lv' := [(6, .int x28), (0, .ref (ad 1)), (4, .int x1), (5, .int x2)]) hx hb dX4_addBit_152 hl (k := 3) rfl (by rw [ex28]; rfl) (by decide) rfl (fun ls hl => ?_)
          refine lv_goto (tgt := 125) hx hb dX4_addBit_155 (by decide) ?_
          exact hrec23 x28 σ27 hF H locs ls hP hD hS (lv_sub hl [1, 2, 3, 0] rfl)
    · refine lv_icmp_ne (tgt := 106) hx hb dX4_addBit_96 (by decide) (fun c29 => ?_) (fun c29 => ?_)
      · have hF := brF hF c29
        refine lv_iconst (v := (0 : Int32)) hx hb dX4_addBit_106 (by decide) ?_
        exact hJ13 (0 : Int32) H locs ls hF hP hD hS (lv_sub hl [0, 4, 5] rfl)
      · have hF := brT hF c29
        refine lv_iconst (v := (1 : Int32)) hx hb dX4_addBit_99 (by decide) ?_
        refine lv_iload hx hb dX4_addBit_100 (lv_at hl 5 rfl) ?_
        refine lv_ishl hx hb dX4_addBit_102 ?_
        refine lv_goto (tgt := 107) hx hb dX4_addBit_103 (by decide) ?_
        exact hJ13 ((1 : Int32) <<< (x2 &&& 31)) H locs ls hF hP hD hS (lv_sub hl [0, 4, 5] rfl)
  · refine lv_icmp_ne (tgt := 27) hx hb dX4_addBit_19 (by decide) (fun c30 => ?_) (fun c30 => ?_)
    · have hF := brF hF c30
      refine lv_bipush (v := (-2 : Int32)) hx hb dX4_addBit_27 (by decide) ?_
      exact hJ3 (-2 : Int32) H locs ls hF hP hD hS (lv_sub hl [2, 3, 4, 5, 1, 0] rfl)
    · have hF := brT hF c30
      refine lv_iload hx hb dX4_addBit_22 (lv_at hl 1 rfl) ?_
      refine lv_goto (tgt := 29) hx hb dX4_addBit_24 (by decide) ?_
      exact hJ3 x1 H locs ls hF hP hD hS (lv_sub hl [2, 3, 4, 5, 1, 0] rfl)
def w_X4_wordOfGate (a1 : Int32) (a2 : Int64) (a3 : Int64) (a4 : Int64) (post : Int64 → Prop) : Prop := br (a1 = (0 : Int32)) (post (a2 &&& a3)) (br (a1 = (1 : Int32)) (post (a2 ||| a3)) (br (a1 = (2 : Int32)) (post (a2 ^^^ a3)) (br (a1 = (3 : Int32)) (post (a2 ^^^ (-1 : Int64))) (post ((a2 &&& a3) ||| ((a2 ^^^ (-1 : Int64)) &&& a4))))))
set_option maxHeartbeats 4000000 in
set_option maxRecDepth 100000 in
theorem c_X4_wordOfGate (l : Launch) (D : va_G) (cy : Nat → ClassId) (ad : Nat → Nat) (tL : Nat) (σ : St) (a1 : Int32) (a2 : Int64) (a3 : Int64) (a4 : Int64) (post : Int64 → Prop) (hF : w_X4_wordOfGate a1 a2 a3 a4 post) : Ctl l yX4_wordOfGate cX4_wordOfGate 7 (some .long) 0 0 D cy ad tL dsC σ [.int a1, .long a2, .long a3, .long a4] (fun r u => post r ∧ σ = u) := by
  refine ctl_of (by decide) (Nat.le_of_ble_eq_true rfl) ?_
  intro p e s m args below meth c A hx hb hml hr hlk hg hown hA hK H locs hP hD hS hLB ls hl
  have hown : s.vm.findClass RX4 = some m.cls := hown
  have hl : lv_has ls 7 [(0, .int a1), (1, .long a2), (3, .long a3), (5, .long a4)] := hl
  refine lv_iload_n hx hb dX4_wordOfGate_0 rfl (lv_at hl 0 rfl) ?_
  by_cases c1 : a1 = (0 : Int32)
  · have hF := brT hF c1
    refine lv_tableIn (off := 31) (tgt := 32) hx hb dX4_wordOfGate_1 (by rw [c1]; decide) (by rw [c1]; decide) (by rw [c1]; rfl) (by decide) ?_
    refine lv_lload_n hx hb dX4_wordOfGate_32 rfl (lv_at hl 1 rfl) ?_
    refine lv_lload_n hx hb dX4_wordOfGate_33 rfl (lv_at hl 2 rfl) ?_
    refine lv_land hx hb dX4_wordOfGate_34 ?_
    exact wi_lret hx hb hr hlk hK hP hD hS dX4_wordOfGate_35 ⟨hF, rfl⟩
  · have hF := brF hF c1
    by_cases c2 : a1 = (1 : Int32)
    · have hF := brT hF c2
      refine lv_tableIn (off := 35) (tgt := 36) hx hb dX4_wordOfGate_1 (by rw [c2]; decide) (by rw [c2]; decide) (by rw [c2]; rfl) (by decide) ?_
      refine lv_lload_n hx hb dX4_wordOfGate_36 rfl (lv_at hl 1 rfl) ?_
      refine lv_lload_n hx hb dX4_wordOfGate_37 rfl (lv_at hl 2 rfl) ?_
      refine lv_lor hx hb dX4_wordOfGate_38 ?_
      exact wi_lret hx hb hr hlk hK hP hD hS dX4_wordOfGate_39 ⟨hF, rfl⟩
    · have hF := brF hF c2
      by_cases c3 : a1 = (2 : Int32)
      · have hF := brT hF c3
        refine lv_tableIn (off := 39) (tgt := 40) hx hb dX4_wordOfGate_1 (by rw [c3]; decide) (by rw [c3]; decide) (by rw [c3]; rfl) (by decide) ?_
        refine lv_lload_n hx hb dX4_wordOfGate_40 rfl (lv_at hl 1 rfl) ?_
        refine lv_lload_n hx hb dX4_wordOfGate_41 rfl (lv_at hl 2 rfl) ?_
        refine lv_lxor hx hb dX4_wordOfGate_42 ?_
        exact wi_lret hx hb hr hlk hK hP hD hS dX4_wordOfGate_43 ⟨hF, rfl⟩
      · have hF := brF hF c3
        by_cases c4 : a1 = (3 : Int32)
        · have hF := brT hF c4
          refine lv_tableIn (off := 43) (tgt := 44) hx hb dX4_wordOfGate_1 (by rw [c4]; decide) (by rw [c4]; decide) (by rw [c4]; rfl) (by decide) ?_
          refine lv_lload_n hx hb dX4_wordOfGate_44 rfl (lv_at hl 1 rfl) ?_
          refine lv_ldc2 (v := (-1 : Int64)) hx hb hown (hg _ kw_106) dX4_wordOfGate_45 ?_
          refine lv_lxor hx hb dX4_wordOfGate_48 ?_
          exact wi_lret hx hb hr hlk hK hP hD hS dX4_wordOfGate_49 ⟨hF, rfl⟩
        · have hF := brF hF c4
          have nc1 := lv_neT (a := 0) c1 (by decide)
          have nc2 := lv_neT (a := 1) c2 (by decide)
          have nc3 := lv_neT (a := 2) c3 (by decide)
          have nc4 := lv_neT (a := 3) c4 (by decide)
          refine lv_tableOut (tgt := 50) hx hb dX4_wordOfGate_1 (by omega) (by decide) ?_
          refine lv_lload_n hx hb dX4_wordOfGate_50 rfl (lv_at hl 1 rfl) ?_
          refine lv_lload_n hx hb dX4_wordOfGate_51 rfl (lv_at hl 2 rfl) ?_
          refine lv_land hx hb dX4_wordOfGate_52 ?_
          refine lv_lload_n hx hb dX4_wordOfGate_53 rfl (lv_at hl 1 rfl) ?_
          refine lv_ldc2 (v := (-1 : Int64)) hx hb hown (hg _ kw_106) dX4_wordOfGate_54 ?_
          refine lv_lxor hx hb dX4_wordOfGate_57 ?_
          refine lv_lload hx hb dX4_wordOfGate_58 (lv_at hl 3 rfl) ?_
          refine lv_land hx hb dX4_wordOfGate_60 ?_
          refine lv_lor hx hb dX4_wordOfGate_61 ?_
          exact wi_lret hx hb hr hlk hK hP hD hS dX4_wordOfGate_62 ⟨hF, rfl⟩
def w_X4_workOut_L78 (a1 : Int32) (v1 : Int32) (y4 : Int32) (y7 : Int32) (J12 : St → Prop) (rec16 : Int32 → St → Prop) (y14 : Int32) (σ15 : St) : Prop := br ((16 : Int32) ≤ y14) (J12 σ15) (rd (σ15.1 8) 24 a1 (fun v18 => rd (σ15.2 17) 384 ((v1 * (16 : Int32)) + y14) (fun v19 => rd (σ15.2 17) 384 ((y4 * (16 : Int32)) + y14) (fun v20 => rd (σ15.2 17) 384 ((y7 * (16 : Int32)) + y14) (fun v21 => w_X4_wordOfGate v18 v19 v20 v21 (fun r22 => ck ((a1 * (16 : Int32)) + y14) 384 (nm (upJ σ15 17 (((a1 * (16 : Int32)) + y14)).toNatClampNeg r22) (fun σ24 => nm (y14 + (1 : Int32)) (fun x25 => rec16 x25 σ24)))))))))
def w_X4_workOut (σ : St) (a1 : Int32) (post : St → Prop) : Prop := rd (σ.1 10) 24 a1 (fun v1 => rd (σ.1 11) 24 a1 (fun v2 => jn (α := Int32 → Prop) (fun (y4 : Int32) => rd (σ.1 12) 24 a1 (fun v5 => jn (α := Int32 → Prop) (fun (y7 : Int32) => rd (σ.1 16) 24 v1 (fun v8 => rd (σ.1 16) 24 y4 (fun v9 => rd (σ.1 16) 24 y7 (fun v10 => ck a1 24 (nm (upI σ 16 (a1).toNatClampNeg ((v8 ||| v9) ||| v10)) (fun σ11 => jn (α := St → Prop) (fun (σ13 : St) => post σ13) (fun J12 => lpE2 (w_X4_workOut_L78 a1 v1 y4 y7 J12) (0 : Int32) σ11))))))) (fun J6 => br ((0 : Int32) ≤ v5) (rd (σ.1 12) 24 a1 (fun v27 => J6 v27)) (J6 v1)))) (fun J3 => br ((0 : Int32) ≤ v2) (rd (σ.1 11) 24 a1 (fun v29 => J3 v29)) (J3 v1))))
set_option maxHeartbeats 4000000 in
set_option maxRecDepth 100000 in
theorem c_X4_workOut (l : Launch) (D : va_G) (cy : Nat → ClassId) (ad : Nat → Nat) (tL : Nat) (σ : St) (a1 : Int32) (post : St → Prop) (hF : w_X4_workOut σ a1 post) : Ctv l yX4_workOut cX4_workOut 6 none 1 26 D cy ad tL dsC σ [.ref (ad 1), .int a1] post := by
  refine ctv_of (by decide) (Nat.le_of_ble_eq_true rfl) ?_
  intro p e s m args below meth c A hx hb hml hr hlk hg hown hA hK H locs hP hD hS hLB ls hl
  have hown : s.vm.findClass RX4 = some m.cls := hown
  have hl : lv_has ls 6 [(0, .ref (ad 1)), (1, .int a1)] := hl
  refine lv_aload_n hx hb dX4_workOut_0 rfl (lv_at hl 0 rfl) ?_
  refine wi_getr hx hb hg hown hK hP 1 7 10 rfl rfl cb_4 (by decide) kw_25 dX4_workOut_1 ?_
  refine lv_iload_n hx hb dX4_workOut_4 rfl (lv_at hl 1 rfl) ?_
  obtain ⟨hin, hF⟩ := hF
  refine wi_iald hx hb hK hP 10 rfl hin dX4_workOut_5 (fun v1 ev1 => ?_)
  have hF := hF v1 ev1
  refine lv_istore_n (lv' := [(2, .int v1), (0, .ref (ad 1)), (1, .int a1)]) hx hb dX4_workOut_6 rfl hl (by decide) rfl (fun ls hl => ?_)
  refine lv_aload_n hx hb dX4_workOut_7 rfl (lv_at hl 1 rfl) ?_
  refine wi_getr hx hb hg hown hK hP 1 8 11 rfl rfl cb_4 (by decide) kw_96 dX4_workOut_8 ?_
  refine lv_iload_n hx hb dX4_workOut_11 rfl (lv_at hl 2 rfl) ?_
  obtain ⟨hin, hF⟩ := hF
  refine wi_iald hx hb hK hP 11 rfl hin dX4_workOut_12 (fun v2 ev2 => ?_)
  have hF := hF v2 ev2
  refine jn_use hF (fun K => ∀ (y4 : Int32) (H : Heap) (locs : List Loc) (ls : Array Slot), K y4 → va_P D vwCl (wld cy ad dsC σ) H → va_D A (wld cy ad dsC σ) → va_S A s.heap H locs → lv_has ls 6 [(0, .ref (ad 1)), (1, .int a1), (2, .int v1)] → W p l e (rmO 1 26) s m args below meth c H locs 0 0 (MQ below (va_Qv post (cBk D cy ad dsC A) A) args s 0 0 A) (F0 m 26 ls [.int y4])) (fun y4 H locs ls hF hP hD hS hl => ?_) (fun J3 hJ3 hF => ?_)
  · refine lv_istore_n (lv' := [(3, .int y4), (0, .ref (ad 1)), (1, .int a1), (2, .int v1)]) hx hb dX4_workOut_26 rfl hl (by decide) rfl (fun ls hl => ?_)
    refine lv_aload_n hx hb dX4_workOut_27 rfl (lv_at hl 1 rfl) ?_
    refine wi_getr hx hb hg hown hK hP 1 9 12 rfl rfl cb_4 (by decide) kw_97 dX4_workOut_28 ?_
    refine lv_iload_n hx hb dX4_workOut_31 rfl (lv_at hl 2 rfl) ?_
    obtain ⟨hin, hF⟩ := hF
    refine wi_iald hx hb hK hP 12 rfl hin dX4_workOut_32 (fun v5 ev5 => ?_)
    have hF := hF v5 ev5
    refine jn_use hF (fun K => ∀ (y7 : Int32) (H : Heap) (locs : List Loc) (ls : Array Slot), K y7 → va_P D vwCl (wld cy ad dsC σ) H → va_D A (wld cy ad dsC σ) → va_S A s.heap H locs → lv_has ls 6 [(0, .ref (ad 1)), (1, .int a1), (2, .int v1), (3, .int y4)] → W p l e (rmO 1 26) s m args below meth c H locs 0 0 (MQ below (va_Qv post (cBk D cy ad dsC A) A) args s 0 0 A) (F0 m 46 ls [.int y7])) (fun y7 H locs ls hF hP hD hS hl => ?_) (fun J6 hJ6 hF => ?_)
    · refine lv_istore (lv' := [(4, .int y7), (0, .ref (ad 1)), (1, .int a1), (2, .int v1), (3, .int y4)]) hx hb dX4_workOut_46 hl (by decide) rfl (fun ls hl => ?_)
      refine lv_aload_n hx hb dX4_workOut_48 rfl (lv_at hl 1 rfl) ?_
      refine wi_getr hx hb hg hown hK hP 1 13 16 rfl rfl cb_4 (by decide) kw_24 dX4_workOut_49 ?_
      refine lv_iload_n hx hb dX4_workOut_52 rfl (lv_at hl 2 rfl) ?_
      refine lv_aload_n hx hb dX4_workOut_53 rfl (lv_at hl 1 rfl) ?_
      refine wi_getr hx hb hg hown hK hP 1 13 16 rfl rfl cb_4 (by decide) kw_24 dX4_workOut_54 ?_
      refine lv_iload_n hx hb dX4_workOut_57 rfl (lv_at hl 3 rfl) ?_
      obtain ⟨hin, hF⟩ := hF
      refine wi_iald hx hb hK hP 16 rfl hin dX4_workOut_58 (fun v8 ev8 => ?_)
      have hF := hF v8 ev8
      refine lv_aload_n hx hb dX4_workOut_59 rfl (lv_at hl 1 rfl) ?_
      refine wi_getr hx hb hg hown hK hP 1 13 16 rfl rfl cb_4 (by decide) kw_24 dX4_workOut_60 ?_
      refine lv_iload_n hx hb dX4_workOut_63 rfl (lv_at hl 4 rfl) ?_
      obtain ⟨hin, hF⟩ := hF
      refine wi_iald hx hb hK hP 16 rfl hin dX4_workOut_64 (fun v9 ev9 => ?_)
      have hF := hF v9 ev9
      refine lv_ior hx hb dX4_workOut_65 ?_
      refine lv_aload_n hx hb dX4_workOut_66 rfl (lv_at hl 1 rfl) ?_
      refine wi_getr hx hb hg hown hK hP 1 13 16 rfl rfl cb_4 (by decide) kw_24 dX4_workOut_67 ?_
      refine lv_iload hx hb dX4_workOut_70 (lv_at hl 0 rfl) ?_
      obtain ⟨hin, hF⟩ := hF
      refine wi_iald hx hb hK hP 16 rfl hin dX4_workOut_72 (fun v10 ev10 => ?_)
      have hF := hF v10 ev10
      refine lv_ior hx hb dX4_workOut_73 ?_
      obtain ⟨hin, hF⟩ := hF
      refine wi_iast hx hb hK hP hD hS 16 rfl hin dX4_workOut_74 (fun σ11 eσ11 H locs hP hD hS => ?_)
      have hF := hF σ11 eσ11
      refine lv_iconst (v := (0 : Int32)) hx hb dX4_workOut_75 (by decide) ?_
      refine lv_istore (lv' := [(5, .int (0 : Int32)), (4, .int y7), (0, .ref (ad 1)), (1, .int a1), (2, .int v1), (3, .int y4)]) hx hb dX4_workOut_76 hl (by decide) rfl (fun ls hl => ?_)
      refine jn_use hF (fun K => ∀ (σ13 : St) (H : Heap) (locs : List Loc) (ls : Array Slot), K σ13 → va_P D vwCl (wld cy ad dsC σ13) H → va_D A (wld cy ad dsC σ13) → va_S A s.heap H locs → lv_has ls 6 [] → W p l e (rmO 1 26) s m args below meth c H locs 0 0 (MQ below (va_Qv post (cBk D cy ad dsC A) A) args s 0 0 A) (F0 m 149 ls [])) (fun σ13 H locs ls hF hP hD hS hl => ?_) (fun J12 hJ12 hF => ?_)
      · exact wi_vret hx hb hr hlk hK hP hD hS dX4_workOut_149 hF
      · refine lpE2_use hF (fun (y14 : Int32) (σ15 : St) => ∀ (H : Heap) (locs : List Loc) (ls : Array Slot), va_P D vwCl (wld cy ad dsC σ15) H → va_D A (wld cy ad dsC σ15) → va_S A s.heap H locs → lv_has ls 6 [(0, .ref (ad 1)), (1, .int a1), (2, .int v1), (3, .int y4), (4, .int y7), (5, .int y14)] → W p l e (rmO 1 26) s m args below meth c H locs 0 0 (MQ below (va_Qv post (cBk D cy ad dsC A) A) args s 0 0 A) (F0 m 78 ls [])) (fun rec16 hrec16 y14 σ15 hF H locs ls hP hD hS hl => ?_) H locs ls hP hD hS (lv_sub hl [2, 3, 4, 5, 1, 0] rfl)
        refine lv_iload hx hb dX4_workOut_78 (lv_at hl 5 rfl) ?_
        refine lv_bipush (v := (16 : Int32)) hx hb dX4_workOut_80 (by decide) ?_
        refine lv_icmp_ge (tgt := 149) hx hb dX4_workOut_82 (by decide) (fun c17 => ?_) (fun c17 => ?_)
        · have hF := brT hF c17
          exact hJ12 σ15 H locs ls hF hP hD hS (lv_sub hl [] rfl)
        · have hF := brF hF c17
          refine lv_aload_n hx hb dX4_workOut_85 rfl (lv_at hl 0 rfl) ?_
          refine wi_getr hx hb hg hown hK hP 1 14 17 rfl rfl cb_4 (by decide) kw_101 dX4_workOut_86 ?_
          refine lv_iload_n hx hb dX4_workOut_89 rfl (lv_at hl 1 rfl) ?_
          refine lv_bipush (v := (16 : Int32)) hx hb dX4_workOut_90 (by decide) ?_
          refine lv_imul hx hb dX4_workOut_92 ?_
          refine lv_iload hx hb dX4_workOut_93 (lv_at hl 5 rfl) ?_
          refine lv_iadd hx hb dX4_workOut_95 ?_
          refine lv_aload_n hx hb dX4_workOut_96 rfl (lv_at hl 0 rfl) ?_
          refine wi_getr hx hb hg hown hK hP 1 5 8 rfl rfl cb_4 (by decide) kw_18 dX4_workOut_97 ?_
          refine lv_iload_n hx hb dX4_workOut_100 rfl (lv_at hl 1 rfl) ?_
          obtain ⟨hin, hF⟩ := hF
          refine wi_iald hx hb hK hP 8 rfl hin dX4_workOut_101 (fun v18 ev18 => ?_)
          have hF := hF v18 ev18
          refine lv_aload_n hx hb dX4_workOut_102 rfl (lv_at hl 0 rfl) ?_
          refine wi_getr hx hb hg hown hK hP 1 14 17 rfl rfl cb_4 (by decide) kw_101 dX4_workOut_103 ?_
          refine lv_iload_n hx hb dX4_workOut_106 rfl (lv_at hl 2 rfl) ?_
          refine lv_bipush (v := (16 : Int32)) hx hb dX4_workOut_107 (by decide) ?_
          refine lv_imul hx hb dX4_workOut_109 ?_
          refine lv_iload hx hb dX4_workOut_110 (lv_at hl 5 rfl) ?_
          refine lv_iadd hx hb dX4_workOut_112 ?_
          obtain ⟨hin, hF⟩ := hF
          refine wi_lald hx hb hK hP 17 rfl hin dX4_workOut_113 (fun v19 ev19 => ?_)
          have hF := hF v19 ev19
          refine lv_aload_n hx hb dX4_workOut_114 rfl (lv_at hl 0 rfl) ?_
          refine wi_getr hx hb hg hown hK hP 1 14 17 rfl rfl cb_4 (by decide) kw_101 dX4_workOut_115 ?_
          refine lv_iload_n hx hb dX4_workOut_118 rfl (lv_at hl 3 rfl) ?_
          refine lv_bipush (v := (16 : Int32)) hx hb dX4_workOut_119 (by decide) ?_
          refine lv_imul hx hb dX4_workOut_121 ?_
          refine lv_iload hx hb dX4_workOut_122 (lv_at hl 5 rfl) ?_
          refine lv_iadd hx hb dX4_workOut_124 ?_
          obtain ⟨hin, hF⟩ := hF
          refine wi_lald hx hb hK hP 17 rfl hin dX4_workOut_125 (fun v20 ev20 => ?_)
          have hF := hF v20 ev20
          refine lv_aload_n hx hb dX4_workOut_126 rfl (lv_at hl 0 rfl) ?_
          refine wi_getr hx hb hg hown hK hP 1 14 17 rfl rfl cb_4 (by decide) kw_101 dX4_workOut_127 ?_
          refine lv_iload hx hb dX4_workOut_130 (lv_at hl 4 rfl) ?_
          refine lv_bipush (v := (16 : Int32)) hx hb dX4_workOut_132 (by decide) ?_
          refine lv_imul hx hb dX4_workOut_134 ?_
          refine lv_iload hx hb dX4_workOut_135 (lv_at hl 5 rfl) ?_
          refine lv_iadd hx hb dX4_workOut_137 ?_
          obtain ⟨hin, hF⟩ := hF
          refine wi_lald hx hb hK hP 17 rfl hin dX4_workOut_138 (fun v21 ev21 => ?_)
          have hF := hF v21 ev21
          refine wi_callSl (As := [.int v18, .long v19, .long v20, .long v21]) (c_X4_wordOfGate l D cy ad tL σ15 v18 v19 v20 v21 _ hF) sw_RX4_84 hx hb hml hown hg hK hP hD hS hA hLB rfl ⟨Nat.le_of_ble_eq_true rfl, Nat.le_of_ble_eq_true rfl⟩ hl.1 rfl (Nat.le_of_ble_eq_true rfl) dX4_workOut_139 (fun r22 σ23 hw H locs hP hD hS => ?_)
          obtain ⟨hF, rfl⟩ := hw
          obtain ⟨hin, hF⟩ := hF
          refine wi_last hx hb hK hP hD hS 17 rfl hin dX4_workOut_142 (fun σ24 eσ24 H locs hP hD hS => ?_)
          have hF := hF σ24 eσ24
          obtain ⟨x25, ex25⟩ : ∃ z : Int32, z = (y14 + (1 : Int32)) := ⟨_, rfl⟩
          have hF := hF x25 ex25
          refine lv_iinc (v := x25) (lv' := [(5, .int x25), (0, .ref (ad 1)), (1, .int a1), (2, .int v1), (3, .int y4), (4, .int y7)]) hx hb dX4_workOut_143 hl (k := 5) rfl (by rw [ex25]; rfl) (by decide) rfl (fun ls hl => ?_)
          refine lv_goto (tgt := 78) hx hb dX4_workOut_146 (by decide) ?_
          exact hrec16 x25 σ24 hF H locs ls hP hD hS (lv_sub hl [1, 2, 3, 4, 5, 0] rfl)
    · refine lv_if_ge (tgt := 40) hx hb dX4_workOut_33 (by decide) (fun c26 => ?_) (fun c26 => ?_)
      · have hF := brT hF c26
        refine lv_aload_n hx hb dX4_workOut_40 rfl (lv_at hl 1 rfl) ?_
        refine wi_getr hx hb hg hown hK hP 1 9 12 rfl rfl cb_4 (by decide) kw_97 dX4_workOut_41 ?_
        refine lv_iload_n hx hb dX4_workOut_44 rfl (lv_at hl 2 rfl) ?_
        obtain ⟨hin, hF⟩ := hF
        refine wi_iald hx hb hK hP 12 rfl hin dX4_workOut_45 (fun v27 ev27 => ?_)
        have hF := hF v27 ev27
        exact hJ6 v27 H locs ls hF hP hD hS (lv_sub hl [1, 2, 3, 0] rfl)
      · have hF := brF hF c26
        refine lv_iload_n hx hb dX4_workOut_36 rfl (lv_at hl 3 rfl) ?_
        refine lv_goto (tgt := 46) hx hb dX4_workOut_37 (by decide) ?_
        exact hJ6 v1 H locs ls hF hP hD hS (lv_sub hl [1, 2, 3, 0] rfl)
  · refine lv_if_ge (tgt := 20) hx hb dX4_workOut_13 (by decide) (fun c28 => ?_) (fun c28 => ?_)
    · have hF := brT hF c28
      refine lv_aload_n hx hb dX4_workOut_20 rfl (lv_at hl 1 rfl) ?_
      refine wi_getr hx hb hg hown hK hP 1 8 11 rfl rfl cb_4 (by decide) kw_96 dX4_workOut_21 ?_
      refine lv_iload_n hx hb dX4_workOut_24 rfl (lv_at hl 2 rfl) ?_
      obtain ⟨hin, hF⟩ := hF
      refine wi_iald hx hb hK hP 11 rfl hin dX4_workOut_25 (fun v29 ev29 => ?_)
      have hF := hF v29 ev29
      exact hJ3 v29 H locs ls hF hP hD hS (lv_sub hl [1, 2, 0] rfl)
    · have hF := brF hF c28
      refine lv_iload_n hx hb dX4_workOut_16 rfl (lv_at hl 0 rfl) ?_
      refine lv_goto (tgt := 26) hx hb dX4_workOut_17 (by decide) ?_
      exact hJ3 v1 H locs ls hF hP hD hS (lv_sub hl [1, 2, 0] rfl)
def w_X4_addGate (σ : St) (a1 : Int32) (a2 : Int32) (a3 : Int32) (a4 : Int32) (post : Int32 → St → Prop) : Prop := nm (σ.1 1 0) (fun x1 => w_X4_put σ x1 a1 a2 a3 a4 (fun σ3 => ck x1 24 (nm (upI σ3 9 (x1).toNatClampNeg (-2 : Int32)) (fun σ4 => ck x1 24 (nm (upI σ4 13 (x1).toNatClampNeg (-2 : Int32)) (fun σ5 => w_X4_workOut σ5 x1 (fun σ7 => nm (upI σ7 1 0 ((σ7.1 1 0) + (1 : Int32))) (fun σ8 => post x1 σ8))))))))
set_option maxHeartbeats 4000000 in
set_option maxRecDepth 100000 in
theorem c_X4_addGate (l : Launch) (D : va_G) (cy : Nat → ClassId) (ad : Nat → Nat) (tL : Nat) (σ : St) (a1 : Int32) (a2 : Int32) (a3 : Int32) (a4 : Int32) (post : Int32 → St → Prop) (hF : w_X4_addGate σ a1 a2 a3 a4 post) : Cti l yX4_addGate cX4_addGate 6 (some .int) 2 51 D cy ad tL dsC σ [.ref (ad 1), .int a1, .int a2, .int a3, .int a4] post := by
  refine cti_of (by decide) (Nat.le_of_ble_eq_true rfl) ?_
  intro p e s m args below meth c A hx hb hml hr hlk hg hown hA hK H locs hP hD hS hLB ls hl
  have hown : s.vm.findClass RX4 = some m.cls := hown
  have hl : lv_has ls 6 [(0, .ref (ad 1)), (1, .int a1), (2, .int a2), (3, .int a3), (4, .int a4)] := hl
  refine lv_aload_n hx hb dX4_addGate_0 rfl (lv_at hl 0 rfl) ?_
  refine wi_geti hx hb hg hown hK hP 1 0 rfl rfl cb_4 (by decide) kw_16 dX4_addGate_1 ?_
  refine lv_topi (fun x1 ex1 => ?_)
  have hF := hF x1 ex1
  refine lv_istore (lv' := [(5, .int x1), (0, .ref (ad 1)), (1, .int a1), (2, .int a2), (3, .int a3), (4, .int a4)]) hx hb dX4_addGate_4 hl (by decide) rfl (fun ls hl => ?_)
  refine lv_aload_n hx hb dX4_addGate_6 rfl (lv_at hl 1 rfl) ?_
  refine lv_iload hx hb dX4_addGate_7 (lv_at hl 0 rfl) ?_
  refine lv_iload_n hx hb dX4_addGate_9 rfl (lv_at hl 2 rfl) ?_
  refine lv_iload_n hx hb dX4_addGate_10 rfl (lv_at hl 3 rfl) ?_
  refine lv_iload_n hx hb dX4_addGate_11 rfl (lv_at hl 4 rfl) ?_
  refine lv_iload hx hb dX4_addGate_12 (lv_at hl 5 rfl) ?_
  refine wi_callVv (k := 1) (As := [.int x1, .int a1, .int a2, .int a3, .int a4]) (c_X4_put l D cy ad tL σ x1 a1 a2 a3 a4 _ hF) vw_RX4_63 rfl cb_4 hx hb hml hown hg hK hP hD hS hA hLB rfl ⟨Nat.le_of_ble_eq_true rfl, Nat.le_of_ble_eq_true rfl⟩ hl.1 rfl (Nat.le_of_ble_eq_true rfl) dX4_addGate_14 (fun σ3 hw H locs hP hD hS => ?_)
  have hF := hw
  refine lv_aload_n hx hb dX4_addGate_17 rfl (lv_at hl 1 rfl) ?_
  refine wi_getr hx hb hg hown hK hP 1 6 9 rfl rfl cb_4 (by decide) kw_27 dX4_addGate_18 ?_
  refine lv_iload hx hb dX4_addGate_21 (lv_at hl 0 rfl) ?_
  refine lv_bipush (v := (-2 : Int32)) hx hb dX4_addGate_23 (by decide) ?_
  obtain ⟨hin, hF⟩ := hF
  refine wi_iast hx hb hK hP hD hS 9 rfl hin dX4_addGate_25 (fun σ4 eσ4 H locs hP hD hS => ?_)
  have hF := hF σ4 eσ4
  refine lv_aload_n hx hb dX4_addGate_26 rfl (lv_at hl 1 rfl) ?_
  refine wi_getr hx hb hg hown hK hP 1 10 13 rfl rfl cb_4 (by decide) kw_98 dX4_addGate_27 ?_
  refine lv_iload hx hb dX4_addGate_30 (lv_at hl 0 rfl) ?_
  refine lv_bipush (v := (-2 : Int32)) hx hb dX4_addGate_32 (by decide) ?_
  obtain ⟨hin, hF⟩ := hF
  refine wi_iast hx hb hK hP hD hS 13 rfl hin dX4_addGate_34 (fun σ5 eσ5 H locs hP hD hS => ?_)
  have hF := hF σ5 eσ5
  refine lv_aload_n hx hb dX4_addGate_35 rfl (lv_at hl 1 rfl) ?_
  refine lv_iload hx hb dX4_addGate_36 (lv_at hl 0 rfl) ?_
  refine wi_callVv (k := 1) (As := [.int x1]) (c_X4_workOut l D cy ad tL σ5 x1 _ hF) vw_RX4_71 rfl cb_4 hx hb hml hown hg hK hP hD hS hA hLB rfl ⟨Nat.le_of_ble_eq_true rfl, Nat.le_of_ble_eq_true rfl⟩ hl.1 rfl (Nat.le_of_ble_eq_true rfl) dX4_addGate_38 (fun σ7 hw H locs hP hD hS => ?_)
  have hF := hw
  refine lv_aload_n hx hb dX4_addGate_41 rfl (lv_at hl 1 rfl) ?_
  refine lv_dup hx hb dX4_addGate_42 rfl ?_
  refine wi_geti hx hb hg hown hK hP 1 0 rfl rfl cb_4 (by decide) kw_16 dX4_addGate_43 ?_
  refine lv_iconst (v := (1 : Int32)) hx hb dX4_addGate_46 (by decide) ?_
  refine lv_iadd hx hb dX4_addGate_47 ?_
  refine wi_puti hx hb hg hown hK hP hD hS 1 0 rfl rfl cb_4 (by decide) kw_16 rfl rfl rfl dX4_addGate_48 (fun σ8 eσ8 H locs hP hD hS => ?_)
  have hF := hF σ8 eσ8
  refine lv_iload hx hb dX4_addGate_51 (lv_at hl 0 rfl) ?_
  exact wi_iret hx hb hr hlk hK hP hD hS dX4_addGate_53 hF
def w_X4_addBehind_L28 (a1 : Int32) (r3 : Int32) (J5 : St → Prop) (rec10 : Int32 → St → Prop) (y8 : Int32) (σ9 : St) : Prop := br ((σ9.1 1 0) ≤ y8) (J5 σ9) (rd (σ9.1 10) 24 y8 (fun v12 => jn (α := Int32 → Prop) (fun (y14 : Int32) => ck y8 24 (nm (upI σ9 10 (y8).toNatClampNeg y14) (fun σ15 => rd (σ15.1 11) 24 y8 (fun v16 => jn (α := Int32 → Prop) (fun (y18 : Int32) => ck y8 24 (nm (upI σ15 11 (y8).toNatClampNeg y18) (fun σ19 => rd (σ19.1 12) 24 y8 (fun v20 => jn (α := Int32 → Prop) (fun (y22 : Int32) => ck y8 24 (nm (upI σ19 12 (y8).toNatClampNeg y22) (fun σ23 => rd (σ23.1 8) 24 y8 (fun v24 => br ((4 : Int32) < v24) (nm (y8 + (1 : Int32)) (fun x26 => rec10 x26 σ23)) (w_X4_workOut σ23 y8 (fun σ28 => nm (y8 + (1 : Int32)) (fun x29 => rec10 x29 σ28))))))) (fun J21 => br (v20 = a1) (J21 r3) (rd (σ19.1 12) 24 y8 (fun v31 => J21 v31))))))) (fun J17 => br (v16 = a1) (J17 r3) (rd (σ15.1 11) 24 y8 (fun v33 => J17 v33))))))) (fun J13 => br (v12 = a1) (J13 r3) (rd (σ9.1 10) 24 y8 (fun v35 => J13 v35)))))
def w_X4_addBehind (σ : St) (a1 : Int32) (post : Int32 → St → Prop) : Prop := rd (σ.1 9) 24 a1 (fun v1 => rd (σ.1 13) 24 a1 (fun v2 => w_X4_addBit σ (6 : Int32) v1 (((σ.1 1 2) >>> (v2 &&& 31)) &&& (1 : Int32)) (fun r3 σ4 => jn (α := St → Prop) (fun (σ6 : St) => ck r3 24 (nm (upI σ6 10 (r3).toNatClampNeg a1) (fun σ7 => post r3 σ7))) (fun J5 => lpE2 (w_X4_addBehind_L28 a1 r3 J5) (0 : Int32) σ4))))
set_option maxHeartbeats 4000000 in
set_option maxRecDepth 100000 in
theorem c_X4_addBehind (l : Launch) (D : va_G) (cy : Nat → ClassId) (ad : Nat → Nat) (tL : Nat) (σ : St) (a1 : Int32) (post : Int32 → St → Prop) (hF : w_X4_addBehind σ a1 post) : Cti l yX4_addBehind cX4_addBehind 4 (some .int) 2 51 D cy ad tL dsC σ [.ref (ad 1), .int a1] post := by
  refine cti_of (by decide) (Nat.le_of_ble_eq_true rfl) ?_
  intro p e s m args below meth c A hx hb hml hr hlk hg hown hA hK H locs hP hD hS hLB ls hl
  have hown : s.vm.findClass RX4 = some m.cls := hown
  have hl : lv_has ls 4 [(0, .ref (ad 1)), (1, .int a1)] := hl
  refine lv_aload_n hx hb dX4_addBehind_0 rfl (lv_at hl 0 rfl) ?_
  refine lv_bipush (v := (6 : Int32)) hx hb dX4_addBehind_1 (by decide) ?_
  refine lv_aload_n hx hb dX4_addBehind_3 rfl (lv_at hl 0 rfl) ?_
  refine wi_getr hx hb hg hown hK hP 1 6 9 rfl rfl cb_4 (by decide) kw_27 dX4_addBehind_4 ?_
  refine lv_iload_n hx hb dX4_addBehind_7 rfl (lv_at hl 1 rfl) ?_
  obtain ⟨hin, hF⟩ := hF
  refine wi_iald hx hb hK hP 9 rfl hin dX4_addBehind_8 (fun v1 ev1 => ?_)
  have hF := hF v1 ev1
  refine lv_aload_n hx hb dX4_addBehind_9 rfl (lv_at hl 0 rfl) ?_
  refine wi_geti hx hb hg hown hK hP 1 2 rfl rfl cb_4 (by decide) kw_93 dX4_addBehind_10 ?_
  refine lv_aload_n hx hb dX4_addBehind_13 rfl (lv_at hl 0 rfl) ?_
  refine wi_getr hx hb hg hown hK hP 1 10 13 rfl rfl cb_4 (by decide) kw_98 dX4_addBehind_14 ?_
  refine lv_iload_n hx hb dX4_addBehind_17 rfl (lv_at hl 1 rfl) ?_
  obtain ⟨hin, hF⟩ := hF
  refine wi_iald hx hb hK hP 13 rfl hin dX4_addBehind_18 (fun v2 ev2 => ?_)
  have hF := hF v2 ev2
  refine lv_ishr hx hb dX4_addBehind_19 ?_
  refine lv_iconst (v := (1 : Int32)) hx hb dX4_addBehind_20 (by decide) ?_
  refine lv_iand hx hb dX4_addBehind_21 ?_
  refine wi_callVi (k := 1) (As := [.int (6 : Int32), .int v1, .int (((σ.1 1 2) >>> (v2 &&& 31)) &&& (1 : Int32))]) (c_X4_addBit l D cy ad tL σ (6 : Int32) v1 (((σ.1 1 2) >>> (v2 &&& 31)) &&& (1 : Int32)) _ hF) vw_RX4_75 rfl cb_4 hx hb hml hown hg hK hP hD hS hA hLB rfl ⟨Nat.le_of_ble_eq_true rfl, Nat.le_of_ble_eq_true rfl⟩ hl.1 rfl (Nat.le_of_ble_eq_true rfl) dX4_addBehind_22 (fun r3 σ4 hw H locs hP hD hS => ?_)
  have hF := hw
  refine lv_istore_n (lv' := [(2, .int r3), (0, .ref (ad 1)), (1, .int a1)]) hx hb dX4_addBehind_25 rfl hl (by decide) rfl (fun ls hl => ?_)
  refine lv_iconst (v := (0 : Int32)) hx hb dX4_addBehind_26 (by decide) ?_
  refine lv_istore_n (lv' := [(3, .int (0 : Int32)), (2, .int r3), (0, .ref (ad 1)), (1, .int a1)]) hx hb dX4_addBehind_27 rfl hl (by decide) rfl (fun ls hl => ?_)
  refine jn_use hF (fun K => ∀ (σ6 : St) (H : Heap) (locs : List Loc) (ls : Array Slot), K σ6 → va_P D vwCl (wld cy ad dsC σ6) H → va_D A (wld cy ad dsC σ6) → va_S A s.heap H locs → lv_has ls 4 [(0, .ref (ad 1)), (1, .int a1), (2, .int r3)] → W p l e (rmO 2 51) s m args below meth c H locs 0 0 (MQ below (va_Qi post (cBk D cy ad dsC A) A) args s 0 0 A) (F0 m 135 ls [])) (fun σ6 H locs ls hF hP hD hS hl => ?_) (fun J5 hJ5 hF => ?_)
  · refine lv_aload_n hx hb dX4_addBehind_135 rfl (lv_at hl 0 rfl) ?_
    refine wi_getr hx hb hg hown hK hP 1 7 10 rfl rfl cb_4 (by decide) kw_25 dX4_addBehind_136 ?_
    refine lv_iload_n hx hb dX4_addBehind_139 rfl (lv_at hl 2 rfl) ?_
    refine lv_iload_n hx hb dX4_addBehind_140 rfl (lv_at hl 1 rfl) ?_
    obtain ⟨hin, hF⟩ := hF
    refine wi_iast hx hb hK hP hD hS 10 rfl hin dX4_addBehind_141 (fun σ7 eσ7 H locs hP hD hS => ?_)
    have hF := hF σ7 eσ7
    refine lv_iload_n hx hb dX4_addBehind_142 rfl (lv_at hl 2 rfl) ?_
    exact wi_iret hx hb hr hlk hK hP hD hS dX4_addBehind_143 hF
  · refine lpE2_use hF (fun (y8 : Int32) (σ9 : St) => ∀ (H : Heap) (locs : List Loc) (ls : Array Slot), va_P D vwCl (wld cy ad dsC σ9) H → va_D A (wld cy ad dsC σ9) → va_S A s.heap H locs → lv_has ls 4 [(0, .ref (ad 1)), (1, .int a1), (2, .int r3), (3, .int y8)] → W p l e (rmO 2 51) s m args below meth c H locs 0 0 (MQ below (va_Qi post (cBk D cy ad dsC A) A) args s 0 0 A) (F0 m 28 ls [])) (fun rec10 hrec10 y8 σ9 hF H locs ls hP hD hS hl => ?_) H locs ls hP hD hS (lv_sub hl [2, 3, 1, 0] rfl)
    refine lv_iload_n hx hb dX4_addBehind_28 rfl (lv_at hl 3 rfl) ?_
    refine lv_aload_n hx hb dX4_addBehind_29 rfl (lv_at hl 0 rfl) ?_
    refine wi_geti hx hb hg hown hK hP 1 0 rfl rfl cb_4 (by decide) kw_16 dX4_addBehind_30 ?_
    refine lv_icmp_ge (tgt := 135) hx hb dX4_addBehind_33 (by decide) (fun c11 => ?_) (fun c11 => ?_)
    · have hF := brT hF c11
      exact hJ5 σ9 H locs ls hF hP hD hS (lv_sub hl [0, 1, 2] rfl)
    · have hF := brF hF c11
      refine lv_aload_n hx hb dX4_addBehind_36 rfl (lv_at hl 0 rfl) ?_
      refine wi_getr hx hb hg hown hK hP 1 7 10 rfl rfl cb_4 (by decide) kw_25 dX4_addBehind_37 ?_
      refine lv_iload_n hx hb dX4_addBehind_40 rfl (lv_at hl 3 rfl) ?_
      refine lv_aload_n hx hb dX4_addBehind_41 rfl (lv_at hl 0 rfl) ?_
      refine wi_getr hx hb hg hown hK hP 1 7 10 rfl rfl cb_4 (by decide) kw_25 dX4_addBehind_42 ?_
      refine lv_iload_n hx hb dX4_addBehind_45 rfl (lv_at hl 3 rfl) ?_
      obtain ⟨hin, hF⟩ := hF
      refine wi_iald hx hb hK hP 10 rfl hin dX4_addBehind_46 (fun v12 ev12 => ?_)
      have hF := hF v12 ev12
      refine lv_iload_n hx hb dX4_addBehind_47 rfl (lv_at hl 1 rfl) ?_
      refine jn_use hF (fun K => ∀ (y14 : Int32) (H : Heap) (locs : List Loc) (ls : Array Slot), K y14 → va_P D vwCl (wld cy ad dsC σ9) H → va_D A (wld cy ad dsC σ9) → va_S A s.heap H locs → lv_has ls 4 [(0, .ref (ad 1)), (1, .int a1), (2, .int r3), (3, .int y8)] → W p l e (rmO 2 51) s m args below meth c H locs 0 0 (MQ below (va_Qi post (cBk D cy ad dsC A) A) args s 0 0 A) (F0 m 61 ls [.int y14, .int y8, .ref (ad 10)])) (fun y14 H locs ls hF hP hD hS hl => ?_) (fun J13 hJ13 hF => ?_)
      · obtain ⟨hin, hF⟩ := hF
        refine wi_iast hx hb hK hP hD hS 10 rfl hin dX4_addBehind_61 (fun σ15 eσ15 H locs hP hD hS => ?_)
        have hF := hF σ15 eσ15
        refine lv_aload_n hx hb dX4_addBehind_62 rfl (lv_at hl 0 rfl) ?_
        refine wi_getr hx hb hg hown hK hP 1 8 11 rfl rfl cb_4 (by decide) kw_96 dX4_addBehind_63 ?_
        refine lv_iload_n hx hb dX4_addBehind_66 rfl (lv_at hl 3 rfl) ?_
        refine lv_aload_n hx hb dX4_addBehind_67 rfl (lv_at hl 0 rfl) ?_
        refine wi_getr hx hb hg hown hK hP 1 8 11 rfl rfl cb_4 (by decide) kw_96 dX4_addBehind_68 ?_
        refine lv_iload_n hx hb dX4_addBehind_71 rfl (lv_at hl 3 rfl) ?_
        obtain ⟨hin, hF⟩ := hF
        refine wi_iald hx hb hK hP 11 rfl hin dX4_addBehind_72 (fun v16 ev16 => ?_)
        have hF := hF v16 ev16
        refine lv_iload_n hx hb dX4_addBehind_73 rfl (lv_at hl 1 rfl) ?_
        refine jn_use hF (fun K => ∀ (y18 : Int32) (H : Heap) (locs : List Loc) (ls : Array Slot), K y18 → va_P D vwCl (wld cy ad dsC σ15) H → va_D A (wld cy ad dsC σ15) → va_S A s.heap H locs → lv_has ls 4 [(0, .ref (ad 1)), (1, .int a1), (2, .int r3), (3, .int y8)] → W p l e (rmO 2 51) s m args below meth c H locs 0 0 (MQ below (va_Qi post (cBk D cy ad dsC A) A) args s 0 0 A) (F0 m 87 ls [.int y18, .int y8, .ref (ad 11)])) (fun y18 H locs ls hF hP hD hS hl => ?_) (fun J17 hJ17 hF => ?_)
        · obtain ⟨hin, hF⟩ := hF
          refine wi_iast hx hb hK hP hD hS 11 rfl hin dX4_addBehind_87 (fun σ19 eσ19 H locs hP hD hS => ?_)
          have hF := hF σ19 eσ19
          refine lv_aload_n hx hb dX4_addBehind_88 rfl (lv_at hl 0 rfl) ?_
          refine wi_getr hx hb hg hown hK hP 1 9 12 rfl rfl cb_4 (by decide) kw_97 dX4_addBehind_89 ?_
          refine lv_iload_n hx hb dX4_addBehind_92 rfl (lv_at hl 3 rfl) ?_
          refine lv_aload_n hx hb dX4_addBehind_93 rfl (lv_at hl 0 rfl) ?_
          refine wi_getr hx hb hg hown hK hP 1 9 12 rfl rfl cb_4 (by decide) kw_97 dX4_addBehind_94 ?_
          refine lv_iload_n hx hb dX4_addBehind_97 rfl (lv_at hl 3 rfl) ?_
          obtain ⟨hin, hF⟩ := hF
          refine wi_iald hx hb hK hP 12 rfl hin dX4_addBehind_98 (fun v20 ev20 => ?_)
          have hF := hF v20 ev20
          refine lv_iload_n hx hb dX4_addBehind_99 rfl (lv_at hl 1 rfl) ?_
          refine jn_use hF (fun K => ∀ (y22 : Int32) (H : Heap) (locs : List Loc) (ls : Array Slot), K y22 → va_P D vwCl (wld cy ad dsC σ19) H → va_D A (wld cy ad dsC σ19) → va_S A s.heap H locs → lv_has ls 4 [(0, .ref (ad 1)), (1, .int a1), (2, .int r3), (3, .int y8)] → W p l e (rmO 2 51) s m args below meth c H locs 0 0 (MQ below (va_Qi post (cBk D cy ad dsC A) A) args s 0 0 A) (F0 m 113 ls [.int y22, .int y8, .ref (ad 12)])) (fun y22 H locs ls hF hP hD hS hl => ?_) (fun J21 hJ21 hF => ?_)
          · obtain ⟨hin, hF⟩ := hF
            refine wi_iast hx hb hK hP hD hS 12 rfl hin dX4_addBehind_113 (fun σ23 eσ23 H locs hP hD hS => ?_)
            have hF := hF σ23 eσ23
            refine lv_aload_n hx hb dX4_addBehind_114 rfl (lv_at hl 0 rfl) ?_
            refine wi_getr hx hb hg hown hK hP 1 5 8 rfl rfl cb_4 (by decide) kw_18 dX4_addBehind_115 ?_
            refine lv_iload_n hx hb dX4_addBehind_118 rfl (lv_at hl 3 rfl) ?_
            obtain ⟨hin, hF⟩ := hF
            refine wi_iald hx hb hK hP 8 rfl hin dX4_addBehind_119 (fun v24 ev24 => ?_)
            have hF := hF v24 ev24
            refine lv_iconst (v := (4 : Int32)) hx hb dX4_addBehind_120 (by decide) ?_
            refine lv_icmp_gt (tgt := 129) hx hb dX4_addBehind_121 (by decide) (fun c25 => ?_) (fun c25 => ?_)
            · have hF := brT hF c25
              obtain ⟨x26, ex26⟩ : ∃ z : Int32, z = (y8 + (1 : Int32)) := ⟨_, rfl⟩
              have hF := hF x26 ex26
              refine lv_iinc (v := x26) (lv' := [(3, .int x26), (0, .ref (ad 1)), (1, .int a1), (2, .int r3)]) hx hb dX4_addBehind_129 hl (k := 3) rfl (by rw [ex26]; rfl) (by decide) rfl (fun ls hl => ?_)
              refine lv_goto (tgt := 28) hx hb dX4_addBehind_132 (by decide) ?_
              exact hrec10 x26 σ23 hF H locs ls hP hD hS (lv_sub hl [1, 2, 3, 0] rfl)
            · have hF := brF hF c25
              refine lv_aload_n hx hb dX4_addBehind_124 rfl (lv_at hl 0 rfl) ?_
              refine lv_iload_n hx hb dX4_addBehind_125 rfl (lv_at hl 3 rfl) ?_
              refine wi_callVv (k := 1) (As := [.int y8]) (c_X4_workOut l D cy ad tL σ23 y8 _ hF) vw_RX4_71 rfl cb_4 hx hb hml hown hg hK hP hD hS hA hLB rfl ⟨Nat.le_of_ble_eq_true rfl, Nat.le_of_ble_eq_true rfl⟩ hl.1 rfl (Nat.le_of_ble_eq_true rfl) dX4_addBehind_126 (fun σ28 hw H locs hP hD hS => ?_)
              have hF := hw
              obtain ⟨x29, ex29⟩ : ∃ z : Int32, z = (y8 + (1 : Int32)) := ⟨_, rfl⟩
              have hF := hF x29 ex29
              refine lv_iinc (v := x29) (lv' := [(3, .int x29), (0, .ref (ad 1)), (1, .int a1), (2, .int r3)]) hx hb dX4_addBehind_129 hl (k := 3) rfl (by rw [ex29]; rfl) (by decide) rfl (fun ls hl => ?_)
              refine lv_goto (tgt := 28) hx hb dX4_addBehind_132 (by decide) ?_
              exact hrec10 x29 σ28 hF H locs ls hP hD hS (lv_sub hl [1, 2, 3, 0] rfl)
          · refine lv_icmp_ne (tgt := 107) hx hb dX4_addBehind_100 (by decide) (fun c30 => ?_) (fun c30 => ?_)
            · have hF := brF hF c30
              refine lv_aload_n hx hb dX4_addBehind_107 rfl (lv_at hl 0 rfl) ?_
              refine wi_getr hx hb hg hown hK hP 1 9 12 rfl rfl cb_4 (by decide) kw_97 dX4_addBehind_108 ?_
              refine lv_iload_n hx hb dX4_addBehind_111 rfl (lv_at hl 3 rfl) ?_
              obtain ⟨hin, hF⟩ := hF
              refine wi_iald hx hb hK hP 12 rfl hin dX4_addBehind_112 (fun v31 ev31 => ?_)
              have hF := hF v31 ev31
              exact hJ21 v31 H locs ls hF hP hD hS (lv_sub hl [0, 1, 2, 3] rfl)
            · have hF := brT hF c30
              refine lv_iload_n hx hb dX4_addBehind_103 rfl (lv_at hl 2 rfl) ?_
              refine lv_goto (tgt := 113) hx hb dX4_addBehind_104 (by decide) ?_
              exact hJ21 r3 H locs ls hF hP hD hS (lv_sub hl [0, 1, 2, 3] rfl)
        · refine lv_icmp_ne (tgt := 81) hx hb dX4_addBehind_74 (by decide) (fun c32 => ?_) (fun c32 => ?_)
          · have hF := brF hF c32
            refine lv_aload_n hx hb dX4_addBehind_81 rfl (lv_at hl 0 rfl) ?_
            refine wi_getr hx hb hg hown hK hP 1 8 11 rfl rfl cb_4 (by decide) kw_96 dX4_addBehind_82 ?_
            refine lv_iload_n hx hb dX4_addBehind_85 rfl (lv_at hl 3 rfl) ?_
            obtain ⟨hin, hF⟩ := hF
            refine wi_iald hx hb hK hP 11 rfl hin dX4_addBehind_86 (fun v33 ev33 => ?_)
            have hF := hF v33 ev33
            exact hJ17 v33 H locs ls hF hP hD hS (lv_sub hl [0, 1, 2, 3] rfl)
          · have hF := brT hF c32
            refine lv_iload_n hx hb dX4_addBehind_77 rfl (lv_at hl 2 rfl) ?_
            refine lv_goto (tgt := 87) hx hb dX4_addBehind_78 (by decide) ?_
            exact hJ17 r3 H locs ls hF hP hD hS (lv_sub hl [0, 1, 2, 3] rfl)
      · refine lv_icmp_ne (tgt := 55) hx hb dX4_addBehind_48 (by decide) (fun c34 => ?_) (fun c34 => ?_)
        · have hF := brF hF c34
          refine lv_aload_n hx hb dX4_addBehind_55 rfl (lv_at hl 0 rfl) ?_
          refine wi_getr hx hb hg hown hK hP 1 7 10 rfl rfl cb_4 (by decide) kw_25 dX4_addBehind_56 ?_
          refine lv_iload_n hx hb dX4_addBehind_59 rfl (lv_at hl 3 rfl) ?_
          obtain ⟨hin, hF⟩ := hF
          refine wi_iald hx hb hK hP 10 rfl hin dX4_addBehind_60 (fun v35 ev35 => ?_)
          have hF := hF v35 ev35
          exact hJ13 v35 H locs ls hF hP hD hS (lv_sub hl [0, 1, 2, 3] rfl)
        · have hF := brT hF c34
          refine lv_iload_n hx hb dX4_addBehind_51 rfl (lv_at hl 2 rfl) ?_
          refine lv_goto (tgt := 61) hx hb dX4_addBehind_52 (by decide) ?_
          exact hJ13 r3 H locs ls hF hP hD hS (lv_sub hl [0, 1, 2, 3] rfl)
def w_X4_valueOf (σ : St) (a1 : Int32) (a2 : Int32) (post : Int32 → Prop) : Prop := rd (σ.2 17) 384 ((a1 * (16 : Int32)) + (a2 >>> ((6 : Int32) &&& 31))) (fun v1 => post ((((((v1 : Int64).toUInt64 >>> (((a2 &&& (63 : Int32)) : Int32).toInt64.toUInt64 &&& Int64.toUInt64 63)).toInt64) : Int64).toInt32) &&& (1 : Int32)))
set_option maxHeartbeats 4000000 in
set_option maxRecDepth 100000 in
theorem c_X4_valueOf (l : Launch) (D : va_G) (cy : Nat → ClassId) (ad : Nat → Nat) (tL : Nat) (σ : St) (a1 : Int32) (a2 : Int32) (post : Int32 → Prop) (hF : w_X4_valueOf σ a1 a2 post) : Cti l yX4_valueOf cX4_valueOf 3 (some .int) 0 0 D cy ad tL dsC σ [.ref (ad 1), .int a1, .int a2] (fun r u => post r ∧ σ = u) := by
  refine cti_of (by decide) (Nat.le_of_ble_eq_true rfl) ?_
  intro p e s m args below meth c A hx hb hml hr hlk hg hown hA hK H locs hP hD hS hLB ls hl
  have hown : s.vm.findClass RX4 = some m.cls := hown
  have hl : lv_has ls 3 [(0, .ref (ad 1)), (1, .int a1), (2, .int a2)] := hl
  refine lv_aload_n hx hb dX4_valueOf_0 rfl (lv_at hl 0 rfl) ?_
  refine wi_getr hx hb hg hown hK hP 1 14 17 rfl rfl cb_4 (by decide) kw_101 dX4_valueOf_1 ?_
  refine lv_iload_n hx hb dX4_valueOf_4 rfl (lv_at hl 1 rfl) ?_
  refine lv_bipush (v := (16 : Int32)) hx hb dX4_valueOf_5 (by decide) ?_
  refine lv_imul hx hb dX4_valueOf_7 ?_
  refine lv_iload_n hx hb dX4_valueOf_8 rfl (lv_at hl 2 rfl) ?_
  refine lv_bipush (v := (6 : Int32)) hx hb dX4_valueOf_9 (by decide) ?_
  refine lv_ishr hx hb dX4_valueOf_11 ?_
  refine lv_iadd hx hb dX4_valueOf_12 ?_
  obtain ⟨hin, hF⟩ := hF
  refine wi_lald hx hb hK hP 17 rfl hin dX4_valueOf_13 (fun v1 ev1 => ?_)
  have hF := hF v1 ev1
  refine lv_iload_n hx hb dX4_valueOf_14 rfl (lv_at hl 2 rfl) ?_
  refine lv_bipush (v := (63 : Int32)) hx hb dX4_valueOf_15 (by decide) ?_
  refine lv_iand hx hb dX4_valueOf_17 ?_
  refine lv_lushr hx hb dX4_valueOf_18 rfl ?_
  refine lv_l2i hx hb dX4_valueOf_19 rfl ?_
  refine lv_iconst (v := (1 : Int32)) hx hb dX4_valueOf_20 (by decide) ?_
  refine lv_iand hx hb dX4_valueOf_21 ?_
  exact wi_iret hx hb hr hlk hK hP hD hS dX4_valueOf_22 ⟨hF, rfl⟩
