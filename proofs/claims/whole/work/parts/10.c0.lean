def w_X0_limitOf (σ : St) (a1 : Int32) (a2 : Int32) (post : Int32 → Prop) : Prop := rd (σ.1 18) 16 ((a1 * (4 : Int32)) + a2) (fun v1 => post v1)
set_option maxHeartbeats 4000000 in
set_option maxRecDepth 100000 in
theorem c_X0_limitOf (l : Launch) (D : va_G) (cy : Nat → ClassId) (ad : Nat → Nat) (tL : Nat) (σ : St) (a1 : Int32) (a2 : Int32) (post : Int32 → Prop) (hF : w_X0_limitOf σ a1 a2 post) : Cti l yX0_limitOf cX0_limitOf 3 (some .int) 0 0 D cy ad tL dsC σ [.ref (ad 2), .int a1, .int a2] (fun r u => post r ∧ σ = u) := by
  refine cti_of (by decide) (Nat.le_of_ble_eq_true rfl) ?_
  intro p e s m args below meth c A hx hb hml hr hlk hg hown hA hK H locs hP hD hS hLB ls hl
  have hown : s.vm.findClass RX0 = some m.cls := hown
  have hl : lv_has ls 3 [(0, .ref (ad 2)), (1, .int a1), (2, .int a2)] := hl
  refine lv_aload_n hx hb dX0_limitOf_0 rfl (lv_at hl 0 rfl) ?_
  refine wi_getr hx hb hg hown hK hP 2 0 18 rfl rfl cb_0 (by decide) kw_5 dX0_limitOf_1 ?_
  refine lv_iload_n hx hb dX0_limitOf_4 rfl (lv_at hl 1 rfl) ?_
  refine lv_iconst (v := (4 : Int32)) hx hb dX0_limitOf_5 (by decide) ?_
  refine lv_imul hx hb dX0_limitOf_6 ?_
  refine lv_iload_n hx hb dX0_limitOf_7 rfl (lv_at hl 2 rfl) ?_
  refine lv_iadd hx hb dX0_limitOf_8 ?_
  obtain ⟨hin, hF⟩ := hF
  refine wi_iald hx hb hK hP 18 rfl hin dX0_limitOf_9 (fun v1 ev1 => ?_)
  have hF := hF v1 ev1
  exact wi_iret hx hb hr hlk hK hP hD hS dX0_limitOf_10 ⟨hF, rfl⟩
def w_X0_limit (σ : St) (a1 : Int32) (a2 : Int32) (a3 : Int32) (post : St → Prop) : Prop := ck ((a1 * (4 : Int32)) + a2) 16 (nm (upI σ 18 (((a1 * (4 : Int32)) + a2)).toNatClampNeg a3) (fun σ1 => post σ1))
set_option maxHeartbeats 4000000 in
set_option maxRecDepth 100000 in
theorem c_X0_limit (l : Launch) (D : va_G) (cy : Nat → ClassId) (ad : Nat → Nat) (tL : Nat) (σ : St) (a1 : Int32) (a2 : Int32) (a3 : Int32) (post : St → Prop) (hF : w_X0_limit σ a1 a2 a3 post) : Ctv l yX0_limit cX0_limit 4 none 0 0 D cy ad tL dsC σ [.ref (ad 2), .int a1, .int a2, .int a3] post := by
  refine ctv_of (by decide) (Nat.le_of_ble_eq_true rfl) ?_
  intro p e s m args below meth c A hx hb hml hr hlk hg hown hA hK H locs hP hD hS hLB ls hl
  have hown : s.vm.findClass RX0 = some m.cls := hown
  have hl : lv_has ls 4 [(0, .ref (ad 2)), (1, .int a1), (2, .int a2), (3, .int a3)] := hl
  refine lv_aload_n hx hb dX0_limit_0 rfl (lv_at hl 0 rfl) ?_
  refine wi_getr hx hb hg hown hK hP 2 0 18 rfl rfl cb_0 (by decide) kw_5 dX0_limit_1 ?_
  refine lv_iload_n hx hb dX0_limit_4 rfl (lv_at hl 1 rfl) ?_
  refine lv_iconst (v := (4 : Int32)) hx hb dX0_limit_5 (by decide) ?_
  refine lv_imul hx hb dX0_limit_6 ?_
  refine lv_iload_n hx hb dX0_limit_7 rfl (lv_at hl 2 rfl) ?_
  refine lv_iadd hx hb dX0_limit_8 ?_
  refine lv_iload_n hx hb dX0_limit_9 rfl (lv_at hl 3 rfl) ?_
  obtain ⟨hin, hF⟩ := hF
  refine wi_iast hx hb hK hP hD hS 18 rfl hin dX0_limit_10 (fun σ1 eσ1 H locs hP hD hS => ?_)
  have hF := hF σ1 eσ1
  exact wi_vret hx hb hr hlk hK hP hD hS dX0_limit_11 hF
def w_X0_ticksOf (a1 : Int64) (a2 : Int32) (a3 : Int32) (post : Int32 → Prop) : Prop := post ((((a1 >>> ((((4 : Int32) * ((a2 * (4 : Int32)) + a3)) : Int32).toInt64 &&& 63)) : Int64).toInt32) &&& (15 : Int32))
set_option maxHeartbeats 4000000 in
set_option maxRecDepth 100000 in
theorem c_X0_ticksOf (l : Launch) (D : va_G) (cy : Nat → ClassId) (ad : Nat → Nat) (tL : Nat) (σ : St) (a1 : Int64) (a2 : Int32) (a3 : Int32) (post : Int32 → Prop) (hF : w_X0_ticksOf a1 a2 a3 post) : Cti l yX0_ticksOf cX0_ticksOf 4 (some .int) 0 0 D cy ad tL dsC σ [.long a1, .int a2, .int a3] (fun r u => post r ∧ σ = u) := by
  refine cti_of (by decide) (Nat.le_of_ble_eq_true rfl) ?_
  intro p e s m args below meth c A hx hb hml hr hlk hg hown hA hK H locs hP hD hS hLB ls hl
  have hown : s.vm.findClass RX0 = some m.cls := hown
  have hl : lv_has ls 4 [(0, .long a1), (2, .int a2), (3, .int a3)] := hl
  refine lv_lload_n hx hb dX0_ticksOf_0 rfl (lv_at hl 0 rfl) ?_
  refine lv_iconst (v := (4 : Int32)) hx hb dX0_ticksOf_1 (by decide) ?_
  refine lv_iload_n hx hb dX0_ticksOf_2 rfl (lv_at hl 1 rfl) ?_
  refine lv_iconst (v := (4 : Int32)) hx hb dX0_ticksOf_3 (by decide) ?_
  refine lv_imul hx hb dX0_ticksOf_4 ?_
  refine lv_iload_n hx hb dX0_ticksOf_5 rfl (lv_at hl 2 rfl) ?_
  refine lv_iadd hx hb dX0_ticksOf_6 ?_
  refine lv_imul hx hb dX0_ticksOf_7 ?_
  refine lv_lshr hx hb dX0_ticksOf_8 rfl ?_
  refine lv_l2i hx hb dX0_ticksOf_9 rfl ?_
  refine lv_bipush (v := (15 : Int32)) hx hb dX0_ticksOf_10 (by decide) ?_
  refine lv_iand hx hb dX0_ticksOf_12 ?_
  exact wi_iret hx hb hr hlk hK hP hD hS dX0_ticksOf_13 ⟨hF, rfl⟩
def w_X0_behind_L6 (a1 : Int64) (a2 : Int32) (σ : St) (post : Int64 → Prop) (J1 : Int64 → Prop) (rec5 : Int64 → Int32 → Prop) (y3 : Int64) (y4 : Int32) : Prop := br ((16 : Int32) ≤ y4) (J1 y3) (rd (σ.1 18) 16 y4 (fun v7 => br (v7 = (0 : Int32)) (nm (y4 + (1 : Int32)) (fun x22 => rec5 y3 x22)) (nm (y4 / (4 : Int32)) (fun x9 => nm (y4 - y4 / (4 : Int32) * (4 : Int32)) (fun x10 => br (((a2 >>> (x10 &&& 31)) &&& (1 : Int32)) = (1 : Int32)) (nm (y3 &&& (((15 : Int64) <<< ((((4 : Int32) * y4) : Int32).toInt64 &&& 63)) ^^^ (-1 : Int64))) (fun x20 => nm (y4 + (1 : Int32)) (fun x21 => rec5 x20 x21))) (br (((a2 >>> (x9 &&& 31)) &&& (1 : Int32)) = (1 : Int32)) (w_X0_ticksOf a1 x9 x10 (fun r14 => rd (σ.1 18) 16 y4 (fun v16 => br (r14 < v16) (nm (y3 + ((1 : Int64) <<< ((((4 : Int32) * y4) : Int32).toInt64 &&& 63))) (fun x18 => nm (y4 + (1 : Int32)) (fun x19 => rec5 x18 x19))) (post (-1 : Int64))))) (nm (y4 + (1 : Int32)) (fun x13 => rec5 y3 x13))))))))
def w_X0_behind (σ : St) (a1 : Int64) (a2 : Int32) (post : Int64 → Prop) : Prop := jn (α := Int64 → Prop) (fun (y2 : Int64) => post y2) (fun J1 => lpE2 (w_X0_behind_L6 a1 a2 σ post J1) a1 (0 : Int32))
set_option maxHeartbeats 4000000 in
set_option maxRecDepth 100000 in
theorem c_X0_behind (l : Launch) (D : va_G) (cy : Nat → ClassId) (ad : Nat → Nat) (tL : Nat) (σ : St) (a1 : Int64) (a2 : Int32) (post : Int64 → Prop) (hF : w_X0_behind σ a1 a2 post) : Ctl l yX0_behind cX0_behind 9 (some .long) 1 23 D cy ad tL dsC σ [.ref (ad 2), .long a1, .int a2] (fun r u => post r ∧ σ = u) := by
  refine ctl_of (by decide) (Nat.le_of_ble_eq_true rfl) ?_
  intro p e s m args below meth c A hx hb hml hr hlk hg hown hA hK H locs hP hD hS hLB ls hl
  have hown : s.vm.findClass RX0 = some m.cls := hown
  have hl : lv_has ls 9 [(0, .ref (ad 2)), (1, .long a1), (3, .int a2)] := hl
  refine lv_lload_n hx hb dX0_behind_0 rfl (lv_at hl 1 rfl) ?_
  refine lv_lstore (lv' := [(4, .long a1), (0, .ref (ad 2)), (1, .long a1), (3, .int a2)]) hx hb dX0_behind_1 hl (by decide) rfl (fun ls hl => ?_)
  refine lv_iconst (v := (0 : Int32)) hx hb dX0_behind_3 (by decide) ?_
  refine lv_istore (lv' := [(6, .int (0 : Int32)), (4, .long a1), (0, .ref (ad 2)), (1, .long a1), (3, .int a2)]) hx hb dX0_behind_4 hl (by decide) rfl (fun ls hl => ?_)
  refine jn_use hF (fun K => ∀ (y2 : Int64) (H : Heap) (locs : List Loc) (ls : Array Slot), K y2 → va_P D vwCl (wld cy ad dsC σ) H → va_D A (wld cy ad dsC σ) → va_S A s.heap H locs → lv_has ls 9 [(4, .long y2)] → W p l e (rmO 1 23) s m args below meth c H locs 0 0 (MQ below (va_Ql (fun r u => post r ∧ σ = u) (cBk D cy ad dsC A) A) args s 0 0 A) (F0 m 117 ls [])) (fun y2 H locs ls hF hP hD hS hl => ?_) (fun J1 hJ1 hF => ?_)
  · refine lv_lload hx hb dX0_behind_117 (lv_at hl 0 rfl) ?_
    exact wi_lret hx hb hr hlk hK hP hD hS dX0_behind_119 ⟨hF, rfl⟩
  · refine lpE2_use hF (fun (y3 : Int64) (y4 : Int32) => ∀ (H : Heap) (locs : List Loc) (ls : Array Slot), va_P D vwCl (wld cy ad dsC σ) H → va_D A (wld cy ad dsC σ) → va_S A s.heap H locs → lv_has ls 9 [(0, .ref (ad 2)), (1, .long a1), (3, .int a2), (4, .long y3), (6, .int y4)] → W p l e (rmO 1 23) s m args below meth c H locs 0 0 (MQ below (va_Ql (fun r u => post r ∧ σ = u) (cBk D cy ad dsC A) A) args s 0 0 A) (F0 m 6 ls [])) (fun rec5 hrec5 y3 y4 hF H locs ls hP hD hS hl => ?_) H locs ls hP hD hS (lv_sub hl [2, 3, 4, 1, 0] rfl)
    refine lv_iload hx hb dX0_behind_6 (lv_at hl 4 rfl) ?_
    refine lv_bipush (v := (16 : Int32)) hx hb dX0_behind_8 (by decide) ?_
    refine lv_icmp_ge (tgt := 117) hx hb dX0_behind_10 (by decide) (fun c6 => ?_) (fun c6 => ?_)
    · have hF := brT hF c6
      exact hJ1 y3 H locs ls hF hP hD hS (lv_sub hl [3] rfl)
    · have hF := brF hF c6
      refine lv_aload_n hx hb dX0_behind_13 rfl (lv_at hl 0 rfl) ?_
      refine wi_getr hx hb hg hown hK hP 2 0 18 rfl rfl cb_0 (by decide) kw_5 dX0_behind_14 ?_
      refine lv_iload hx hb dX0_behind_17 (lv_at hl 4 rfl) ?_
      obtain ⟨hin, hF⟩ := hF
      refine wi_iald hx hb hK hP 18 rfl hin dX0_behind_19 (fun v7 ev7 => ?_)
      have hF := hF v7 ev7
      refine lv_if_ne (tgt := 26) hx hb dX0_behind_20 (by decide) (fun c8 => ?_) (fun c8 => ?_)
      · have hF := brF hF c8
        refine lv_iload hx hb dX0_behind_26 (lv_at hl 4 rfl) ?_
        refine lv_iconst (v := (4 : Int32)) hx hb dX0_behind_28 (by decide) ?_
        refine lv_idiv hx hb dX0_behind_29 (by decide) ?_
        refine lv_topi (fun x9 ex9 => ?_)
        have hF := hF x9 ex9
        refine lv_istore (lv' := [(7, .int x9), (0, .ref (ad 2)), (1, .long a1), (3, .int a2), (4, .long y3), (6, .int y4)]) hx hb dX0_behind_30 hl (by decide) rfl (fun ls hl => ?_)
        refine lv_iload hx hb dX0_behind_32 (lv_at hl 5 rfl) ?_
        refine lv_iconst (v := (4 : Int32)) hx hb dX0_behind_34 (by decide) ?_
        refine lv_irem hx hb dX0_behind_35 (by decide) ?_
        refine lv_topi (fun x10 ex10 => ?_)
        have hF := hF x10 ex10
        refine lv_istore (lv' := [(8, .int x10), (7, .int x9), (0, .ref (ad 2)), (1, .long a1), (3, .int a2), (4, .long y3), (6, .int y4)]) hx hb dX0_behind_36 hl (by decide) rfl (fun ls hl => ?_)
        refine lv_iload_n hx hb dX0_behind_38 rfl (lv_at hl 4 rfl) ?_
        refine lv_iload hx hb dX0_behind_39 (lv_at hl 0 rfl) ?_
        refine lv_ishr hx hb dX0_behind_41 ?_
        refine lv_iconst (v := (1 : Int32)) hx hb dX0_behind_42 (by decide) ?_
        refine lv_iand hx hb dX0_behind_43 ?_
        refine lv_iconst (v := (1 : Int32)) hx hb dX0_behind_44 (by decide) ?_
        refine lv_icmp_ne (tgt := 68) hx hb dX0_behind_45 (by decide) (fun c11 => ?_) (fun c11 => ?_)
        · have hF := brF hF c11
          refine lv_iload_n hx hb dX0_behind_68 rfl (lv_at hl 4 rfl) ?_
          refine lv_iload hx hb dX0_behind_69 (lv_at hl 1 rfl) ?_
          refine lv_ishr hx hb dX0_behind_71 ?_
          refine lv_iconst (v := (1 : Int32)) hx hb dX0_behind_72 (by decide) ?_
          refine lv_iand hx hb dX0_behind_73 ?_
          refine lv_iconst (v := (1 : Int32)) hx hb dX0_behind_74 (by decide) ?_
          refine lv_icmp_ne (tgt := 111) hx hb dX0_behind_75 (by decide) (fun c12 => ?_) (fun c12 => ?_)
          · have hF := brF hF c12
            obtain ⟨x13, ex13⟩ : ∃ z : Int32, z = (y4 + (1 : Int32)) := ⟨_, rfl⟩
            have hF := hF x13 ex13
            refine lv_iinc (v := x13) (lv' := [(6, .int x13), (8, .int x10), (7, .int x9), (0, .ref (ad 2)), (1, .long a1), (3, .int a2), (4, .long y3)]) hx hb dX0_behind_111 hl (k := 6) rfl (by rw [ex13]; rfl) (by decide) rfl (fun ls hl => ?_)
            refine lv_goto (tgt := 6) hx hb dX0_behind_114 (by decide) ?_
            exact hrec5 y3 x13 hF H locs ls hP hD hS (lv_sub hl [3, 4, 5, 6, 0] rfl)
          · have hF := brT hF c12
            refine lv_lload_n hx hb dX0_behind_78 rfl (lv_at hl 3 rfl) ?_
            refine lv_iload hx hb dX0_behind_79 (lv_at hl 1 rfl) ?_
            refine lv_iload hx hb dX0_behind_81 (lv_at hl 0 rfl) ?_
            refine wi_callSi (As := [.long a1, .int x9, .int x10]) (c_X0_ticksOf l D cy ad tL σ a1 x9 x10 _ hF) sw_RX0_19 hx hb hml hown hg hK hP hD hS hA hLB rfl ⟨Nat.le_of_ble_eq_true rfl, Nat.le_of_ble_eq_true rfl⟩ hl.1 rfl (Nat.le_of_ble_eq_true rfl) dX0_behind_83 (fun r14 σ15 hw H locs hP hD hS => ?_)
            obtain ⟨hF, rfl⟩ := hw
            refine lv_aload_n hx hb dX0_behind_86 rfl (lv_at hl 2 rfl) ?_
            refine wi_getr hx hb hg hown hK hP 2 0 18 rfl rfl cb_0 (by decide) kw_5 dX0_behind_87 ?_
            refine lv_iload hx hb dX0_behind_90 (lv_at hl 6 rfl) ?_
            obtain ⟨hin, hF⟩ := hF
            refine wi_iald hx hb hK hP 18 rfl hin dX0_behind_92 (fun v16 ev16 => ?_)
            have hF := hF v16 ev16
            refine lv_icmp_lt (tgt := 100) hx hb dX0_behind_93 (by decide) (fun c17 => ?_) (fun c17 => ?_)
            · have hF := brT hF c17
              refine lv_lload hx hb dX0_behind_100 (lv_at hl 5 rfl) ?_
              refine lv_lconst (v := (1 : Int64)) hx hb dX0_behind_102 (by decide) ?_
              refine lv_iconst (v := (4 : Int32)) hx hb dX0_behind_103 (by decide) ?_
              refine lv_iload hx hb dX0_behind_104 (lv_at hl 6 rfl) ?_
              refine lv_imul hx hb dX0_behind_106 ?_
              refine lv_lshl hx hb dX0_behind_107 rfl ?_
              refine lv_ladd hx hb dX0_behind_108 ?_
              refine lv_topl (fun x18 ex18 => ?_)
              have hF := hF x18 ex18
              refine lv_lstore (lv' := [(4, .long x18), (8, .int x10), (7, .int x9), (0, .ref (ad 2)), (1, .long a1), (3, .int a2), (6, .int y4)]) hx hb dX0_behind_109 hl (by decide) rfl (fun ls hl => ?_)
              obtain ⟨x19, ex19⟩ : ∃ z : Int32, z = (y4 + (1 : Int32)) := ⟨_, rfl⟩
              have hF := hF x19 ex19
              refine lv_iinc (v := x19) (lv' := [(6, .int x19), (4, .long x18), (8, .int x10), (7, .int x9), (0, .ref (ad 2)), (1, .long a1), (3, .int a2)]) hx hb dX0_behind_111 hl (k := 6) rfl (by rw [ex19]; rfl) (by decide) rfl (fun ls hl => ?_)
              refine lv_goto (tgt := 6) hx hb dX0_behind_114 (by decide) ?_
              exact hrec5 x18 x19 hF H locs ls hP hD hS (lv_sub hl [4, 5, 6, 1, 0] rfl)
            · have hF := brF hF c17
              refine lv_ldc2 (v := (-1 : Int64)) hx hb hown (hg _ kw_11) dX0_behind_96 ?_
              exact wi_lret hx hb hr hlk hK hP hD hS dX0_behind_99 ⟨hF, rfl⟩
        · have hF := brT hF c11
          refine lv_lload hx hb dX0_behind_48 (lv_at hl 5 rfl) ?_
          refine lv_ldc2 (v := (15 : Int64)) hx hb hown (hg _ kw_10) dX0_behind_50 ?_
          refine lv_iconst (v := (4 : Int32)) hx hb dX0_behind_53 (by decide) ?_
          refine lv_iload hx hb dX0_behind_54 (lv_at hl 6 rfl) ?_
          refine lv_imul hx hb dX0_behind_56 ?_
          refine lv_lshl hx hb dX0_behind_57 rfl ?_
          refine lv_ldc2 (v := (-1 : Int64)) hx hb hown (hg _ kw_11) dX0_behind_58 ?_
          refine lv_lxor hx hb dX0_behind_61 ?_
          refine lv_land hx hb dX0_behind_62 ?_
          refine lv_topl (fun x20 ex20 => ?_)
          have hF := hF x20 ex20
          refine lv_lstore (lv' := [(4, .long x20), (8, .int x10), (7, .int x9), (0, .ref (ad 2)), (1, .long a1), (3, .int a2), (6, .int y4)]) hx hb dX0_behind_63 hl (by decide) rfl (fun ls hl => ?_)
          refine lv_goto (tgt := 111) hx hb dX0_behind_65 (by decide) ?_
          obtain ⟨x21, ex21⟩ : ∃ z : Int32, z = (y4 + (1 : Int32)) := ⟨_, rfl⟩
          have hF := hF x21 ex21
          refine lv_iinc (v := x21) (lv' := [(6, .int x21), (4, .long x20), (8, .int x10), (7, .int x9), (0, .ref (ad 2)), (1, .long a1), (3, .int a2)]) hx hb dX0_behind_111 hl (k := 6) rfl (by rw [ex21]; rfl) (by decide) rfl (fun ls hl => ?_)
          refine lv_goto (tgt := 6) hx hb dX0_behind_114 (by decide) ?_
          exact hrec5 x20 x21 hF H locs ls hP hD hS (lv_sub hl [4, 5, 6, 1, 0] rfl)
      · have hF := brT hF c8
        refine lv_goto (tgt := 111) hx hb dX0_behind_23 (by decide) ?_
        obtain ⟨x22, ex22⟩ : ∃ z : Int32, z = (y4 + (1 : Int32)) := ⟨_, rfl⟩
        have hF := hF x22 ex22
        refine lv_iinc (v := x22) (lv' := [(6, .int x22), (0, .ref (ad 2)), (1, .long a1), (3, .int a2), (4, .long y3)]) hx hb dX0_behind_111 hl (k := 4) rfl (by rw [ex22]; rfl) (by decide) rfl (fun ls hl => ?_)
        refine lv_goto (tgt := 6) hx hb dX0_behind_114 (by decide) ?_
        exact hrec5 y3 x22 hF H locs ls hP hD hS (lv_sub hl [1, 2, 3, 4, 0] rfl)
def w_X4_isCell (σ : St) (a1 : Int32) (post : Int32 → Prop) : Prop := br (a1 < (0 : Int32)) (post (0 : Int32)) (br ((σ.1 1 0) ≤ a1) (post (0 : Int32)) (post (1 : Int32)))
set_option maxHeartbeats 4000000 in
set_option maxRecDepth 100000 in
theorem c_X4_isCell (l : Launch) (D : va_G) (cy : Nat → ClassId) (ad : Nat → Nat) (tL : Nat) (σ : St) (a1 : Int32) (post : Int32 → Prop) (hF : w_X4_isCell σ a1 post) : Cti l yX4_isCell cX4_isCell 2 (some .boolean) 0 0 D cy ad tL dsC σ [.ref (ad 1), .int a1] (fun r u => post r ∧ σ = u) := by
  refine cti_of (by decide) (Nat.le_of_ble_eq_true rfl) ?_
  intro p e s m args below meth c A hx hb hml hr hlk hg hown hA hK H locs hP hD hS hLB ls hl
  have hown : s.vm.findClass RX4 = some m.cls := hown
  have hl : lv_has ls 2 [(0, .ref (ad 1)), (1, .int a1)] := hl
  refine lv_iload_n hx hb dX4_isCell_0 rfl (lv_at hl 1 rfl) ?_
  refine lv_if_lt (tgt := 16) hx hb dX4_isCell_1 (by decide) (fun c1 => ?_) (fun c1 => ?_)
  · have hF := brT hF c1
    refine lv_iconst (v := (0 : Int32)) hx hb dX4_isCell_16 (by decide) ?_
    exact wi_zret hx hb hr hlk hK hP hD hS dX4_isCell_17 (by decide) ⟨hF, rfl⟩
  · have hF := brF hF c1
    refine lv_iload_n hx hb dX4_isCell_4 rfl (lv_at hl 1 rfl) ?_
    refine lv_aload_n hx hb dX4_isCell_5 rfl (lv_at hl 0 rfl) ?_
    refine wi_geti hx hb hg hown hK hP 1 0 rfl rfl cb_4 (by decide) kw_16 dX4_isCell_6 ?_
    refine lv_icmp_ge (tgt := 16) hx hb dX4_isCell_9 (by decide) (fun c2 => ?_) (fun c2 => ?_)
    · have hF := brT hF c2
      refine lv_iconst (v := (0 : Int32)) hx hb dX4_isCell_16 (by decide) ?_
      exact wi_zret hx hb hr hlk hK hP hD hS dX4_isCell_17 (by decide) ⟨hF, rfl⟩
    · have hF := brF hF c2
      refine lv_iconst (v := (1 : Int32)) hx hb dX4_isCell_12 (by decide) ?_
      refine lv_goto (tgt := 17) hx hb dX4_isCell_13 (by decide) ?_
      exact wi_zret hx hb hr hlk hK hP hD hS dX4_isCell_17 (by decide) ⟨hF, rfl⟩
def w_X4_isKeeper (σ : St) (a1 : Int32) (post : Int32 → Prop) : Prop := w_X4_isCell σ a1 (fun r1 => br (r1 = (0 : Int32)) (post (0 : Int32)) (rd (σ.1 8) 24 a1 (fun v4 => br (v4 = (6 : Int32)) (post (1 : Int32)) (post (0 : Int32)))))
set_option maxHeartbeats 4000000 in
set_option maxRecDepth 100000 in
theorem c_X4_isKeeper (l : Launch) (D : va_G) (cy : Nat → ClassId) (ad : Nat → Nat) (tL : Nat) (σ : St) (a1 : Int32) (post : Int32 → Prop) (hF : w_X4_isKeeper σ a1 post) : Cti l yX4_isKeeper cX4_isKeeper 2 (some .boolean) 1 21 D cy ad tL dsC σ [.ref (ad 1), .int a1] (fun r u => post r ∧ σ = u) := by
  refine cti_of (by decide) (Nat.le_of_ble_eq_true rfl) ?_
  intro p e s m args below meth c A hx hb hml hr hlk hg hown hA hK H locs hP hD hS hLB ls hl
  have hown : s.vm.findClass RX4 = some m.cls := hown
  have hl : lv_has ls 2 [(0, .ref (ad 1)), (1, .int a1)] := hl
  refine lv_aload_n hx hb dX4_isKeeper_0 rfl (lv_at hl 0 rfl) ?_
  refine lv_iload_n hx hb dX4_isKeeper_1 rfl (lv_at hl 1 rfl) ?_
  refine wi_callVi (k := 1) (As := [.int a1]) (c_X4_isCell l D cy ad tL σ a1 _ hF) vw_RX4_59 rfl cb_4 hx hb hml hown hg hK hP hD hS hA hLB rfl ⟨Nat.le_of_ble_eq_true rfl, Nat.le_of_ble_eq_true rfl⟩ hl.1 rfl (Nat.le_of_ble_eq_true rfl) dX4_isKeeper_2 (fun r1 σ2 hw H locs hP hD hS => ?_)
  obtain ⟨hF, rfl⟩ := hw
  refine lv_if_eq (tgt := 23) hx hb dX4_isKeeper_5 (by decide) (fun c3 => ?_) (fun c3 => ?_)
  · have hF := brT hF c3
    refine lv_iconst (v := (0 : Int32)) hx hb dX4_isKeeper_23 (by decide) ?_
    exact wi_zret hx hb hr hlk hK hP hD hS dX4_isKeeper_24 (by decide) ⟨hF, rfl⟩
  · have hF := brF hF c3
    refine lv_aload_n hx hb dX4_isKeeper_8 rfl (lv_at hl 0 rfl) ?_
    refine wi_getr hx hb hg hown hK hP 1 5 8 rfl rfl cb_4 (by decide) kw_18 dX4_isKeeper_9 ?_
    refine lv_iload_n hx hb dX4_isKeeper_12 rfl (lv_at hl 1 rfl) ?_
    obtain ⟨hin, hF⟩ := hF
    refine wi_iald hx hb hK hP 8 rfl hin dX4_isKeeper_13 (fun v4 ev4 => ?_)
    have hF := hF v4 ev4
    refine lv_bipush (v := (6 : Int32)) hx hb dX4_isKeeper_14 (by decide) ?_
    refine lv_icmp_ne (tgt := 23) hx hb dX4_isKeeper_16 (by decide) (fun c5 => ?_) (fun c5 => ?_)
    · have hF := brF hF c5
      refine lv_iconst (v := (0 : Int32)) hx hb dX4_isKeeper_23 (by decide) ?_
      exact wi_zret hx hb hr hlk hK hP hD hS dX4_isKeeper_24 (by decide) ⟨hF, rfl⟩
    · have hF := brT hF c5
      refine lv_iconst (v := (1 : Int32)) hx hb dX4_isKeeper_19 (by decide) ?_
      refine lv_goto (tgt := 24) hx hb dX4_isKeeper_20 (by decide) ?_
      exact wi_zret hx hb hr hlk hK hP hD hS dX4_isKeeper_24 (by decide) ⟨hF, rfl⟩
def w_X4_foreignBits (σ : St) (a1 : Int32) (post : Int32 → Prop) : Prop := rd (σ.1 10) 24 a1 (fun v1 => rd (σ.1 16) 24 v1 (fun v2 => rd (σ.1 9) 24 a1 (fun v3 => rd (σ.1 15) 4 v3 (fun v4 => post (v2 &&& (v4 ^^^ (-1 : Int32)))))))
set_option maxHeartbeats 4000000 in
set_option maxRecDepth 100000 in
theorem c_X4_foreignBits (l : Launch) (D : va_G) (cy : Nat → ClassId) (ad : Nat → Nat) (tL : Nat) (σ : St) (a1 : Int32) (post : Int32 → Prop) (hF : w_X4_foreignBits σ a1 post) : Cti l yX4_foreignBits cX4_foreignBits 2 (some .int) 0 0 D cy ad tL dsC σ [.ref (ad 1), .int a1] (fun r u => post r ∧ σ = u) := by
  refine cti_of (by decide) (Nat.le_of_ble_eq_true rfl) ?_
  intro p e s m args below meth c A hx hb hml hr hlk hg hown hA hK H locs hP hD hS hLB ls hl
  have hown : s.vm.findClass RX4 = some m.cls := hown
  have hl : lv_has ls 2 [(0, .ref (ad 1)), (1, .int a1)] := hl
  refine lv_aload_n hx hb dX4_foreignBits_0 rfl (lv_at hl 0 rfl) ?_
  refine wi_getr hx hb hg hown hK hP 1 13 16 rfl rfl cb_4 (by decide) kw_24 dX4_foreignBits_1 ?_
  refine lv_aload_n hx hb dX4_foreignBits_4 rfl (lv_at hl 0 rfl) ?_
  refine wi_getr hx hb hg hown hK hP 1 7 10 rfl rfl cb_4 (by decide) kw_25 dX4_foreignBits_5 ?_
  refine lv_iload_n hx hb dX4_foreignBits_8 rfl (lv_at hl 1 rfl) ?_
  obtain ⟨hin, hF⟩ := hF
  refine wi_iald hx hb hK hP 10 rfl hin dX4_foreignBits_9 (fun v1 ev1 => ?_)
  have hF := hF v1 ev1
  obtain ⟨hin, hF⟩ := hF
  refine wi_iald hx hb hK hP 16 rfl hin dX4_foreignBits_10 (fun v2 ev2 => ?_)
  have hF := hF v2 ev2
  refine lv_aload_n hx hb dX4_foreignBits_11 rfl (lv_at hl 0 rfl) ?_
  refine wi_getr hx hb hg hown hK hP 1 12 15 rfl rfl cb_4 (by decide) kw_26 dX4_foreignBits_12 ?_
  refine lv_aload_n hx hb dX4_foreignBits_15 rfl (lv_at hl 0 rfl) ?_
  refine wi_getr hx hb hg hown hK hP 1 6 9 rfl rfl cb_4 (by decide) kw_27 dX4_foreignBits_16 ?_
  refine lv_iload_n hx hb dX4_foreignBits_19 rfl (lv_at hl 1 rfl) ?_
  obtain ⟨hin, hF⟩ := hF
  refine wi_iald hx hb hK hP 9 rfl hin dX4_foreignBits_20 (fun v3 ev3 => ?_)
  have hF := hF v3 ev3
  obtain ⟨hin, hF⟩ := hF
  refine wi_iald hx hb hK hP 15 rfl hin dX4_foreignBits_21 (fun v4 ev4 => ?_)
  have hF := hF v4 ev4
  refine lv_iconst (v := (-1 : Int32)) hx hb dX4_foreignBits_22 (by decide) ?_
  refine lv_ixor hx hb dX4_foreignBits_23 ?_
  refine lv_iand hx hb dX4_foreignBits_24 ?_
  exact wi_iret hx hb hr hlk hK hP hD hS dX4_foreignBits_25 ⟨hF, rfl⟩
def w_X1_crosses (σ : St) (a2 : Int32) (post : Int32 → Prop) : Prop := w_X4_isKeeper σ a2 (fun r1 => br (r1 = (0 : Int32)) (post (0 : Int32)) (w_X4_foreignBits σ a2 (fun r4 => br (r4 = (0 : Int32)) (post (0 : Int32)) (post (1 : Int32)))))
set_option maxHeartbeats 4000000 in
set_option maxRecDepth 100000 in
theorem c_X1_crosses (l : Launch) (D : va_G) (cy : Nat → ClassId) (ad : Nat → Nat) (tL : Nat) (σ : St) (a2 : Int32) (post : Int32 → Prop) (hF : w_X1_crosses σ a2 post) : Cti l yX1_crosses cX1_crosses 2 (some .boolean) 2 42 D cy ad tL dsC σ [.ref (ad 1), .int a2] (fun r u => post r ∧ σ = u) := by
  refine cti_of (by decide) (Nat.le_of_ble_eq_true rfl) ?_
  intro p e s m args below meth c A hx hb hml hr hlk hg hown hA hK H locs hP hD hS hLB ls hl
  have hown : s.vm.findClass RX1 = some m.cls := hown
  have hl : lv_has ls 2 [(0, .ref (ad 1)), (1, .int a2)] := hl
  refine lv_aload_n hx hb dX1_crosses_0 rfl (lv_at hl 0 rfl) ?_
  refine lv_iload_n hx hb dX1_crosses_1 rfl (lv_at hl 1 rfl) ?_
  refine wi_callVi (k := 1) (As := [.int a2]) (c_X4_isKeeper l D cy ad tL σ a2 _ hF) vw_RX1_49 rfl cb_4 hx hb hml hown hg hK hP hD hS hA hLB rfl ⟨Nat.le_of_ble_eq_true rfl, Nat.le_of_ble_eq_true rfl⟩ hl.1 rfl (Nat.le_of_ble_eq_true rfl) dX1_crosses_2 (fun r1 σ2 hw H locs hP hD hS => ?_)
  obtain ⟨hF, rfl⟩ := hw
  refine lv_if_eq (tgt := 20) hx hb dX1_crosses_5 (by decide) (fun c3 => ?_) (fun c3 => ?_)
  · have hF := brT hF c3
    refine lv_iconst (v := (0 : Int32)) hx hb dX1_crosses_20 (by decide) ?_
    exact wi_zret hx hb hr hlk hK hP hD hS dX1_crosses_21 (by decide) ⟨hF, rfl⟩
  · have hF := brF hF c3
    refine lv_aload_n hx hb dX1_crosses_8 rfl (lv_at hl 0 rfl) ?_
    refine lv_iload_n hx hb dX1_crosses_9 rfl (lv_at hl 1 rfl) ?_
    refine wi_callVi (k := 1) (As := [.int a2]) (c_X4_foreignBits l D cy ad tL σ a2 _ hF) vw_RX1_52 rfl cb_4 hx hb hml hown hg hK hP hD hS hA hLB rfl ⟨Nat.le_of_ble_eq_true rfl, Nat.le_of_ble_eq_true rfl⟩ hl.1 rfl (Nat.le_of_ble_eq_true rfl) dX1_crosses_10 (fun r4 σ5 hw H locs hP hD hS => ?_)
    obtain ⟨hF, rfl⟩ := hw
    refine lv_if_eq (tgt := 20) hx hb dX1_crosses_13 (by decide) (fun c6 => ?_) (fun c6 => ?_)
    · have hF := brT hF c6
      refine lv_iconst (v := (0 : Int32)) hx hb dX1_crosses_20 (by decide) ?_
      exact wi_zret hx hb hr hlk hK hP hD hS dX1_crosses_21 (by decide) ⟨hF, rfl⟩
    · have hF := brF hF c6
      refine lv_iconst (v := (1 : Int32)) hx hb dX1_crosses_16 (by decide) ?_
      refine lv_goto (tgt := 21) hx hb dX1_crosses_17 (by decide) ?_
      exact wi_zret hx hb hr hlk hK hP hD hS dX1_crosses_21 (by decide) ⟨hF, rfl⟩
def w_X1_size_L4 (σ : St) (J1 : Int32 → Prop) (rec5 : Int32 → Int32 → Prop) (y3 : Int32) (y4 : Int32) : Prop := br ((σ.1 1 0) ≤ y4) (J1 y3) (w_X1_crosses σ y4 (fun r7 => br (r7 = (0 : Int32)) (nm (y4 + (1 : Int32)) (fun x10 => rec5 y3 x10)) (nm (y3 + (1 : Int32)) (fun x11 => nm (y4 + (1 : Int32)) (fun x12 => rec5 x11 x12)))))
def w_X1_size (σ : St) (post : Int32 → Prop) : Prop := jn (α := Int32 → Prop) (fun (y2 : Int32) => post y2) (fun J1 => lpE2 (w_X1_size_L4 σ J1) (0 : Int32) (0 : Int32))
set_option maxHeartbeats 4000000 in
set_option maxRecDepth 100000 in
theorem c_X1_size (l : Launch) (D : va_G) (cy : Nat → ClassId) (ad : Nat → Nat) (tL : Nat) (σ : St) (post : Int32 → Prop) (hF : w_X1_size σ post) : Cti l yX1_size cX1_size 3 (some .int) 3 63 D cy ad tL dsC σ [.ref (ad 1)] (fun r u => post r ∧ σ = u) := by
  refine cti_of (by decide) (Nat.le_of_ble_eq_true rfl) ?_
  intro p e s m args below meth c A hx hb hml hr hlk hg hown hA hK H locs hP hD hS hLB ls hl
  have hown : s.vm.findClass RX1 = some m.cls := hown
  have hl : lv_has ls 3 [(0, .ref (ad 1))] := hl
  refine lv_iconst (v := (0 : Int32)) hx hb dX1_size_0 (by decide) ?_
  refine lv_istore_n (lv' := [(1, .int (0 : Int32)), (0, .ref (ad 1))]) hx hb dX1_size_1 rfl hl (by decide) rfl (fun ls hl => ?_)
  refine lv_iconst (v := (0 : Int32)) hx hb dX1_size_2 (by decide) ?_
  refine lv_istore_n (lv' := [(2, .int (0 : Int32)), (1, .int (0 : Int32)), (0, .ref (ad 1))]) hx hb dX1_size_3 rfl hl (by decide) rfl (fun ls hl => ?_)
  refine jn_use hF (fun K => ∀ (y2 : Int32) (H : Heap) (locs : List Loc) (ls : Array Slot), K y2 → va_P D vwCl (wld cy ad dsC σ) H → va_D A (wld cy ad dsC σ) → va_S A s.heap H locs → lv_has ls 3 [(1, .int y2)] → W p l e (rmO 3 63) s m args below meth c H locs 0 0 (MQ below (va_Qi (fun r u => post r ∧ σ = u) (cBk D cy ad dsC A) A) args s 0 0 A) (F0 m 29 ls [])) (fun y2 H locs ls hF hP hD hS hl => ?_) (fun J1 hJ1 hF => ?_)
  · refine lv_iload_n hx hb dX1_size_29 rfl (lv_at hl 0 rfl) ?_
    exact wi_iret hx hb hr hlk hK hP hD hS dX1_size_30 ⟨hF, rfl⟩
  · refine lpE2_use hF (fun (y3 : Int32) (y4 : Int32) => ∀ (H : Heap) (locs : List Loc) (ls : Array Slot), va_P D vwCl (wld cy ad dsC σ) H → va_D A (wld cy ad dsC σ) → va_S A s.heap H locs → lv_has ls 3 [(0, .ref (ad 1)), (1, .int y3), (2, .int y4)] → W p l e (rmO 3 63) s m args below meth c H locs 0 0 (MQ below (va_Qi (fun r u => post r ∧ σ = u) (cBk D cy ad dsC A) A) args s 0 0 A) (F0 m 4 ls [])) (fun rec5 hrec5 y3 y4 hF H locs ls hP hD hS hl => ?_) H locs ls hP hD hS (lv_sub hl [2, 1, 0] rfl)
    refine lv_iload_n hx hb dX1_size_4 rfl (lv_at hl 2 rfl) ?_
    refine lv_aload_n hx hb dX1_size_5 rfl (lv_at hl 0 rfl) ?_
    refine wi_geti hx hb hg hown hK hP 1 0 rfl rfl cb_4 (by decide) kw_36 dX1_size_6 ?_
    refine lv_icmp_ge (tgt := 29) hx hb dX1_size_9 (by decide) (fun c6 => ?_) (fun c6 => ?_)
    · have hF := brT hF c6
      exact hJ1 y3 H locs ls hF hP hD hS (lv_sub hl [1] rfl)
    · have hF := brF hF c6
      refine lv_aload_n hx hb dX1_size_12 rfl (lv_at hl 0 rfl) ?_
      refine lv_iload_n hx hb dX1_size_13 rfl (lv_at hl 2 rfl) ?_
      refine wi_callSi (As := [.ref (ad 1), .int y4]) (c_X1_crosses l D cy ad tL σ y4 _ hF) sw_RX1_15 hx hb hml hown hg hK hP hD hS hA hLB rfl ⟨Nat.le_of_ble_eq_true rfl, Nat.le_of_ble_eq_true rfl⟩ hl.1 rfl (Nat.le_of_ble_eq_true rfl) dX1_size_14 (fun r7 σ8 hw H locs hP hD hS => ?_)
      obtain ⟨hF, rfl⟩ := hw
      refine lv_if_eq (tgt := 23) hx hb dX1_size_17 (by decide) (fun c9 => ?_) (fun c9 => ?_)
      · have hF := brT hF c9
        obtain ⟨x10, ex10⟩ : ∃ z : Int32, z = (y4 + (1 : Int32)) := ⟨_, rfl⟩
        have hF := hF x10 ex10
        refine lv_iinc (v := x10) (lv' := [(2, .int x10), (0, .ref (ad 1)), (1, .int y3)]) hx hb dX1_size_23 hl (k := 2) rfl (by rw [ex10]; rfl) (by decide) rfl (fun ls hl => ?_)
        refine lv_goto (tgt := 4) hx hb dX1_size_26 (by decide) ?_
        exact hrec5 y3 x10 hF H locs ls hP hD hS (lv_sub hl [1, 2, 0] rfl)
      · have hF := brF hF c9
        obtain ⟨x11, ex11⟩ : ∃ z : Int32, z = (y3 + (1 : Int32)) := ⟨_, rfl⟩
        have hF := hF x11 ex11
        refine lv_iinc (v := x11) (lv' := [(1, .int x11), (0, .ref (ad 1)), (2, .int y4)]) hx hb dX1_size_20 hl (k := 1) rfl (by rw [ex11]; rfl) (by decide) rfl (fun ls hl => ?_)
        obtain ⟨x12, ex12⟩ : ∃ z : Int32, z = (y4 + (1 : Int32)) := ⟨_, rfl⟩
        have hF := hF x12 ex12
        refine lv_iinc (v := x12) (lv' := [(2, .int x12), (1, .int x11), (0, .ref (ad 1))]) hx hb dX1_size_23 hl (k := 2) rfl (by rw [ex12]; rfl) (by decide) rfl (fun ls hl => ?_)
        refine lv_goto (tgt := 4) hx hb dX1_size_26 (by decide) ?_
        exact hrec5 x11 x12 hF H locs ls hP hD hS (lv_sub hl [2, 1, 0] rfl)
def w_X1_keeperOf_L4 (σ : St) (post : Int32 → Prop) (J1 : Prop) (rec4 : Int32 → Int32 → Prop) (y2 : Int32) (y3 : Int32) : Prop := br ((σ.1 1 0) ≤ y3) (J1) (w_X1_crosses σ y3 (fun r6 => br (r6 = (0 : Int32)) (nm (y3 + (1 : Int32)) (fun x9 => rec4 y2 x9)) (br (y2 = (0 : Int32)) (post y3) (nm (y2 + (-1 : Int32)) (fun x11 => nm (y3 + (1 : Int32)) (fun x12 => rec4 x11 x12))))))
def w_X1_keeperOf (σ : St) (a2 : Int32) (post : Int32 → Prop) : Prop := jn (α := Prop) (post (-1 : Int32)) (fun J1 => lpE2 (w_X1_keeperOf_L4 σ post J1) a2 (0 : Int32))
set_option maxHeartbeats 4000000 in
set_option maxRecDepth 100000 in
theorem c_X1_keeperOf (l : Launch) (D : va_G) (cy : Nat → ClassId) (ad : Nat → Nat) (tL : Nat) (σ : St) (a2 : Int32) (post : Int32 → Prop) (hF : w_X1_keeperOf σ a2 post) : Cti l yX1_keeperOf cX1_keeperOf 4 (some .int) 3 63 D cy ad tL dsC σ [.ref (ad 1), .int a2] (fun r u => post r ∧ σ = u) := by
  refine cti_of (by decide) (Nat.le_of_ble_eq_true rfl) ?_
  intro p e s m args below meth c A hx hb hml hr hlk hg hown hA hK H locs hP hD hS hLB ls hl
  have hown : s.vm.findClass RX1 = some m.cls := hown
  have hl : lv_has ls 4 [(0, .ref (ad 1)), (1, .int a2)] := hl
  refine lv_iload_n hx hb dX1_keeperOf_0 rfl (lv_at hl 1 rfl) ?_
  refine lv_istore_n (lv' := [(2, .int a2), (0, .ref (ad 1)), (1, .int a2)]) hx hb dX1_keeperOf_1 rfl hl (by decide) rfl (fun ls hl => ?_)
  refine lv_iconst (v := (0 : Int32)) hx hb dX1_keeperOf_2 (by decide) ?_
  refine lv_istore_n (lv' := [(3, .int (0 : Int32)), (2, .int a2), (0, .ref (ad 1)), (1, .int a2)]) hx hb dX1_keeperOf_3 rfl hl (by decide) rfl (fun ls hl => ?_)
  refine jn_use hF (fun K => ∀ (H : Heap) (locs : List Loc) (ls : Array Slot), K → va_P D vwCl (wld cy ad dsC σ) H → va_D A (wld cy ad dsC σ) → va_S A s.heap H locs → lv_has ls 4 [] → W p l e (rmO 3 63) s m args below meth c H locs 0 0 (MQ below (va_Qi (fun r u => post r ∧ σ = u) (cBk D cy ad dsC A) A) args s 0 0 A) (F0 m 35 ls [])) (fun H locs ls hF hP hD hS hl => ?_) (fun J1 hJ1 hF => ?_)
  · refine lv_iconst (v := (-1 : Int32)) hx hb dX1_keeperOf_35 (by decide) ?_
    exact wi_iret hx hb hr hlk hK hP hD hS dX1_keeperOf_36 ⟨hF, rfl⟩
  · refine lpE2_use hF (fun (y2 : Int32) (y3 : Int32) => ∀ (H : Heap) (locs : List Loc) (ls : Array Slot), va_P D vwCl (wld cy ad dsC σ) H → va_D A (wld cy ad dsC σ) → va_S A s.heap H locs → lv_has ls 4 [(0, .ref (ad 1)), (2, .int y2), (3, .int y3)] → W p l e (rmO 3 63) s m args below meth c H locs 0 0 (MQ below (va_Qi (fun r u => post r ∧ σ = u) (cBk D cy ad dsC A) A) args s 0 0 A) (F0 m 4 ls [])) (fun rec4 hrec4 y2 y3 hF H locs ls hP hD hS hl => ?_) H locs ls hP hD hS (lv_sub hl [2, 1, 0] rfl)
    refine lv_iload_n hx hb dX1_keeperOf_4 rfl (lv_at hl 2 rfl) ?_
    refine lv_aload_n hx hb dX1_keeperOf_5 rfl (lv_at hl 0 rfl) ?_
    refine wi_geti hx hb hg hown hK hP 1 0 rfl rfl cb_4 (by decide) kw_36 dX1_keeperOf_6 ?_
    refine lv_icmp_ge (tgt := 35) hx hb dX1_keeperOf_9 (by decide) (fun c5 => ?_) (fun c5 => ?_)
    · have hF := brT hF c5
      exact hJ1  H locs ls hF hP hD hS (lv_sub hl [] rfl)
    · have hF := brF hF c5
      refine lv_aload_n hx hb dX1_keeperOf_12 rfl (lv_at hl 0 rfl) ?_
      refine lv_iload_n hx hb dX1_keeperOf_13 rfl (lv_at hl 2 rfl) ?_
      refine wi_callSi (As := [.ref (ad 1), .int y3]) (c_X1_crosses l D cy ad tL σ y3 _ hF) sw_RX1_15 hx hb hml hown hg hK hP hD hS hA hLB rfl ⟨Nat.le_of_ble_eq_true rfl, Nat.le_of_ble_eq_true rfl⟩ hl.1 rfl (Nat.le_of_ble_eq_true rfl) dX1_keeperOf_14 (fun r6 σ7 hw H locs hP hD hS => ?_)
      obtain ⟨hF, rfl⟩ := hw
      refine lv_if_eq (tgt := 29) hx hb dX1_keeperOf_17 (by decide) (fun c8 => ?_) (fun c8 => ?_)
      · have hF := brT hF c8
        obtain ⟨x9, ex9⟩ : ∃ z : Int32, z = (y3 + (1 : Int32)) := ⟨_, rfl⟩
        have hF := hF x9 ex9
        refine lv_iinc (v := x9) (lv' := [(3, .int x9), (0, .ref (ad 1)), (2, .int y2)]) hx hb dX1_keeperOf_29 hl (k := 2) rfl (by rw [ex9]; rfl) (by decide) rfl (fun ls hl => ?_)
        refine lv_goto (tgt := 4) hx hb dX1_keeperOf_32 (by decide) ?_
        exact hrec4 y2 x9 hF H locs ls hP hD hS (lv_sub hl [1, 2, 0] rfl)
      · have hF := brF hF c8
        refine lv_iload_n hx hb dX1_keeperOf_20 rfl (lv_at hl 1 rfl) ?_
        refine lv_if_ne (tgt := 26) hx hb dX1_keeperOf_21 (by decide) (fun c10 => ?_) (fun c10 => ?_)
        · have hF := brF hF c10
          obtain ⟨x11, ex11⟩ : ∃ z : Int32, z = (y2 + (-1 : Int32)) := ⟨_, rfl⟩
          have hF := hF x11 ex11
          refine lv_iinc (v := x11) (lv' := [(2, .int x11), (0, .ref (ad 1)), (3, .int y3)]) hx hb dX1_keeperOf_26 hl (k := 1) rfl (by rw [ex11]; rfl) (by decide) rfl (fun ls hl => ?_)
          obtain ⟨x12, ex12⟩ : ∃ z : Int32, z = (y3 + (1 : Int32)) := ⟨_, rfl⟩
          have hF := hF x12 ex12
          refine lv_iinc (v := x12) (lv' := [(3, .int x12), (2, .int x11), (0, .ref (ad 1))]) hx hb dX1_keeperOf_29 hl (k := 2) rfl (by rw [ex12]; rfl) (by decide) rfl (fun ls hl => ?_)
          refine lv_goto (tgt := 4) hx hb dX1_keeperOf_32 (by decide) ?_
          exact hrec4 x11 x12 hF H locs ls hP hD hS (lv_sub hl [2, 1, 0] rfl)
        · have hF := brT hF c10
          refine lv_iload_n hx hb dX1_keeperOf_24 rfl (lv_at hl 2 rfl) ?_
          exact wi_iret hx hb hr hlk hK hP hD hS dX1_keeperOf_25 ⟨hF, rfl⟩
def w_X1_isStill (σ : St) (a2 : Int32) (post : Int32 → Prop) : Prop := w_X4_foreignBits σ a2 (fun r1 => br ((r1 &&& ((σ.1 1 3) ^^^ (-1 : Int32))) = (0 : Int32)) (post (1 : Int32)) (post (0 : Int32)))
set_option maxHeartbeats 4000000 in
set_option maxRecDepth 100000 in
theorem c_X1_isStill (l : Launch) (D : va_G) (cy : Nat → ClassId) (ad : Nat → Nat) (tL : Nat) (σ : St) (a2 : Int32) (post : Int32 → Prop) (hF : w_X1_isStill σ a2 post) : Cti l yX1_isStill cX1_isStill 2 (some .boolean) 1 21 D cy ad tL dsC σ [.ref (ad 1), .int a2] (fun r u => post r ∧ σ = u) := by
  refine cti_of (by decide) (Nat.le_of_ble_eq_true rfl) ?_
  intro p e s m args below meth c A hx hb hml hr hlk hg hown hA hK H locs hP hD hS hLB ls hl
  have hown : s.vm.findClass RX1 = some m.cls := hown
  have hl : lv_has ls 2 [(0, .ref (ad 1)), (1, .int a2)] := hl
  refine lv_aload_n hx hb dX1_isStill_0 rfl (lv_at hl 0 rfl) ?_
  refine lv_iload_n hx hb dX1_isStill_1 rfl (lv_at hl 1 rfl) ?_
  refine wi_callVi (k := 1) (As := [.int a2]) (c_X4_foreignBits l D cy ad tL σ a2 _ hF) vw_RX1_52 rfl cb_4 hx hb hml hown hg hK hP hD hS hA hLB rfl ⟨Nat.le_of_ble_eq_true rfl, Nat.le_of_ble_eq_true rfl⟩ hl.1 rfl (Nat.le_of_ble_eq_true rfl) dX1_isStill_2 (fun r1 σ2 hw H locs hP hD hS => ?_)
  obtain ⟨hF, rfl⟩ := hw
  refine lv_aload_n hx hb dX1_isStill_5 rfl (lv_at hl 0 rfl) ?_
  refine wi_geti hx hb hg hown hK hP 1 3 rfl rfl cb_4 (by decide) kw_42 dX1_isStill_6 ?_
  refine lv_iconst (v := (-1 : Int32)) hx hb dX1_isStill_9 (by decide) ?_
  refine lv_ixor hx hb dX1_isStill_10 ?_
  refine lv_iand hx hb dX1_isStill_11 ?_
  refine lv_if_ne (tgt := 19) hx hb dX1_isStill_12 (by decide) (fun c3 => ?_) (fun c3 => ?_)
  · have hF := brF hF c3
    refine lv_iconst (v := (0 : Int32)) hx hb dX1_isStill_19 (by decide) ?_
    exact wi_zret hx hb hr hlk hK hP hD hS dX1_isStill_20 (by decide) ⟨hF, rfl⟩
  · have hF := brT hF c3
    refine lv_iconst (v := (1 : Int32)) hx hb dX1_isStill_15 (by decide) ?_
    refine lv_goto (tgt := 20) hx hb dX1_isStill_16 (by decide) ?_
    exact wi_zret hx hb hr hlk hK hP hD hS dX1_isStill_20 (by decide) ⟨hF, rfl⟩
def w_X4_isBit (σ : St) (a1 : Int32) (post : Int32 → Prop) : Prop := w_X4_isCell σ a1 (fun r1 => br (r1 = (0 : Int32)) (post (0 : Int32)) (rd (σ.1 8) 24 a1 (fun v4 => br (v4 < (5 : Int32)) (post (0 : Int32)) (post (1 : Int32)))))
set_option maxHeartbeats 4000000 in
set_option maxRecDepth 100000 in
theorem c_X4_isBit (l : Launch) (D : va_G) (cy : Nat → ClassId) (ad : Nat → Nat) (tL : Nat) (σ : St) (a1 : Int32) (post : Int32 → Prop) (hF : w_X4_isBit σ a1 post) : Cti l yX4_isBit cX4_isBit 2 (some .boolean) 1 21 D cy ad tL dsC σ [.ref (ad 1), .int a1] (fun r u => post r ∧ σ = u) := by
  refine cti_of (by decide) (Nat.le_of_ble_eq_true rfl) ?_
  intro p e s m args below meth c A hx hb hml hr hlk hg hown hA hK H locs hP hD hS hLB ls hl
  have hown : s.vm.findClass RX4 = some m.cls := hown
  have hl : lv_has ls 2 [(0, .ref (ad 1)), (1, .int a1)] := hl
  refine lv_aload_n hx hb dX4_isBit_0 rfl (lv_at hl 0 rfl) ?_
  refine lv_iload_n hx hb dX4_isBit_1 rfl (lv_at hl 1 rfl) ?_
  refine wi_callVi (k := 1) (As := [.int a1]) (c_X4_isCell l D cy ad tL σ a1 _ hF) vw_RX4_59 rfl cb_4 hx hb hml hown hg hK hP hD hS hA hLB rfl ⟨Nat.le_of_ble_eq_true rfl, Nat.le_of_ble_eq_true rfl⟩ hl.1 rfl (Nat.le_of_ble_eq_true rfl) dX4_isBit_2 (fun r1 σ2 hw H locs hP hD hS => ?_)
  obtain ⟨hF, rfl⟩ := hw
  refine lv_if_eq (tgt := 22) hx hb dX4_isBit_5 (by decide) (fun c3 => ?_) (fun c3 => ?_)
  · have hF := brT hF c3
    refine lv_iconst (v := (0 : Int32)) hx hb dX4_isBit_22 (by decide) ?_
    exact wi_zret hx hb hr hlk hK hP hD hS dX4_isBit_23 (by decide) ⟨hF, rfl⟩
  · have hF := brF hF c3
    refine lv_aload_n hx hb dX4_isBit_8 rfl (lv_at hl 0 rfl) ?_
    refine wi_getr hx hb hg hown hK hP 1 5 8 rfl rfl cb_4 (by decide) kw_18 dX4_isBit_9 ?_
    refine lv_iload_n hx hb dX4_isBit_12 rfl (lv_at hl 1 rfl) ?_
    obtain ⟨hin, hF⟩ := hF
    refine wi_iald hx hb hK hP 8 rfl hin dX4_isBit_13 (fun v4 ev4 => ?_)
    have hF := hF v4 ev4
    refine lv_iconst (v := (5 : Int32)) hx hb dX4_isBit_14 (by decide) ?_
    refine lv_icmp_lt (tgt := 22) hx hb dX4_isBit_15 (by decide) (fun c5 => ?_) (fun c5 => ?_)
    · have hF := brT hF c5
      refine lv_iconst (v := (0 : Int32)) hx hb dX4_isBit_22 (by decide) ?_
      exact wi_zret hx hb hr hlk hK hP hD hS dX4_isBit_23 (by decide) ⟨hF, rfl⟩
    · have hF := brF hF c5
      refine lv_iconst (v := (1 : Int32)) hx hb dX4_isBit_18 (by decide) ?_
      refine lv_goto (tgt := 23) hx hb dX4_isBit_19 (by decide) ?_
      exact wi_zret hx hb hr hlk hK hP hD hS dX4_isBit_23 (by decide) ⟨hF, rfl⟩
def w_X1_isPassedOn_L4 (a2 : Int32) (σ : St) (post : Int32 → Prop) (J1 : Int32 → Prop) (rec6 : Int32 → Int32 → Prop) (y4 : Int32) (y5 : Int32) : Prop := br ((σ.1 1 0) ≤ y5) (J1 y4) (rd (σ.1 10) 24 y5 (fun v8 => jn (α := Prop) (br (y5 = a2) (post (0 : Int32)) (w_X4_isKeeper σ y5 (fun r11 => br (r11 = (0 : Int32)) (post (0 : Int32)) (rd (σ.1 9) 24 y5 (fun v14 => rd (σ.1 9) 24 a2 (fun v15 => br (v14 = v15) (nm (y4 + (1 : Int32)) (fun x17 => nm (y5 + (1 : Int32)) (fun x18 => rec6 x17 x18))) (post (0 : Int32)))))))) (fun J9 => br (v8 = a2) (J9) (rd (σ.1 11) 24 y5 (fun v20 => br (v20 = a2) (J9) (rd (σ.1 12) 24 y5 (fun v22 => br (v22 = a2) (J9) (nm (y5 + (1 : Int32)) (fun x24 => rec6 y4 x24)))))))))
def w_X1_isPassedOn (σ : St) (a2 : Int32) (post : Int32 → Prop) : Prop := jn (α := Int32 → Prop) (fun (y2 : Int32) => br (y2 = (1 : Int32)) (post (1 : Int32)) (post (0 : Int32))) (fun J1 => lpE2 (w_X1_isPassedOn_L4 a2 σ post J1) (0 : Int32) (0 : Int32))
set_option maxHeartbeats 4000000 in
set_option maxRecDepth 100000 in
theorem c_X1_isPassedOn (l : Launch) (D : va_G) (cy : Nat → ClassId) (ad : Nat → Nat) (tL : Nat) (σ : St) (a2 : Int32) (post : Int32 → Prop) (hF : w_X1_isPassedOn σ a2 post) : Cti l yX1_isPassedOn cX1_isPassedOn 4 (some .boolean) 2 42 D cy ad tL dsC σ [.ref (ad 1), .int a2] (fun r u => post r ∧ σ = u) := by
  refine cti_of (by decide) (Nat.le_of_ble_eq_true rfl) ?_
  intro p e s m args below meth c A hx hb hml hr hlk hg hown hA hK H locs hP hD hS hLB ls hl
  have hown : s.vm.findClass RX1 = some m.cls := hown
  have hl : lv_has ls 4 [(0, .ref (ad 1)), (1, .int a2)] := hl
  refine lv_iconst (v := (0 : Int32)) hx hb dX1_isPassedOn_0 (by decide) ?_
  refine lv_istore_n (lv' := [(2, .int (0 : Int32)), (0, .ref (ad 1)), (1, .int a2)]) hx hb dX1_isPassedOn_1 rfl hl (by decide) rfl (fun ls hl => ?_)
  refine lv_iconst (v := (0 : Int32)) hx hb dX1_isPassedOn_2 (by decide) ?_
  refine lv_istore_n (lv' := [(3, .int (0 : Int32)), (2, .int (0 : Int32)), (0, .ref (ad 1)), (1, .int a2)]) hx hb dX1_isPassedOn_3 rfl hl (by decide) rfl (fun ls hl => ?_)
  refine jn_use hF (fun K => ∀ (y2 : Int32) (H : Heap) (locs : List Loc) (ls : Array Slot), K y2 → va_P D vwCl (wld cy ad dsC σ) H → va_D A (wld cy ad dsC σ) → va_S A s.heap H locs → lv_has ls 4 [(2, .int y2)] → W p l e (rmO 2 42) s m args below meth c H locs 0 0 (MQ below (va_Qi (fun r u => post r ∧ σ = u) (cBk D cy ad dsC A) A) args s 0 0 A) (F0 m 81 ls [])) (fun y2 H locs ls hF hP hD hS hl => ?_) (fun J1 hJ1 hF => ?_)
  · refine lv_iload_n hx hb dX1_isPassedOn_81 rfl (lv_at hl 0 rfl) ?_
    refine lv_iconst (v := (1 : Int32)) hx hb dX1_isPassedOn_82 (by decide) ?_
    refine lv_icmp_ne (tgt := 90) hx hb dX1_isPassedOn_83 (by decide) (fun c3 => ?_) (fun c3 => ?_)
    · have hF := brF hF c3
      refine lv_iconst (v := (0 : Int32)) hx hb dX1_isPassedOn_90 (by decide) ?_
      exact wi_zret hx hb hr hlk hK hP hD hS dX1_isPassedOn_91 (by decide) ⟨hF, rfl⟩
    · have hF := brT hF c3
      refine lv_iconst (v := (1 : Int32)) hx hb dX1_isPassedOn_86 (by decide) ?_
      refine lv_goto (tgt := 91) hx hb dX1_isPassedOn_87 (by decide) ?_
      exact wi_zret hx hb hr hlk hK hP hD hS dX1_isPassedOn_91 (by decide) ⟨hF, rfl⟩
  · refine lpE2_use hF (fun (y4 : Int32) (y5 : Int32) => ∀ (H : Heap) (locs : List Loc) (ls : Array Slot), va_P D vwCl (wld cy ad dsC σ) H → va_D A (wld cy ad dsC σ) → va_S A s.heap H locs → lv_has ls 4 [(0, .ref (ad 1)), (1, .int a2), (2, .int y4), (3, .int y5)] → W p l e (rmO 2 42) s m args below meth c H locs 0 0 (MQ below (va_Qi (fun r u => post r ∧ σ = u) (cBk D cy ad dsC A) A) args s 0 0 A) (F0 m 4 ls [])) (fun rec6 hrec6 y4 y5 hF H locs ls hP hD hS hl => ?_) H locs ls hP hD hS (lv_sub hl [2, 3, 1, 0] rfl)
    refine lv_iload_n hx hb dX1_isPassedOn_4 rfl (lv_at hl 3 rfl) ?_
    refine lv_aload_n hx hb dX1_isPassedOn_5 rfl (lv_at hl 0 rfl) ?_
    refine wi_geti hx hb hg hown hK hP 1 0 rfl rfl cb_4 (by decide) kw_36 dX1_isPassedOn_6 ?_
    refine lv_icmp_ge (tgt := 81) hx hb dX1_isPassedOn_9 (by decide) (fun c7 => ?_) (fun c7 => ?_)
    · have hF := brT hF c7
      exact hJ1 y4 H locs ls hF hP hD hS (lv_sub hl [2] rfl)
    · have hF := brF hF c7
      refine lv_aload_n hx hb dX1_isPassedOn_12 rfl (lv_at hl 0 rfl) ?_
      refine wi_getr hx hb hg hown hK hP 1 7 10 rfl rfl cb_4 (by decide) kw_45 dX1_isPassedOn_13 ?_
      refine lv_iload_n hx hb dX1_isPassedOn_16 rfl (lv_at hl 3 rfl) ?_
      obtain ⟨hin, hF⟩ := hF
      refine wi_iald hx hb hK hP 10 rfl hin dX1_isPassedOn_17 (fun v8 ev8 => ?_)
      have hF := hF v8 ev8
      refine lv_iload_n hx hb dX1_isPassedOn_18 rfl (lv_at hl 1 rfl) ?_
      refine jn_use hF (fun K => ∀ (H : Heap) (locs : List Loc) (ls : Array Slot), K → va_P D vwCl (wld cy ad dsC σ) H → va_D A (wld cy ad dsC σ) → va_S A s.heap H locs → lv_has ls 4 [(0, .ref (ad 1)), (1, .int a2), (2, .int y4), (3, .int y5)] → W p l e (rmO 2 42) s m args below meth c H locs 0 0 (MQ below (va_Qi (fun r u => post r ∧ σ = u) (cBk D cy ad dsC A) A) args s 0 0 A) (F0 m 42 ls [])) (fun H locs ls hF hP hD hS hl => ?_) (fun J9 hJ9 hF => ?_)
      · refine lv_iload_n hx hb dX1_isPassedOn_42 rfl (lv_at hl 3 rfl) ?_
        refine lv_iload_n hx hb dX1_isPassedOn_43 rfl (lv_at hl 1 rfl) ?_
        refine lv_icmp_eq (tgt := 70) hx hb dX1_isPassedOn_44 (by decide) (fun c10 => ?_) (fun c10 => ?_)
        · have hF := brT hF c10
          refine lv_iconst (v := (0 : Int32)) hx hb dX1_isPassedOn_70 (by decide) ?_
          exact wi_zret hx hb hr hlk hK hP hD hS dX1_isPassedOn_71 (by decide) ⟨hF, rfl⟩
        · have hF := brF hF c10
          refine lv_aload_n hx hb dX1_isPassedOn_47 rfl (lv_at hl 0 rfl) ?_
          refine lv_iload_n hx hb dX1_isPassedOn_48 rfl (lv_at hl 3 rfl) ?_
          refine wi_callVi (k := 1) (As := [.int y5]) (c_X4_isKeeper l D cy ad tL σ y5 _ hF) vw_RX1_49 rfl cb_4 hx hb hml hown hg hK hP hD hS hA hLB rfl ⟨Nat.le_of_ble_eq_true rfl, Nat.le_of_ble_eq_true rfl⟩ hl.1 rfl (Nat.le_of_ble_eq_true rfl) dX1_isPassedOn_49 (fun r11 σ12 hw H locs hP hD hS => ?_)
          obtain ⟨hF, rfl⟩ := hw
          refine lv_if_eq (tgt := 70) hx hb dX1_isPassedOn_52 (by decide) (fun c13 => ?_) (fun c13 => ?_)
          · have hF := brT hF c13
            refine lv_iconst (v := (0 : Int32)) hx hb dX1_isPassedOn_70 (by decide) ?_
            exact wi_zret hx hb hr hlk hK hP hD hS dX1_isPassedOn_71 (by decide) ⟨hF, rfl⟩
          · have hF := brF hF c13
            refine lv_aload_n hx hb dX1_isPassedOn_55 rfl (lv_at hl 0 rfl) ?_
            refine wi_getr hx hb hg hown hK hP 1 6 9 rfl rfl cb_4 (by decide) kw_48 dX1_isPassedOn_56 ?_
            refine lv_iload_n hx hb dX1_isPassedOn_59 rfl (lv_at hl 3 rfl) ?_
            obtain ⟨hin, hF⟩ := hF
            refine wi_iald hx hb hK hP 9 rfl hin dX1_isPassedOn_60 (fun v14 ev14 => ?_)
            have hF := hF v14 ev14
            refine lv_aload_n hx hb dX1_isPassedOn_61 rfl (lv_at hl 0 rfl) ?_
            refine wi_getr hx hb hg hown hK hP 1 6 9 rfl rfl cb_4 (by decide) kw_48 dX1_isPassedOn_62 ?_
            refine lv_iload_n hx hb dX1_isPassedOn_65 rfl (lv_at hl 1 rfl) ?_
            obtain ⟨hin, hF⟩ := hF
            refine wi_iald hx hb hK hP 9 rfl hin dX1_isPassedOn_66 (fun v15 ev15 => ?_)
            have hF := hF v15 ev15
            refine lv_icmp_eq (tgt := 72) hx hb dX1_isPassedOn_67 (by decide) (fun c16 => ?_) (fun c16 => ?_)
            · have hF := brT hF c16
              obtain ⟨x17, ex17⟩ : ∃ z : Int32, z = (y4 + (1 : Int32)) := ⟨_, rfl⟩
              have hF := hF x17 ex17
              refine lv_iinc (v := x17) (lv' := [(2, .int x17), (0, .ref (ad 1)), (1, .int a2), (3, .int y5)]) hx hb dX1_isPassedOn_72 hl (k := 2) rfl (by rw [ex17]; rfl) (by decide) rfl (fun ls hl => ?_)
              obtain ⟨x18, ex18⟩ : ∃ z : Int32, z = (y5 + (1 : Int32)) := ⟨_, rfl⟩
              have hF := hF x18 ex18
              refine lv_iinc (v := x18) (lv' := [(3, .int x18), (2, .int x17), (0, .ref (ad 1)), (1, .int a2)]) hx hb dX1_isPassedOn_75 hl (k := 3) rfl (by rw [ex18]; rfl) (by decide) rfl (fun ls hl => ?_)
              refine lv_goto (tgt := 4) hx hb dX1_isPassedOn_78 (by decide) ?_
              exact hrec6 x17 x18 hF H locs ls hP hD hS (lv_sub hl [2, 3, 1, 0] rfl)
            · have hF := brF hF c16
              refine lv_iconst (v := (0 : Int32)) hx hb dX1_isPassedOn_70 (by decide) ?_
              exact wi_zret hx hb hr hlk hK hP hD hS dX1_isPassedOn_71 (by decide) ⟨hF, rfl⟩
      · refine lv_icmp_eq (tgt := 42) hx hb dX1_isPassedOn_19 (by decide) (fun c19 => ?_) (fun c19 => ?_)
        · have hF := brT hF c19
          exact hJ9  H locs ls hF hP hD hS (lv_sub hl [0, 1, 2, 3] rfl)
        · have hF := brF hF c19
          refine lv_aload_n hx hb dX1_isPassedOn_22 rfl (lv_at hl 0 rfl) ?_
          refine wi_getr hx hb hg hown hK hP 1 8 11 rfl rfl cb_4 (by decide) kw_46 dX1_isPassedOn_23 ?_
          refine lv_iload_n hx hb dX1_isPassedOn_26 rfl (lv_at hl 3 rfl) ?_
          obtain ⟨hin, hF⟩ := hF
          refine wi_iald hx hb hK hP 11 rfl hin dX1_isPassedOn_27 (fun v20 ev20 => ?_)
          have hF := hF v20 ev20
          refine lv_iload_n hx hb dX1_isPassedOn_28 rfl (lv_at hl 1 rfl) ?_
          refine lv_icmp_eq (tgt := 42) hx hb dX1_isPassedOn_29 (by decide) (fun c21 => ?_) (fun c21 => ?_)
          · have hF := brT hF c21
            exact hJ9  H locs ls hF hP hD hS (lv_sub hl [0, 1, 2, 3] rfl)
          · have hF := brF hF c21
            refine lv_aload_n hx hb dX1_isPassedOn_32 rfl (lv_at hl 0 rfl) ?_
            refine wi_getr hx hb hg hown hK hP 1 9 12 rfl rfl cb_4 (by decide) kw_47 dX1_isPassedOn_33 ?_
            refine lv_iload_n hx hb dX1_isPassedOn_36 rfl (lv_at hl 3 rfl) ?_
            obtain ⟨hin, hF⟩ := hF
            refine wi_iald hx hb hK hP 12 rfl hin dX1_isPassedOn_37 (fun v22 ev22 => ?_)
            have hF := hF v22 ev22
            refine lv_iload_n hx hb dX1_isPassedOn_38 rfl (lv_at hl 1 rfl) ?_
            refine lv_icmp_ne (tgt := 75) hx hb dX1_isPassedOn_39 (by decide) (fun c23 => ?_) (fun c23 => ?_)
            · have hF := brF hF c23
              obtain ⟨x24, ex24⟩ : ∃ z : Int32, z = (y5 + (1 : Int32)) := ⟨_, rfl⟩
              have hF := hF x24 ex24
              refine lv_iinc (v := x24) (lv' := [(3, .int x24), (0, .ref (ad 1)), (1, .int a2), (2, .int y4)]) hx hb dX1_isPassedOn_75 hl (k := 3) rfl (by rw [ex24]; rfl) (by decide) rfl (fun ls hl => ?_)
              refine lv_goto (tgt := 4) hx hb dX1_isPassedOn_78 (by decide) ?_
              exact hrec6 y4 x24 hF H locs ls hP hD hS (lv_sub hl [1, 2, 3, 0] rfl)
            · have hF := brT hF c23
              exact hJ9  H locs ls hF hP hD hS (lv_sub hl [0, 1, 2, 3] rfl)
def w_X1_isTwice (σ : St) (a2 : Int32) (post : Int32 → Prop) : Prop := w_X1_crosses σ a2 (fun r1 => br (r1 = (0 : Int32)) (post (0 : Int32)) (w_X1_isStill σ a2 (fun r4 => br (r4 = (0 : Int32)) (rd (σ.1 10) 24 a2 (fun v7 => w_X4_isBit σ v7 (fun r8 => br (r8 = (0 : Int32)) (post (0 : Int32)) (w_X1_isPassedOn σ a2 (fun r11 => br (r11 = (0 : Int32)) (post (0 : Int32)) (post (1 : Int32))))))) (post (0 : Int32)))))
set_option maxHeartbeats 4000000 in
set_option maxRecDepth 100000 in
theorem c_X1_isTwice (l : Launch) (D : va_G) (cy : Nat → ClassId) (ad : Nat → Nat) (tL : Nat) (σ : St) (a2 : Int32) (post : Int32 → Prop) (hF : w_X1_isTwice σ a2 post) : Cti l yX1_isTwice cX1_isTwice 2 (some .boolean) 3 65 D cy ad tL dsC σ [.ref (ad 1), .int a2] (fun r u => post r ∧ σ = u) := by
  refine cti_of (by decide) (Nat.le_of_ble_eq_true rfl) ?_
  intro p e s m args below meth c A hx hb hml hr hlk hg hown hA hK H locs hP hD hS hLB ls hl
  have hown : s.vm.findClass RX1 = some m.cls := hown
  have hl : lv_has ls 2 [(0, .ref (ad 1)), (1, .int a2)] := hl
  refine lv_aload_n hx hb dX1_isTwice_0 rfl (lv_at hl 0 rfl) ?_
  refine lv_iload_n hx hb dX1_isTwice_1 rfl (lv_at hl 1 rfl) ?_
  refine wi_callSi (As := [.ref (ad 1), .int a2]) (c_X1_crosses l D cy ad tL σ a2 _ hF) sw_RX1_15 hx hb hml hown hg hK hP hD hS hA hLB rfl ⟨Nat.le_of_ble_eq_true rfl, Nat.le_of_ble_eq_true rfl⟩ hl.1 rfl (Nat.le_of_ble_eq_true rfl) dX1_isTwice_2 (fun r1 σ2 hw H locs hP hD hS => ?_)
  obtain ⟨hF, rfl⟩ := hw
  refine lv_if_eq (tgt := 41) hx hb dX1_isTwice_5 (by decide) (fun c3 => ?_) (fun c3 => ?_)
  · have hF := brT hF c3
    refine lv_iconst (v := (0 : Int32)) hx hb dX1_isTwice_41 (by decide) ?_
    exact wi_zret hx hb hr hlk hK hP hD hS dX1_isTwice_42 (by decide) ⟨hF, rfl⟩
  · have hF := brF hF c3
    refine lv_aload_n hx hb dX1_isTwice_8 rfl (lv_at hl 0 rfl) ?_
    refine lv_iload_n hx hb dX1_isTwice_9 rfl (lv_at hl 1 rfl) ?_
    refine wi_callSi (As := [.ref (ad 1), .int a2]) (c_X1_isStill l D cy ad tL σ a2 _ hF) sw_RX1_25 hx hb hml hown hg hK hP hD hS hA hLB rfl ⟨Nat.le_of_ble_eq_true rfl, Nat.le_of_ble_eq_true rfl⟩ hl.1 rfl (Nat.le_of_ble_eq_true rfl) dX1_isTwice_10 (fun r4 σ5 hw H locs hP hD hS => ?_)
    obtain ⟨hF, rfl⟩ := hw
    refine lv_if_ne (tgt := 41) hx hb dX1_isTwice_13 (by decide) (fun c6 => ?_) (fun c6 => ?_)
    · have hF := brF hF c6
      refine lv_iconst (v := (0 : Int32)) hx hb dX1_isTwice_41 (by decide) ?_
      exact wi_zret hx hb hr hlk hK hP hD hS dX1_isTwice_42 (by decide) ⟨hF, rfl⟩
    · have hF := brT hF c6
      refine lv_aload_n hx hb dX1_isTwice_16 rfl (lv_at hl 0 rfl) ?_
      refine lv_aload_n hx hb dX1_isTwice_17 rfl (lv_at hl 0 rfl) ?_
      refine wi_getr hx hb hg hown hK hP 1 7 10 rfl rfl cb_4 (by decide) kw_45 dX1_isTwice_18 ?_
      refine lv_iload_n hx hb dX1_isTwice_21 rfl (lv_at hl 1 rfl) ?_
      obtain ⟨hin, hF⟩ := hF
      refine wi_iald hx hb hK hP 10 rfl hin dX1_isTwice_22 (fun v7 ev7 => ?_)
      have hF := hF v7 ev7
      refine wi_callVi (k := 1) (As := [.int v7]) (c_X4_isBit l D cy ad tL σ v7 _ hF) vw_RX1_35 rfl cb_4 hx hb hml hown hg hK hP hD hS hA hLB rfl ⟨Nat.le_of_ble_eq_true rfl, Nat.le_of_ble_eq_true rfl⟩ hl.1 rfl (Nat.le_of_ble_eq_true rfl) dX1_isTwice_23 (fun r8 σ9 hw H locs hP hD hS => ?_)
      obtain ⟨hF, rfl⟩ := hw
      refine lv_if_eq (tgt := 41) hx hb dX1_isTwice_26 (by decide) (fun c10 => ?_) (fun c10 => ?_)
      · have hF := brT hF c10
        refine lv_iconst (v := (0 : Int32)) hx hb dX1_isTwice_41 (by decide) ?_
        exact wi_zret hx hb hr hlk hK hP hD hS dX1_isTwice_42 (by decide) ⟨hF, rfl⟩
      · have hF := brF hF c10
        refine lv_aload_n hx hb dX1_isTwice_29 rfl (lv_at hl 0 rfl) ?_
        refine lv_iload_n hx hb dX1_isTwice_30 rfl (lv_at hl 1 rfl) ?_
        refine wi_callSi (As := [.ref (ad 1), .int a2]) (c_X1_isPassedOn l D cy ad tL σ a2 _ hF) sw_RX1_59 hx hb hml hown hg hK hP hD hS hA hLB rfl ⟨Nat.le_of_ble_eq_true rfl, Nat.le_of_ble_eq_true rfl⟩ hl.1 rfl (Nat.le_of_ble_eq_true rfl) dX1_isTwice_31 (fun r11 σ12 hw H locs hP hD hS => ?_)
        obtain ⟨hF, rfl⟩ := hw
        refine lv_if_eq (tgt := 41) hx hb dX1_isTwice_34 (by decide) (fun c13 => ?_) (fun c13 => ?_)
        · have hF := brT hF c13
          refine lv_iconst (v := (0 : Int32)) hx hb dX1_isTwice_41 (by decide) ?_
          exact wi_zret hx hb hr hlk hK hP hD hS dX1_isTwice_42 (by decide) ⟨hF, rfl⟩
        · have hF := brF hF c13
          refine lv_iconst (v := (1 : Int32)) hx hb dX1_isTwice_37 (by decide) ?_
          refine lv_goto (tgt := 42) hx hb dX1_isTwice_38 (by decide) ?_
          exact wi_zret hx hb hr hlk hK hP hD hS dX1_isTwice_42 (by decide) ⟨hF, rfl⟩
def w_X1_isHeld (σ : St) (a2 : Int32) (a3 : Int32) (post : Int32 → Prop) : Prop := rd (σ.1 8) 24 a3 (fun v1 => br (v1 = (4 : Int32)) (rd (σ.1 12) 24 a3 (fun v3 => br (v3 = a2) (rd (σ.1 10) 24 a3 (fun v5 => rd (σ.1 11) 24 a3 (fun v6 => w_X4_isBit σ v6 (fun r7 => br (r7 = (0 : Int32)) (post (0 : Int32)) (rd (σ.1 9) 24 v6 (fun v10 => rd (σ.1 9) 24 a2 (fun v11 => br (v10 = v11) (post (0 : Int32)) (w_X4_isKeeper σ v5 (fun r13 => br (r13 = (0 : Int32)) (post (0 : Int32)) (rd (σ.1 9) 24 v5 (fun v16 => rd (σ.1 9) 24 a2 (fun v17 => br (v16 = v17) (rd (σ.1 10) 24 v5 (fun v19 => w_X1_isTwice σ v19 (fun r20 => br (r20 = (0 : Int32)) (post (0 : Int32)) (post (1 : Int32))))) (post (0 : Int32)))))))))))))) (post (0 : Int32)))) (post (0 : Int32)))
set_option maxHeartbeats 4000000 in
set_option maxRecDepth 100000 in
theorem c_X1_isHeld (l : Launch) (D : va_G) (cy : Nat → ClassId) (ad : Nat → Nat) (tL : Nat) (σ : St) (a2 : Int32) (a3 : Int32) (post : Int32 → Prop) (hF : w_X1_isHeld σ a2 a3 post) : Cti l yX1_isHeld cX1_isHeld 5 (some .boolean) 4 86 D cy ad tL dsC σ [.ref (ad 1), .int a2, .int a3] (fun r u => post r ∧ σ = u) := by
  refine cti_of (by decide) (Nat.le_of_ble_eq_true rfl) ?_
  intro p e s m args below meth c A hx hb hml hr hlk hg hown hA hK H locs hP hD hS hLB ls hl
  have hown : s.vm.findClass RX1 = some m.cls := hown
  have hl : lv_has ls 5 [(0, .ref (ad 1)), (1, .int a2), (2, .int a3)] := hl
  refine lv_aload_n hx hb dX1_isHeld_0 rfl (lv_at hl 0 rfl) ?_
  refine wi_getr hx hb hg hown hK hP 1 5 8 rfl rfl cb_4 (by decide) kw_57 dX1_isHeld_1 ?_
  refine lv_iload_n hx hb dX1_isHeld_4 rfl (lv_at hl 2 rfl) ?_
  obtain ⟨hin, hF⟩ := hF
  refine wi_iald hx hb hK hP 8 rfl hin dX1_isHeld_5 (fun v1 ev1 => ?_)
  have hF := hF v1 ev1
  refine lv_iconst (v := (4 : Int32)) hx hb dX1_isHeld_6 (by decide) ?_
  refine lv_icmp_ne (tgt := 20) hx hb dX1_isHeld_7 (by decide) (fun c2 => ?_) (fun c2 => ?_)
  · have hF := brF hF c2
    refine lv_iconst (v := (0 : Int32)) hx hb dX1_isHeld_20 (by decide) ?_
    exact wi_zret hx hb hr hlk hK hP hD hS dX1_isHeld_21 (by decide) ⟨hF, rfl⟩
  · have hF := brT hF c2
    refine lv_aload_n hx hb dX1_isHeld_10 rfl (lv_at hl 0 rfl) ?_
    refine wi_getr hx hb hg hown hK hP 1 9 12 rfl rfl cb_4 (by decide) kw_47 dX1_isHeld_11 ?_
    refine lv_iload_n hx hb dX1_isHeld_14 rfl (lv_at hl 2 rfl) ?_
    obtain ⟨hin, hF⟩ := hF
    refine wi_iald hx hb hK hP 12 rfl hin dX1_isHeld_15 (fun v3 ev3 => ?_)
    have hF := hF v3 ev3
    refine lv_iload_n hx hb dX1_isHeld_16 rfl (lv_at hl 1 rfl) ?_
    refine lv_icmp_eq (tgt := 22) hx hb dX1_isHeld_17 (by decide) (fun c4 => ?_) (fun c4 => ?_)
    · have hF := brT hF c4
      refine lv_aload_n hx hb dX1_isHeld_22 rfl (lv_at hl 0 rfl) ?_
      refine wi_getr hx hb hg hown hK hP 1 7 10 rfl rfl cb_4 (by decide) kw_45 dX1_isHeld_23 ?_
      refine lv_iload_n hx hb dX1_isHeld_26 rfl (lv_at hl 2 rfl) ?_
      obtain ⟨hin, hF⟩ := hF
      refine wi_iald hx hb hK hP 10 rfl hin dX1_isHeld_27 (fun v5 ev5 => ?_)
      have hF := hF v5 ev5
      refine lv_istore_n (lv' := [(3, .int v5), (0, .ref (ad 1)), (1, .int a2), (2, .int a3)]) hx hb dX1_isHeld_28 rfl hl (by decide) rfl (fun ls hl => ?_)
      refine lv_aload_n hx hb dX1_isHeld_29 rfl (lv_at hl 1 rfl) ?_
      refine wi_getr hx hb hg hown hK hP 1 8 11 rfl rfl cb_4 (by decide) kw_46 dX1_isHeld_30 ?_
      refine lv_iload_n hx hb dX1_isHeld_33 rfl (lv_at hl 3 rfl) ?_
      obtain ⟨hin, hF⟩ := hF
      refine wi_iald hx hb hK hP 11 rfl hin dX1_isHeld_34 (fun v6 ev6 => ?_)
      have hF := hF v6 ev6
      refine lv_istore (lv' := [(4, .int v6), (3, .int v5), (0, .ref (ad 1)), (1, .int a2), (2, .int a3)]) hx hb dX1_isHeld_35 hl (by decide) rfl (fun ls hl => ?_)
      refine lv_aload_n hx hb dX1_isHeld_37 rfl (lv_at hl 2 rfl) ?_
      refine lv_iload hx hb dX1_isHeld_38 (lv_at hl 0 rfl) ?_
      refine wi_callVi (k := 1) (As := [.int v6]) (c_X4_isBit l D cy ad tL σ v6 _ hF) vw_RX1_35 rfl cb_4 hx hb hml hown hg hK hP hD hS hA hLB rfl ⟨Nat.le_of_ble_eq_true rfl, Nat.le_of_ble_eq_true rfl⟩ hl.1 rfl (Nat.le_of_ble_eq_true rfl) dX1_isHeld_40 (fun r7 σ8 hw H locs hP hD hS => ?_)
      obtain ⟨hF, rfl⟩ := hw
      refine lv_if_eq (tgt := 102) hx hb dX1_isHeld_43 (by decide) (fun c9 => ?_) (fun c9 => ?_)
      · have hF := brT hF c9
        refine lv_iconst (v := (0 : Int32)) hx hb dX1_isHeld_102 (by decide) ?_
        exact wi_zret hx hb hr hlk hK hP hD hS dX1_isHeld_103 (by decide) ⟨hF, rfl⟩
      · have hF := brF hF c9
        refine lv_aload_n hx hb dX1_isHeld_46 rfl (lv_at hl 2 rfl) ?_
        refine wi_getr hx hb hg hown hK hP 1 6 9 rfl rfl cb_4 (by decide) kw_48 dX1_isHeld_47 ?_
        refine lv_iload hx hb dX1_isHeld_50 (lv_at hl 0 rfl) ?_
        obtain ⟨hin, hF⟩ := hF
        refine wi_iald hx hb hK hP 9 rfl hin dX1_isHeld_52 (fun v10 ev10 => ?_)
        have hF := hF v10 ev10
        refine lv_aload_n hx hb dX1_isHeld_53 rfl (lv_at hl 2 rfl) ?_
        refine wi_getr hx hb hg hown hK hP 1 6 9 rfl rfl cb_4 (by decide) kw_48 dX1_isHeld_54 ?_
        refine lv_iload_n hx hb dX1_isHeld_57 rfl (lv_at hl 3 rfl) ?_
        obtain ⟨hin, hF⟩ := hF
        refine wi_iald hx hb hK hP 9 rfl hin dX1_isHeld_58 (fun v11 ev11 => ?_)
        have hF := hF v11 ev11
        refine lv_icmp_eq (tgt := 102) hx hb dX1_isHeld_59 (by decide) (fun c12 => ?_) (fun c12 => ?_)
        · have hF := brT hF c12
          refine lv_iconst (v := (0 : Int32)) hx hb dX1_isHeld_102 (by decide) ?_
          exact wi_zret hx hb hr hlk hK hP hD hS dX1_isHeld_103 (by decide) ⟨hF, rfl⟩
        · have hF := brF hF c12
          refine lv_aload_n hx hb dX1_isHeld_62 rfl (lv_at hl 2 rfl) ?_
          refine lv_iload_n hx hb dX1_isHeld_63 rfl (lv_at hl 1 rfl) ?_
          refine wi_callVi (k := 1) (As := [.int v5]) (c_X4_isKeeper l D cy ad tL σ v5 _ hF) vw_RX1_49 rfl cb_4 hx hb hml hown hg hK hP hD hS hA hLB rfl ⟨Nat.le_of_ble_eq_true rfl, Nat.le_of_ble_eq_true rfl⟩ hl.1 rfl (Nat.le_of_ble_eq_true rfl) dX1_isHeld_64 (fun r13 σ14 hw H locs hP hD hS => ?_)
          obtain ⟨hF, rfl⟩ := hw
          refine lv_if_eq (tgt := 102) hx hb dX1_isHeld_67 (by decide) (fun c15 => ?_) (fun c15 => ?_)
          · have hF := brT hF c15
            refine lv_iconst (v := (0 : Int32)) hx hb dX1_isHeld_102 (by decide) ?_
            exact wi_zret hx hb hr hlk hK hP hD hS dX1_isHeld_103 (by decide) ⟨hF, rfl⟩
          · have hF := brF hF c15
            refine lv_aload_n hx hb dX1_isHeld_70 rfl (lv_at hl 2 rfl) ?_
            refine wi_getr hx hb hg hown hK hP 1 6 9 rfl rfl cb_4 (by decide) kw_48 dX1_isHeld_71 ?_
            refine lv_iload_n hx hb dX1_isHeld_74 rfl (lv_at hl 1 rfl) ?_
            obtain ⟨hin, hF⟩ := hF
            refine wi_iald hx hb hK hP 9 rfl hin dX1_isHeld_75 (fun v16 ev16 => ?_)
            have hF := hF v16 ev16
            refine lv_aload_n hx hb dX1_isHeld_76 rfl (lv_at hl 2 rfl) ?_
            refine wi_getr hx hb hg hown hK hP 1 6 9 rfl rfl cb_4 (by decide) kw_48 dX1_isHeld_77 ?_
            refine lv_iload_n hx hb dX1_isHeld_80 rfl (lv_at hl 3 rfl) ?_
            obtain ⟨hin, hF⟩ := hF
            refine wi_iald hx hb hK hP 9 rfl hin dX1_isHeld_81 (fun v17 ev17 => ?_)
            have hF := hF v17 ev17
            refine lv_icmp_ne (tgt := 102) hx hb dX1_isHeld_82 (by decide) (fun c18 => ?_) (fun c18 => ?_)
            · have hF := brF hF c18
              refine lv_iconst (v := (0 : Int32)) hx hb dX1_isHeld_102 (by decide) ?_
              exact wi_zret hx hb hr hlk hK hP hD hS dX1_isHeld_103 (by decide) ⟨hF, rfl⟩
            · have hF := brT hF c18
              refine lv_aload_n hx hb dX1_isHeld_85 rfl (lv_at hl 2 rfl) ?_
              refine lv_aload_n hx hb dX1_isHeld_86 rfl (lv_at hl 2 rfl) ?_
              refine wi_getr hx hb hg hown hK hP 1 7 10 rfl rfl cb_4 (by decide) kw_45 dX1_isHeld_87 ?_
              refine lv_iload_n hx hb dX1_isHeld_90 rfl (lv_at hl 1 rfl) ?_
              obtain ⟨hin, hF⟩ := hF
              refine wi_iald hx hb hK hP 10 rfl hin dX1_isHeld_91 (fun v19 ev19 => ?_)
              have hF := hF v19 ev19
              refine wi_callSi (As := [.ref (ad 1), .int v19]) (c_X1_isTwice l D cy ad tL σ v19 _ hF) sw_RX1_28 hx hb hml hown hg hK hP hD hS hA hLB rfl ⟨Nat.le_of_ble_eq_true rfl, Nat.le_of_ble_eq_true rfl⟩ hl.1 rfl (Nat.le_of_ble_eq_true rfl) dX1_isHeld_92 (fun r20 σ21 hw H locs hP hD hS => ?_)
              obtain ⟨hF, rfl⟩ := hw
              refine lv_if_eq (tgt := 102) hx hb dX1_isHeld_95 (by decide) (fun c22 => ?_) (fun c22 => ?_)
              · have hF := brT hF c22
                refine lv_iconst (v := (0 : Int32)) hx hb dX1_isHeld_102 (by decide) ?_
                exact wi_zret hx hb hr hlk hK hP hD hS dX1_isHeld_103 (by decide) ⟨hF, rfl⟩
              · have hF := brF hF c22
                refine lv_iconst (v := (1 : Int32)) hx hb dX1_isHeld_98 (by decide) ?_
                refine lv_goto (tgt := 103) hx hb dX1_isHeld_99 (by decide) ?_
                exact wi_zret hx hb hr hlk hK hP hD hS dX1_isHeld_103 (by decide) ⟨hF, rfl⟩
    · have hF := brF hF c4
      refine lv_iconst (v := (0 : Int32)) hx hb dX1_isHeld_20 (by decide) ?_
      exact wi_zret hx hb hr hlk hK hP hD hS dX1_isHeld_21 (by decide) ⟨hF, rfl⟩
def w_X1_kindOf (σ : St) (a2 : Int32) (post : Int32 → Prop) : Prop := rd (σ.1 10) 24 a2 (fun v1 => w_X1_isStill σ a2 (fun r2 => br (r2 = (0 : Int32)) (w_X1_isTwice σ a2 (fun r5 => br (r5 = (0 : Int32)) (w_X1_isHeld σ a2 v1 (fun r8 => br (r8 = (0 : Int32)) (w_X4_isBit σ v1 (fun r11 => br (r11 = (0 : Int32)) (post (4 : Int32)) (post (3 : Int32)))) (post (2 : Int32)))) (post (1 : Int32)))) (post (0 : Int32))))
set_option maxHeartbeats 4000000 in
set_option maxRecDepth 100000 in
theorem c_X1_kindOf (l : Launch) (D : va_G) (cy : Nat → ClassId) (ad : Nat → Nat) (tL : Nat) (σ : St) (a2 : Int32) (post : Int32 → Prop) (hF : w_X1_kindOf σ a2 post) : Cti l yX1_kindOf cX1_kindOf 3 (some .int) 5 110 D cy ad tL dsC σ [.ref (ad 1), .int a2] (fun r u => post r ∧ σ = u) := by
  refine cti_of (by decide) (Nat.le_of_ble_eq_true rfl) ?_
  intro p e s m args below meth c A hx hb hml hr hlk hg hown hA hK H locs hP hD hS hLB ls hl
  have hown : s.vm.findClass RX1 = some m.cls := hown
  have hl : lv_has ls 3 [(0, .ref (ad 1)), (1, .int a2)] := hl
  refine lv_aload_n hx hb dX1_kindOf_0 rfl (lv_at hl 0 rfl) ?_
  refine wi_getr hx hb hg hown hK hP 1 7 10 rfl rfl cb_4 (by decide) kw_45 dX1_kindOf_1 ?_
  refine lv_iload_n hx hb dX1_kindOf_4 rfl (lv_at hl 1 rfl) ?_
  obtain ⟨hin, hF⟩ := hF
  refine wi_iald hx hb hK hP 10 rfl hin dX1_kindOf_5 (fun v1 ev1 => ?_)
  have hF := hF v1 ev1
  refine lv_istore_n (lv' := [(2, .int v1), (0, .ref (ad 1)), (1, .int a2)]) hx hb dX1_kindOf_6 rfl hl (by decide) rfl (fun ls hl => ?_)
  refine lv_aload_n hx hb dX1_kindOf_7 rfl (lv_at hl 1 rfl) ?_
  refine lv_iload_n hx hb dX1_kindOf_8 rfl (lv_at hl 2 rfl) ?_
  refine wi_callSi (As := [.ref (ad 1), .int a2]) (c_X1_isStill l D cy ad tL σ a2 _ hF) sw_RX1_25 hx hb hml hown hg hK hP hD hS hA hLB rfl ⟨Nat.le_of_ble_eq_true rfl, Nat.le_of_ble_eq_true rfl⟩ hl.1 rfl (Nat.le_of_ble_eq_true rfl) dX1_kindOf_9 (fun r2 σ3 hw H locs hP hD hS => ?_)
  obtain ⟨hF, rfl⟩ := hw
  refine lv_if_eq (tgt := 17) hx hb dX1_kindOf_12 (by decide) (fun c4 => ?_) (fun c4 => ?_)
  · have hF := brT hF c4
    refine lv_aload_n hx hb dX1_kindOf_17 rfl (lv_at hl 1 rfl) ?_
    refine lv_iload_n hx hb dX1_kindOf_18 rfl (lv_at hl 2 rfl) ?_
    refine wi_callSi (As := [.ref (ad 1), .int a2]) (c_X1_isTwice l D cy ad tL σ a2 _ hF) sw_RX1_28 hx hb hml hown hg hK hP hD hS hA hLB rfl ⟨Nat.le_of_ble_eq_true rfl, Nat.le_of_ble_eq_true rfl⟩ hl.1 rfl (Nat.le_of_ble_eq_true rfl) dX1_kindOf_19 (fun r5 σ6 hw H locs hP hD hS => ?_)
    obtain ⟨hF, rfl⟩ := hw
    refine lv_if_eq (tgt := 27) hx hb dX1_kindOf_22 (by decide) (fun c7 => ?_) (fun c7 => ?_)
    · have hF := brT hF c7
      refine lv_aload_n hx hb dX1_kindOf_27 rfl (lv_at hl 1 rfl) ?_
      refine lv_iload_n hx hb dX1_kindOf_28 rfl (lv_at hl 2 rfl) ?_
      refine lv_iload_n hx hb dX1_kindOf_29 rfl (lv_at hl 0 rfl) ?_
      refine wi_callSi (As := [.ref (ad 1), .int a2, .int v1]) (c_X1_isHeld l D cy ad tL σ a2 v1 _ hF) sw_RX1_31 hx hb hml hown hg hK hP hD hS hA hLB rfl ⟨Nat.le_of_ble_eq_true rfl, Nat.le_of_ble_eq_true rfl⟩ hl.1 rfl (Nat.le_of_ble_eq_true rfl) dX1_kindOf_30 (fun r8 σ9 hw H locs hP hD hS => ?_)
      obtain ⟨hF, rfl⟩ := hw
      refine lv_if_eq (tgt := 38) hx hb dX1_kindOf_33 (by decide) (fun c10 => ?_) (fun c10 => ?_)
      · have hF := brT hF c10
        refine lv_aload_n hx hb dX1_kindOf_38 rfl (lv_at hl 1 rfl) ?_
        refine lv_iload_n hx hb dX1_kindOf_39 rfl (lv_at hl 0 rfl) ?_
        refine wi_callVi (k := 1) (As := [.int v1]) (c_X4_isBit l D cy ad tL σ v1 _ hF) vw_RX1_35 rfl cb_4 hx hb hml hown hg hK hP hD hS hA hLB rfl ⟨Nat.le_of_ble_eq_true rfl, Nat.le_of_ble_eq_true rfl⟩ hl.1 rfl (Nat.le_of_ble_eq_true rfl) dX1_kindOf_40 (fun r11 σ12 hw H locs hP hD hS => ?_)
        obtain ⟨hF, rfl⟩ := hw
        refine lv_if_eq (tgt := 50) hx hb dX1_kindOf_43 (by decide) (fun c13 => ?_) (fun c13 => ?_)
        · have hF := brT hF c13
          refine lv_iconst (v := (4 : Int32)) hx hb dX1_kindOf_50 (by decide) ?_
          exact wi_iret hx hb hr hlk hK hP hD hS dX1_kindOf_51 ⟨hF, rfl⟩
        · have hF := brF hF c13
          refine lv_iconst (v := (3 : Int32)) hx hb dX1_kindOf_46 (by decide) ?_
          refine lv_goto (tgt := 51) hx hb dX1_kindOf_47 (by decide) ?_
          exact wi_iret hx hb hr hlk hK hP hD hS dX1_kindOf_51 ⟨hF, rfl⟩
      · have hF := brF hF c10
        refine lv_iconst (v := (2 : Int32)) hx hb dX1_kindOf_36 (by decide) ?_
        exact wi_iret hx hb hr hlk hK hP hD hS dX1_kindOf_37 ⟨hF, rfl⟩
    · have hF := brF hF c7
      refine lv_iconst (v := (1 : Int32)) hx hb dX1_kindOf_25 (by decide) ?_
      exact wi_iret hx hb hr hlk hK hP hD hS dX1_kindOf_26 ⟨hF, rfl⟩
  · have hF := brF hF c4
    refine lv_iconst (v := (0 : Int32)) hx hb dX1_kindOf_15 (by decide) ?_
    exact wi_iret hx hb hr hlk hK hP hD hS dX1_kindOf_16 ⟨hF, rfl⟩
def w_X1_meets_L12 (a2 : Int32) (σ : St) (post : Int32 → Prop) (J4 : Prop) (rec6 : Int32 → Prop) (y5 : Int32) : Prop := br ((σ.1 1 0) ≤ y5) (J4) (br (y5 = a2) (nm (y5 + (1 : Int32)) (fun x9 => rec6 x9)) (w_X1_isTwice σ y5 (fun r10 => br (r10 = (0 : Int32)) (nm (y5 + (1 : Int32)) (fun x13 => rec6 x13)) (rd (σ.1 9) 24 y5 (fun v14 => rd (σ.1 9) 24 a2 (fun v15 => br (v14 = v15) (rd (σ.1 10) 24 y5 (fun v18 => rd (σ.1 10) 24 a2 (fun v19 => br (v18 = v19) (post (1 : Int32)) (nm (y5 + (1 : Int32)) (fun x21 => rec6 x21))))) (nm (y5 + (1 : Int32)) (fun x17 => rec6 x17))))))))
def w_X1_meets (σ : St) (a2 : Int32) (post : Int32 → Prop) : Prop := w_X1_isTwice σ a2 (fun r1 => br (r1 = (0 : Int32)) (post (0 : Int32)) (jn (α := Prop) (post (0 : Int32)) (fun J4 => lpE1 (w_X1_meets_L12 a2 σ post J4) (0 : Int32))))
set_option maxHeartbeats 4000000 in
set_option maxRecDepth 100000 in
theorem c_X1_meets (l : Launch) (D : va_G) (cy : Nat → ClassId) (ad : Nat → Nat) (tL : Nat) (σ : St) (a2 : Int32) (post : Int32 → Prop) (hF : w_X1_meets σ a2 post) : Cti l yX1_meets cX1_meets 3 (some .boolean) 4 86 D cy ad tL dsC σ [.ref (ad 1), .int a2] (fun r u => post r ∧ σ = u) := by
  refine cti_of (by decide) (Nat.le_of_ble_eq_true rfl) ?_
  intro p e s m args below meth c A hx hb hml hr hlk hg hown hA hK H locs hP hD hS hLB ls hl
  have hown : s.vm.findClass RX1 = some m.cls := hown
  have hl : lv_has ls 3 [(0, .ref (ad 1)), (1, .int a2)] := hl
  refine lv_aload_n hx hb dX1_meets_0 rfl (lv_at hl 0 rfl) ?_
  refine lv_iload_n hx hb dX1_meets_1 rfl (lv_at hl 1 rfl) ?_
  refine wi_callSi (As := [.ref (ad 1), .int a2]) (c_X1_isTwice l D cy ad tL σ a2 _ hF) sw_RX1_28 hx hb hml hown hg hK hP hD hS hA hLB rfl ⟨Nat.le_of_ble_eq_true rfl, Nat.le_of_ble_eq_true rfl⟩ hl.1 rfl (Nat.le_of_ble_eq_true rfl) dX1_meets_2 (fun r1 σ2 hw H locs hP hD hS => ?_)
  obtain ⟨hF, rfl⟩ := hw
  refine lv_if_ne (tgt := 10) hx hb dX1_meets_5 (by decide) (fun c3 => ?_) (fun c3 => ?_)
  · have hF := brF hF c3
    refine lv_iconst (v := (0 : Int32)) hx hb dX1_meets_10 (by decide) ?_
    refine lv_istore_n (lv' := [(2, .int (0 : Int32)), (0, .ref (ad 1)), (1, .int a2)]) hx hb dX1_meets_11 rfl hl (by decide) rfl (fun ls hl => ?_)
    refine jn_use hF (fun K => ∀ (H : Heap) (locs : List Loc) (ls : Array Slot), K → va_P D vwCl (wld cy ad dsC σ) H → va_D A (wld cy ad dsC σ) → va_S A s.heap H locs → lv_has ls 3 [] → W p l e (rmO 4 86) s m args below meth c H locs 0 0 (MQ below (va_Qi (fun r u => post r ∧ σ = u) (cBk D cy ad dsC A) A) args s 0 0 A) (F0 m 71 ls [])) (fun H locs ls hF hP hD hS hl => ?_) (fun J4 hJ4 hF => ?_)
    · refine lv_iconst (v := (0 : Int32)) hx hb dX1_meets_71 (by decide) ?_
      exact wi_zret hx hb hr hlk hK hP hD hS dX1_meets_72 (by decide) ⟨hF, rfl⟩
    · refine lpE1_use hF (fun (y5 : Int32) => ∀ (H : Heap) (locs : List Loc) (ls : Array Slot), va_P D vwCl (wld cy ad dsC σ) H → va_D A (wld cy ad dsC σ) → va_S A s.heap H locs → lv_has ls 3 [(0, .ref (ad 1)), (1, .int a2), (2, .int y5)] → W p l e (rmO 4 86) s m args below meth c H locs 0 0 (MQ below (va_Qi (fun r u => post r ∧ σ = u) (cBk D cy ad dsC A) A) args s 0 0 A) (F0 m 12 ls [])) (fun rec6 hrec6 y5 hF H locs ls hP hD hS hl => ?_) H locs ls hP hD hS (lv_sub hl [1, 2, 0] rfl)
      refine lv_iload_n hx hb dX1_meets_12 rfl (lv_at hl 2 rfl) ?_
      refine lv_aload_n hx hb dX1_meets_13 rfl (lv_at hl 0 rfl) ?_
      refine wi_geti hx hb hg hown hK hP 1 0 rfl rfl cb_4 (by decide) kw_36 dX1_meets_14 ?_
      refine lv_icmp_ge (tgt := 71) hx hb dX1_meets_17 (by decide) (fun c7 => ?_) (fun c7 => ?_)
      · have hF := brT hF c7
        exact hJ4  H locs ls hF hP hD hS (lv_sub hl [] rfl)
      · have hF := brF hF c7
        refine lv_iload_n hx hb dX1_meets_20 rfl (lv_at hl 2 rfl) ?_
        refine lv_iload_n hx hb dX1_meets_21 rfl (lv_at hl 1 rfl) ?_
        refine lv_icmp_eq (tgt := 65) hx hb dX1_meets_22 (by decide) (fun c8 => ?_) (fun c8 => ?_)
        · have hF := brT hF c8
          obtain ⟨x9, ex9⟩ : ∃ z : Int32, z = (y5 + (1 : Int32)) := ⟨_, rfl⟩
          have hF := hF x9 ex9
          refine lv_iinc (v := x9) (lv' := [(2, .int x9), (0, .ref (ad 1)), (1, .int a2)]) hx hb dX1_meets_65 hl (k := 2) rfl (by rw [ex9]; rfl) (by decide) rfl (fun ls hl => ?_)
          refine lv_goto (tgt := 12) hx hb dX1_meets_68 (by decide) ?_
          exact hrec6 x9 hF H locs ls hP hD hS (lv_sub hl [1, 2, 0] rfl)
        · have hF := brF hF c8
          refine lv_aload_n hx hb dX1_meets_25 rfl (lv_at hl 0 rfl) ?_
          refine lv_iload_n hx hb dX1_meets_26 rfl (lv_at hl 2 rfl) ?_
          refine wi_callSi (As := [.ref (ad 1), .int y5]) (c_X1_isTwice l D cy ad tL σ y5 _ hF) sw_RX1_28 hx hb hml hown hg hK hP hD hS hA hLB rfl ⟨Nat.le_of_ble_eq_true rfl, Nat.le_of_ble_eq_true rfl⟩ hl.1 rfl (Nat.le_of_ble_eq_true rfl) dX1_meets_27 (fun r10 σ11 hw H locs hP hD hS => ?_)
          obtain ⟨hF, rfl⟩ := hw
          refine lv_if_eq (tgt := 65) hx hb dX1_meets_30 (by decide) (fun c12 => ?_) (fun c12 => ?_)
          · have hF := brT hF c12
            obtain ⟨x13, ex13⟩ : ∃ z : Int32, z = (y5 + (1 : Int32)) := ⟨_, rfl⟩
            have hF := hF x13 ex13
            refine lv_iinc (v := x13) (lv' := [(2, .int x13), (0, .ref (ad 1)), (1, .int a2)]) hx hb dX1_meets_65 hl (k := 2) rfl (by rw [ex13]; rfl) (by decide) rfl (fun ls hl => ?_)
            refine lv_goto (tgt := 12) hx hb dX1_meets_68 (by decide) ?_
            exact hrec6 x13 hF H locs ls hP hD hS (lv_sub hl [1, 2, 0] rfl)
          · have hF := brF hF c12
            refine lv_aload_n hx hb dX1_meets_33 rfl (lv_at hl 0 rfl) ?_
            refine wi_getr hx hb hg hown hK hP 1 6 9 rfl rfl cb_4 (by decide) kw_48 dX1_meets_34 ?_
            refine lv_iload_n hx hb dX1_meets_37 rfl (lv_at hl 2 rfl) ?_
            obtain ⟨hin, hF⟩ := hF
            refine wi_iald hx hb hK hP 9 rfl hin dX1_meets_38 (fun v14 ev14 => ?_)
            have hF := hF v14 ev14
            refine lv_aload_n hx hb dX1_meets_39 rfl (lv_at hl 0 rfl) ?_
            refine wi_getr hx hb hg hown hK hP 1 6 9 rfl rfl cb_4 (by decide) kw_48 dX1_meets_40 ?_
            refine lv_iload_n hx hb dX1_meets_43 rfl (lv_at hl 1 rfl) ?_
            obtain ⟨hin, hF⟩ := hF
            refine wi_iald hx hb hK hP 9 rfl hin dX1_meets_44 (fun v15 ev15 => ?_)
            have hF := hF v15 ev15
            refine lv_icmp_ne (tgt := 65) hx hb dX1_meets_45 (by decide) (fun c16 => ?_) (fun c16 => ?_)
            · have hF := brF hF c16
              obtain ⟨x17, ex17⟩ : ∃ z : Int32, z = (y5 + (1 : Int32)) := ⟨_, rfl⟩
              have hF := hF x17 ex17
              refine lv_iinc (v := x17) (lv' := [(2, .int x17), (0, .ref (ad 1)), (1, .int a2)]) hx hb dX1_meets_65 hl (k := 2) rfl (by rw [ex17]; rfl) (by decide) rfl (fun ls hl => ?_)
              refine lv_goto (tgt := 12) hx hb dX1_meets_68 (by decide) ?_
              exact hrec6 x17 hF H locs ls hP hD hS (lv_sub hl [1, 2, 0] rfl)
            · have hF := brT hF c16
              refine lv_aload_n hx hb dX1_meets_48 rfl (lv_at hl 0 rfl) ?_
              refine wi_getr hx hb hg hown hK hP 1 7 10 rfl rfl cb_4 (by decide) kw_45 dX1_meets_49 ?_
              refine lv_iload_n hx hb dX1_meets_52 rfl (lv_at hl 2 rfl) ?_
              obtain ⟨hin, hF⟩ := hF
              refine wi_iald hx hb hK hP 10 rfl hin dX1_meets_53 (fun v18 ev18 => ?_)
              have hF := hF v18 ev18
              refine lv_aload_n hx hb dX1_meets_54 rfl (lv_at hl 0 rfl) ?_
              refine wi_getr hx hb hg hown hK hP 1 7 10 rfl rfl cb_4 (by decide) kw_45 dX1_meets_55 ?_
              refine lv_iload_n hx hb dX1_meets_58 rfl (lv_at hl 1 rfl) ?_
              obtain ⟨hin, hF⟩ := hF
              refine wi_iald hx hb hK hP 10 rfl hin dX1_meets_59 (fun v19 ev19 => ?_)
              have hF := hF v19 ev19
              refine lv_icmp_ne (tgt := 65) hx hb dX1_meets_60 (by decide) (fun c20 => ?_) (fun c20 => ?_)
              · have hF := brF hF c20
                obtain ⟨x21, ex21⟩ : ∃ z : Int32, z = (y5 + (1 : Int32)) := ⟨_, rfl⟩
                have hF := hF x21 ex21
                refine lv_iinc (v := x21) (lv' := [(2, .int x21), (0, .ref (ad 1)), (1, .int a2)]) hx hb dX1_meets_65 hl (k := 2) rfl (by rw [ex21]; rfl) (by decide) rfl (fun ls hl => ?_)
                refine lv_goto (tgt := 12) hx hb dX1_meets_68 (by decide) ?_
                exact hrec6 x21 hF H locs ls hP hD hS (lv_sub hl [1, 2, 0] rfl)
              · have hF := brT hF c20
                refine lv_iconst (v := (1 : Int32)) hx hb dX1_meets_63 (by decide) ?_
                exact wi_zret hx hb hr hlk hK hP hD hS dX1_meets_64 (by decide) ⟨hF, rfl⟩
  · have hF := brT hF c3
    refine lv_iconst (v := (0 : Int32)) hx hb dX1_meets_8 (by decide) ?_
    exact wi_zret hx hb hr hlk hK hP hD hS dX1_meets_9 (by decide) ⟨hF, rfl⟩
