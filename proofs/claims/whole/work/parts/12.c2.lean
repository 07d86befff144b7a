def w_X4_hasBothValues_L91 (x2 : Int32) (y5 : Int64) (x6 : Int32) (σ : St) (J7 : Int64 → Int64 → Prop) (rec15 : Int64 → Int64 → Int32 → Prop) (y12 : Int64) (y13 : Int64) (y14 : Int32) : Prop := br (x2 < y14) (J7 y12 y13) (br ((y14 &&& (x2 ^^^ (-1 : Int32))) = (0 : Int32)) (rd (σ.2 17) 384 (x6 + y14) (fun v19 => nm (y12 ||| (v19 &&& y5)) (fun x20 => nm (y13 ||| ((v19 ^^^ (-1 : Int64)) &&& y5)) (fun x21 => nm (y14 + (1 : Int32)) (fun x22 => rec15 x20 x21 x22))))) (nm (y14 + (1 : Int32)) (fun x18 => rec15 y12 y13 x18)))
def w_X4_hasBothValues_L28 (x1 : Int32) (J4 : Int64 → Prop) (rec25 : Int64 → Int32 → Prop) (y23 : Int64) (y24 : Int32) : Prop := br ((6 : Int32) ≤ y24) (J4 y23) (br (((x1 >>> (y24 &&& 31)) &&& (1 : Int32)) = (1 : Int32)) (nm (y23 ||| (y23 <<< ((((1 : Int32) <<< (y24 &&& 31)) : Int32).toInt64 &&& 63))) (fun x29 => nm (y24 + (1 : Int32)) (fun x30 => rec25 x29 x30))) (nm (y24 + (1 : Int32)) (fun x28 => rec25 y23 x28)))
def w_X4_hasBothValues (σ : St) (a1 : Int32) (a2 : Int32) (a3 : Int32) (post : Int32 → Prop) : Prop := nm (a3 &&& (63 : Int32)) (fun x1 => nm (a3 >>> ((6 : Int32) &&& 31)) (fun x2 => nm ((1 : Int64) <<< ((((a2 &&& (63 : Int32)) &&& (x1 ^^^ (-1 : Int32))) : Int32).toInt64 &&& 63)) (fun x3 => jn (α := Int64 → Prop) (fun (y5 : Int64) => nm ((a1 * (16 : Int32)) + ((a2 >>> ((6 : Int32) &&& 31)) &&& (x2 ^^^ (-1 : Int32)))) (fun x6 => jn (α := Int64 → Int64 → Prop) (fun (y8 : Int64) (y9 : Int64) => br ((lg_cmp y8 (0 : Int64)) = (0 : Int32)) (post (0 : Int32)) (br ((lg_cmp y9 (0 : Int64)) = (0 : Int32)) (post (0 : Int32)) (post (1 : Int32)))) (fun J7 => lpE3 (w_X4_hasBothValues_L91 x2 y5 x6 σ J7) (0 : Int64) (0 : Int64) (0 : Int32)))) (fun J4 => lpE2 (w_X4_hasBothValues_L28 x1 J4) x3 (0 : Int32)))))
set_option maxHeartbeats 4000000 in
set_option maxRecDepth 100000 in
theorem c_X4_hasBothValues (l : Launch) (D : va_G) (cy : Nat → ClassId) (ad : Nat → Nat) (tL : Nat) (σ : St) (a1 : Int32) (a2 : Int32) (a3 : Int32) (post : Int32 → Prop) (hF : w_X4_hasBothValues σ a1 a2 a3 post) : Cti l yX4_hasBothValues cX4_hasBothValues 16 (some .boolean) 0 0 D cy ad tL dsC σ [.ref (ad 1), .int a1, .int a2, .int a3] (fun r u => post r ∧ σ = u) := by
  refine cti_of (by decide) (Nat.le_of_ble_eq_true rfl) ?_
  intro p e s m args below meth c A hx hb hml hr hlk hg hown hA hK H locs hP hD hS hLB ls hl
  have hown : s.vm.findClass RX4 = some m.cls := hown
  have hl : lv_has ls 16 [(0, .ref (ad 1)), (1, .int a1), (2, .int a2), (3, .int a3)] := hl
  refine lv_iload_n hx hb dX4_hasBothValues_0 rfl (lv_at hl 3 rfl) ?_
  refine lv_bipush (v := (63 : Int32)) hx hb dX4_hasBothValues_1 (by decide) ?_
  refine lv_iand hx hb dX4_hasBothValues_3 ?_
  refine lv_topi (fun x1 ex1 => ?_)
  have hF := hF x1 ex1
  refine lv_istore (lv' := [(4, .int x1), (0, .ref (ad 1)), (1, .int a1), (2, .int a2), (3, .int a3)]) hx hb dX4_hasBothValues_4 hl (by decide) rfl (fun ls hl => ?_)
  refine lv_iload_n hx hb dX4_hasBothValues_6 rfl (lv_at hl 4 rfl) ?_
  refine lv_bipush (v := (6 : Int32)) hx hb dX4_hasBothValues_7 (by decide) ?_
  refine lv_ishr hx hb dX4_hasBothValues_9 ?_
  refine lv_topi (fun x2 ex2 => ?_)
  have hF := hF x2 ex2
  refine lv_istore (lv' := [(5, .int x2), (4, .int x1), (0, .ref (ad 1)), (1, .int a1), (2, .int a2), (3, .int a3)]) hx hb dX4_hasBothValues_10 hl (by decide) rfl (fun ls hl => ?_)
  refine lv_lconst (v := (1 : Int64)) hx hb dX4_hasBothValues_12 (by decide) ?_
  refine lv_iload_n hx hb dX4_hasBothValues_13 rfl (lv_at hl 4 rfl) ?_
  refine lv_bipush (v := (63 : Int32)) hx hb dX4_hasBothValues_14 (by decide) ?_
  refine lv_iand hx hb dX4_hasBothValues_16 ?_
  refine lv_iload hx hb dX4_hasBothValues_17 (lv_at hl 1 rfl) ?_
  refine lv_iconst (v := (-1 : Int32)) hx hb dX4_hasBothValues_19 (by decide) ?_
  refine lv_ixor hx hb dX4_hasBothValues_20 ?_
  refine lv_iand hx hb dX4_hasBothValues_21 ?_
  refine lv_lshl hx hb dX4_hasBothValues_22 rfl ?_
  refine lv_topl (fun x3 ex3 => ?_)
  have hF := hF x3 ex3
  refine lv_lstore (lv' := [(6, .long x3), (5, .int x2), (4, .int x1), (0, .ref (ad 1)), (1, .int a1), (2, .int a2), (3, .int a3)]) hx hb dX4_hasBothValues_23 hl (by decide) rfl (fun ls hl => ?_)
  refine lv_iconst (v := (0 : Int32)) hx hb dX4_hasBothValues_25 (by decide) ?_
  refine lv_istore (lv' := [(8, .int (0 : Int32)), (6, .long x3), (5, .int x2), (4, .int x1), (0, .ref (ad 1)), (1, .int a1), (2, .int a2), (3, .int a3)]) hx hb dX4_hasBothValues_26 hl (by decide) rfl (fun ls hl => ?_)
  refine jn_use hF (fun K => ∀ (y5 : Int64) (H : Heap) (locs : List Loc) (ls : Array Slot), K y5 → va_P D vwCl (wld cy ad dsC σ) H → va_D A (wld cy ad dsC σ) → va_S A s.heap H locs → lv_has ls 16 [(0, .ref (ad 1)), (1, .int a1), (2, .int a2), (5, .int x2), (6, .long y5)] → W p l e (rmO 0 0) s m args below meth c H locs 0 0 (MQ below (va_Qi (fun r u => post r ∧ σ = u) (cBk D cy ad dsC A) A) args s 0 0 A) (F0 m 66 ls [])) (fun y5 H locs ls hF hP hD hS hl => ?_) (fun J4 hJ4 hF => ?_)
  · refine lv_iload_n hx hb dX4_hasBothValues_66 rfl (lv_at hl 1 rfl) ?_
    refine lv_bipush (v := (16 : Int32)) hx hb dX4_hasBothValues_67 (by decide) ?_
    refine lv_imul hx hb dX4_hasBothValues_69 ?_
    refine lv_iload_n hx hb dX4_hasBothValues_70 rfl (lv_at hl 2 rfl) ?_
    refine lv_bipush (v := (6 : Int32)) hx hb dX4_hasBothValues_71 (by decide) ?_
    refine lv_ishr hx hb dX4_hasBothValues_73 ?_
    refine lv_iload hx hb dX4_hasBothValues_74 (lv_at hl 3 rfl) ?_
    refine lv_iconst (v := (-1 : Int32)) hx hb dX4_hasBothValues_76 (by decide) ?_
    refine lv_ixor hx hb dX4_hasBothValues_77 ?_
    refine lv_iand hx hb dX4_hasBothValues_78 ?_
    refine lv_iadd hx hb dX4_hasBothValues_79 ?_
    refine lv_topi (fun x6 ex6 => ?_)
    have hF := hF x6 ex6
    refine lv_istore (lv' := [(8, .int x6), (0, .ref (ad 1)), (1, .int a1), (2, .int a2), (5, .int x2), (6, .long y5)]) hx hb dX4_hasBothValues_80 hl (by decide) rfl (fun ls hl => ?_)
    refine lv_lconst (v := (0 : Int64)) hx hb dX4_hasBothValues_82 (by decide) ?_
    refine lv_lstore (lv' := [(9, .long (0 : Int64)), (8, .int x6), (0, .ref (ad 1)), (1, .int a1), (2, .int a2), (5, .int x2), (6, .long y5)]) hx hb dX4_hasBothValues_83 hl (by decide) rfl (fun ls hl => ?_)
    refine lv_lconst (v := (0 : Int64)) hx hb dX4_hasBothValues_85 (by decide) ?_
    refine lv_lstore (lv' := [(11, .long (0 : Int64)), (9, .long (0 : Int64)), (8, .int x6), (0, .ref (ad 1)), (1, .int a1), (2, .int a2), (5, .int x2), (6, .long y5)]) hx hb dX4_hasBothValues_86 hl (by decide) rfl (fun ls hl => ?_)
    refine lv_iconst (v := (0 : Int32)) hx hb dX4_hasBothValues_88 (by decide) ?_
    refine lv_istore (lv' := [(13, .int (0 : Int32)), (11, .long (0 : Int64)), (9, .long (0 : Int64)), (8, .int x6), (0, .ref (ad 1)), (1, .int a1), (2, .int a2), (5, .int x2), (6, .long y5)]) hx hb dX4_hasBothValues_89 hl (by decide) rfl (fun ls hl => ?_)
    refine jn_use hF (fun K => ∀ (y8 : Int64) (y9 : Int64) (H : Heap) (locs : List Loc) (ls : Array Slot), K y8 y9 → va_P D vwCl (wld cy ad dsC σ) H → va_D A (wld cy ad dsC σ) → va_S A s.heap H locs → lv_has ls 16 [(9, .long y8), (11, .long y9)] → W p l e (rmO 0 0) s m args below meth c H locs 0 0 (MQ below (va_Qi (fun r u => post r ∧ σ = u) (cBk D cy ad dsC A) A) args s 0 0 A) (F0 m 150 ls [])) (fun y8 y9 H locs ls hF hP hD hS hl => ?_) (fun J7 hJ7 hF => ?_)
    · refine lv_lload hx hb dX4_hasBothValues_150 (lv_at hl 0 rfl) ?_
      refine lv_lconst (v := (0 : Int64)) hx hb dX4_hasBothValues_152 (by decide) ?_
      refine W.lcmp hx hb dX4_hasBothValues_153 ?_
      refine lv_if_eq (tgt := 168) hx hb dX4_hasBothValues_154 (by decide) (fun c10 => ?_) (fun c10 => ?_)
      · have hF := brT hF c10
        refine lv_iconst (v := (0 : Int32)) hx hb dX4_hasBothValues_168 (by decide) ?_
        exact wi_zret hx hb hr hlk hK hP hD hS dX4_hasBothValues_169 (by decide) ⟨hF, rfl⟩
      · have hF := brF hF c10
        refine lv_lload hx hb dX4_hasBothValues_157 (lv_at hl 1 rfl) ?_
        refine lv_lconst (v := (0 : Int64)) hx hb dX4_hasBothValues_159 (by decide) ?_
        refine W.lcmp hx hb dX4_hasBothValues_160 ?_
        refine lv_if_eq (tgt := 168) hx hb dX4_hasBothValues_161 (by decide) (fun c11 => ?_) (fun c11 => ?_)
        · have hF := brT hF c11
          refine lv_iconst (v := (0 : Int32)) hx hb dX4_hasBothValues_168 (by decide) ?_
          exact wi_zret hx hb hr hlk hK hP hD hS dX4_hasBothValues_169 (by decide) ⟨hF, rfl⟩
        · have hF := brF hF c11
          refine lv_iconst (v := (1 : Int32)) hx hb dX4_hasBothValues_164 (by decide) ?_
          refine lv_goto (tgt := 169) hx hb dX4_hasBothValues_165 (by decide) ?_
          exact wi_zret hx hb hr hlk hK hP hD hS dX4_hasBothValues_169 (by decide) ⟨hF, rfl⟩
    · refine lpE3_use hF (fun (y12 : Int64) (y13 : Int64) (y14 : Int32) => ∀ (H : Heap) (locs : List Loc) (ls : Array Slot), va_P D vwCl (wld cy ad dsC σ) H → va_D A (wld cy ad dsC σ) → va_S A s.heap H locs → lv_has ls 16 [(0, .ref (ad 1)), (5, .int x2), (6, .long y5), (8, .int x6), (9, .long y12), (11, .long y13), (13, .int y14)] → W p l e (rmO 0 0) s m args below meth c H locs 0 0 (MQ below (va_Qi (fun r u => post r ∧ σ = u) (cBk D cy ad dsC A) A) args s 0 0 A) (F0 m 91 ls [])) (fun rec15 hrec15 y12 y13 y14 hF H locs ls hP hD hS hl => ?_) H locs ls hP hD hS (lv_sub hl [4, 7, 8, 3, 2, 1, 0] rfl)
      refine lv_iload hx hb dX4_hasBothValues_91 (lv_at hl 6 rfl) ?_
      refine lv_iload hx hb dX4_hasBothValues_93 (lv_at hl 1 rfl) ?_
      refine lv_icmp_gt (tgt := 150) hx hb dX4_hasBothValues_95 (by decide) (fun c16 => ?_) (fun c16 => ?_)
      · have hF := brT hF c16
        exact hJ7 y12 y13 H locs ls hF hP hD hS (lv_sub hl [4, 5] rfl)
      · have hF := brF hF c16
        refine lv_iload hx hb dX4_hasBothValues_98 (lv_at hl 6 rfl) ?_
        refine lv_iload hx hb dX4_hasBothValues_100 (lv_at hl 1 rfl) ?_
        refine lv_iconst (v := (-1 : Int32)) hx hb dX4_hasBothValues_102 (by decide) ?_
        refine lv_ixor hx hb dX4_hasBothValues_103 ?_
        refine lv_iand hx hb dX4_hasBothValues_104 ?_
        refine lv_if_ne (tgt := 144) hx hb dX4_hasBothValues_105 (by decide) (fun c17 => ?_) (fun c17 => ?_)
        · have hF := brF hF c17
          obtain ⟨x18, ex18⟩ : ∃ z : Int32, z = (y14 + (1 : Int32)) := ⟨_, rfl⟩
          have hF := hF x18 ex18
          refine lv_iinc (v := x18) (lv' := [(13, .int x18), (0, .ref (ad 1)), (5, .int x2), (6, .long y5), (8, .int x6), (9, .long y12), (11, .long y13)]) hx hb dX4_hasBothValues_144 hl (k := 6) rfl (by rw [ex18]; rfl) (by decide) rfl (fun ls hl => ?_)
          refine lv_goto (tgt := 91) hx hb dX4_hasBothValues_147 (by decide) ?_
          exact hrec15 y12 y13 x18 hF H locs ls hP hD hS (lv_sub hl [1, 2, 3, 4, 5, 6, 0] rfl)
        · have hF := brT hF c17
          refine lv_aload_n hx hb dX4_hasBothValues_108 rfl (lv_at hl 0 rfl) ?_
          refine wi_getr hx hb hg hown hK hP 1 14 17 rfl rfl cb_4 (by decide) kw_101 dX4_hasBothValues_109 ?_
          refine lv_iload hx hb dX4_hasBothValues_112 (lv_at hl 3 rfl) ?_
          refine lv_iload hx hb dX4_hasBothValues_114 (lv_at hl 6 rfl) ?_
          refine lv_iadd hx hb dX4_hasBothValues_116 ?_
          obtain ⟨hin, hF⟩ := hF
          refine wi_lald hx hb hK hP 17 rfl hin dX4_hasBothValues_117 (fun v19 ev19 => ?_)
          have hF := hF v19 ev19
          refine lv_lstore (lv' := [(14, .long v19), (0, .ref (ad 1)), (5, .int x2), (6, .long y5), (8, .int x6), (9, .long y12), (11, .long y13), (13, .int y14)]) hx hb dX4_hasBothValues_118 hl (by decide) rfl (fun ls hl => ?_)
          refine lv_lload hx hb dX4_hasBothValues_120 (lv_at hl 5 rfl) ?_
          refine lv_lload hx hb dX4_hasBothValues_122 (lv_at hl 0 rfl) ?_
          refine lv_lload hx hb dX4_hasBothValues_124 (lv_at hl 3 rfl) ?_
          refine lv_land hx hb dX4_hasBothValues_126 ?_
          refine lv_lor hx hb dX4_hasBothValues_127 ?_
          refine lv_topl (fun x20 ex20 => ?_)
          have hF := hF x20 ex20
          refine lv_lstore (lv' := [(9, .long x20), (14, .long v19), (0, .ref (ad 1)), (5, .int x2), (6, .long y5), (8, .int x6), (11, .long y13), (13, .int y14)]) hx hb dX4_hasBothValues_128 hl (by decide) rfl (fun ls hl => ?_)
          refine lv_lload hx hb dX4_hasBothValues_130 (lv_at hl 6 rfl) ?_
          refine lv_lload hx hb dX4_hasBothValues_132 (lv_at hl 1 rfl) ?_
          refine lv_ldc2 (v := (-1 : Int64)) hx hb hown (hg _ kw_106) dX4_hasBothValues_134 ?_
          refine lv_lxor hx hb dX4_hasBothValues_137 ?_
          refine lv_lload hx hb dX4_hasBothValues_138 (lv_at hl 4 rfl) ?_
          refine lv_land hx hb dX4_hasBothValues_140 ?_
          refine lv_lor hx hb dX4_hasBothValues_141 ?_
          refine lv_topl (fun x21 ex21 => ?_)
          have hF := hF x21 ex21
          refine lv_lstore (lv' := [(11, .long x21), (9, .long x20), (14, .long v19), (0, .ref (ad 1)), (5, .int x2), (6, .long y5), (8, .int x6), (13, .int y14)]) hx hb dX4_hasBothValues_142 hl (by decide) rfl (fun ls hl => ?_)
          obtain ⟨x22, ex22⟩ : ∃ z : Int32, z = (y14 + (1 : Int32)) := ⟨_, rfl⟩
          have hF := hF x22 ex22
          refine lv_iinc (v := x22) (lv' := [(13, .int x22), (11, .long x21), (9, .long x20), (14, .long v19), (0, .ref (ad 1)), (5, .int x2), (6, .long y5), (8, .int x6)]) hx hb dX4_hasBothValues_144 hl (k := 7) rfl (by rw [ex22]; rfl) (by decide) rfl (fun ls hl => ?_)
          refine lv_goto (tgt := 91) hx hb dX4_hasBothValues_147 (by decide) ?_
          exact hrec15 x20 x21 x22 hF H locs ls hP hD hS (lv_sub hl [4, 5, 6, 7, 2, 1, 0] rfl)
  · refine lpE2_use hF (fun (y23 : Int64) (y24 : Int32) => ∀ (H : Heap) (locs : List Loc) (ls : Array Slot), va_P D vwCl (wld cy ad dsC σ) H → va_D A (wld cy ad dsC σ) → va_S A s.heap H locs → lv_has ls 16 [(0, .ref (ad 1)), (1, .int a1), (2, .int a2), (4, .int x1), (5, .int x2), (6, .long y23), (8, .int y24)] → W p l e (rmO 0 0) s m args below meth c H locs 0 0 (MQ below (va_Qi (fun r u => post r ∧ σ = u) (cBk D cy ad dsC A) A) args s 0 0 A) (F0 m 28 ls [])) (fun rec25 hrec25 y23 y24 hF H locs ls hP hD hS hl => ?_) H locs ls hP hD hS (lv_sub hl [4, 5, 6, 3, 2, 1, 0] rfl)
    refine lv_iload hx hb dX4_hasBothValues_28 (lv_at hl 6 rfl) ?_
    refine va_gets hx hb hLB.1 hS hown (hg _ kw_105) (fun _ h9 => h9) dX4_hasBothValues_30 ?_
    refine va_tlen (v := 6) hx hb hLB.2 hS (by decide) dX4_hasBothValues_33 ?_
    refine lv_icmp_ge (tgt := 66) hx hb dX4_hasBothValues_34 (by decide) (fun c26 => ?_) (fun c26 => ?_)
    · have hF := brT hF c26
      exact hJ4 y23 H locs ls hF hP hD hS (lv_sub hl [0, 1, 2, 4, 5] rfl)
    · have hF := brF hF c26
      refine lv_iload hx hb dX4_hasBothValues_37 (lv_at hl 3 rfl) ?_
      refine lv_iload hx hb dX4_hasBothValues_39 (lv_at hl 6 rfl) ?_
      refine lv_ishr hx hb dX4_hasBothValues_41 ?_
      refine lv_iconst (v := (1 : Int32)) hx hb dX4_hasBothValues_42 (by decide) ?_
      refine lv_iand hx hb dX4_hasBothValues_43 ?_
      refine lv_iconst (v := (1 : Int32)) hx hb dX4_hasBothValues_44 (by decide) ?_
      refine lv_icmp_ne (tgt := 60) hx hb dX4_hasBothValues_45 (by decide) (fun c27 => ?_) (fun c27 => ?_)
      · have hF := brF hF c27
        obtain ⟨x28, ex28⟩ : ∃ z : Int32, z = (y24 + (1 : Int32)) := ⟨_, rfl⟩
        have hF := hF x28 ex28
        refine lv_iinc (v := x28) (lv' := [(8, .int x28), (0, .ref (ad 1)), (1, .int a1), (2, .int a2), (4, .int x1), (5, .int x2), (6, .long y23)]) hx hb dX4_hasBothValues_60 hl (k := 6) rfl (by rw [ex28]; rfl) (by decide) rfl (fun ls hl => ?_)
        refine lv_goto (tgt := 28) hx hb dX4_hasBothValues_63 (by decide) ?_
        exact hrec25 y23 x28 hF H locs ls hP hD hS (lv_sub hl [1, 2, 3, 4, 5, 6, 0] rfl)
      · have hF := brT hF c27
        refine lv_lload hx hb dX4_hasBothValues_48 (lv_at hl 5 rfl) ?_
        refine lv_lload hx hb dX4_hasBothValues_50 (lv_at hl 5 rfl) ?_
        refine lv_iconst (v := (1 : Int32)) hx hb dX4_hasBothValues_52 (by decide) ?_
        refine lv_iload hx hb dX4_hasBothValues_53 (lv_at hl 6 rfl) ?_
        refine lv_ishl hx hb dX4_hasBothValues_55 ?_
        refine lv_lshl hx hb dX4_hasBothValues_56 rfl ?_
        refine lv_lor hx hb dX4_hasBothValues_57 ?_
        refine lv_topl (fun x29 ex29 => ?_)
        have hF := hF x29 ex29
        refine lv_lstore (lv' := [(6, .long x29), (0, .ref (ad 1)), (1, .int a1), (2, .int a2), (4, .int x1), (5, .int x2), (8, .int y24)]) hx hb dX4_hasBothValues_58 hl (by decide) rfl (fun ls hl => ?_)
        obtain ⟨x30, ex30⟩ : ∃ z : Int32, z = (y24 + (1 : Int32)) := ⟨_, rfl⟩
        have hF := hF x30 ex30
        refine lv_iinc (v := x30) (lv' := [(8, .int x30), (6, .long x29), (0, .ref (ad 1)), (1, .int a1), (2, .int a2), (4, .int x1), (5, .int x2)]) hx hb dX4_hasBothValues_60 hl (k := 6) rfl (by rw [ex30]; rfl) (by decide) rfl (fun ls hl => ?_)
        refine lv_goto (tgt := 28) hx hb dX4_hasBothValues_63 (by decide) ?_
        exact hrec25 x29 x30 hF H locs ls hP hD hS (lv_sub hl [2, 3, 4, 5, 6, 1, 0] rfl)
def w_X4_bitsOfSet_L4 (a1 : Int32) (σ : St) (J1 : Int32 → Prop) (rec5 : Int32 → Int32 → Prop) (y3 : Int32) (y4 : Int32) : Prop := br ((4 : Int32) ≤ y4) (J1 y3) (br (((a1 >>> (y4 &&& 31)) &&& (1 : Int32)) = (1 : Int32)) (rd (σ.1 15) 4 y4 (fun v9 => nm (y3 ||| v9) (fun x10 => nm (y4 + (1 : Int32)) (fun x11 => rec5 x10 x11)))) (nm (y4 + (1 : Int32)) (fun x8 => rec5 y3 x8)))
def w_X4_bitsOfSet (σ : St) (a1 : Int32) (post : Int32 → Prop) : Prop := jn (α := Int32 → Prop) (fun (y2 : Int32) => post y2) (fun J1 => lpE2 (w_X4_bitsOfSet_L4 a1 σ J1) (0 : Int32) (0 : Int32))
set_option maxHeartbeats 4000000 in
set_option maxRecDepth 100000 in
theorem c_X4_bitsOfSet (l : Launch) (D : va_G) (cy : Nat → ClassId) (ad : Nat → Nat) (tL : Nat) (σ : St) (a1 : Int32) (post : Int32 → Prop) (hF : w_X4_bitsOfSet σ a1 post) : Cti l yX4_bitsOfSet cX4_bitsOfSet 4 (some .int) 0 0 D cy ad tL dsC σ [.ref (ad 1), .int a1] (fun r u => post r ∧ σ = u) := by
  refine cti_of (by decide) (Nat.le_of_ble_eq_true rfl) ?_
  intro p e s m args below meth c A hx hb hml hr hlk hg hown hA hK H locs hP hD hS hLB ls hl
  have hown : s.vm.findClass RX4 = some m.cls := hown
  have hl : lv_has ls 4 [(0, .ref (ad 1)), (1, .int a1)] := hl
  refine lv_iconst (v := (0 : Int32)) hx hb dX4_bitsOfSet_0 (by decide) ?_
  refine lv_istore_n (lv' := [(2, .int (0 : Int32)), (0, .ref (ad 1)), (1, .int a1)]) hx hb dX4_bitsOfSet_1 rfl hl (by decide) rfl (fun ls hl => ?_)
  refine lv_iconst (v := (0 : Int32)) hx hb dX4_bitsOfSet_2 (by decide) ?_
  refine lv_istore_n (lv' := [(3, .int (0 : Int32)), (2, .int (0 : Int32)), (0, .ref (ad 1)), (1, .int a1)]) hx hb dX4_bitsOfSet_3 rfl hl (by decide) rfl (fun ls hl => ?_)
  refine jn_use hF (fun K => ∀ (y2 : Int32) (H : Heap) (locs : List Loc) (ls : Array Slot), K y2 → va_P D vwCl (wld cy ad dsC σ) H → va_D A (wld cy ad dsC σ) → va_S A s.heap H locs → lv_has ls 4 [(2, .int y2)] → W p l e (rmO 0 0) s m args below meth c H locs 0 0 (MQ below (va_Qi (fun r u => post r ∧ σ = u) (cBk D cy ad dsC A) A) args s 0 0 A) (F0 m 33 ls [])) (fun y2 H locs ls hF hP hD hS hl => ?_) (fun J1 hJ1 hF => ?_)
  · refine lv_iload_n hx hb dX4_bitsOfSet_33 rfl (lv_at hl 0 rfl) ?_
    exact wi_iret hx hb hr hlk hK hP hD hS dX4_bitsOfSet_34 ⟨hF, rfl⟩
  · refine lpE2_use hF (fun (y3 : Int32) (y4 : Int32) => ∀ (H : Heap) (locs : List Loc) (ls : Array Slot), va_P D vwCl (wld cy ad dsC σ) H → va_D A (wld cy ad dsC σ) → va_S A s.heap H locs → lv_has ls 4 [(0, .ref (ad 1)), (1, .int a1), (2, .int y3), (3, .int y4)] → W p l e (rmO 0 0) s m args below meth c H locs 0 0 (MQ below (va_Qi (fun r u => post r ∧ σ = u) (cBk D cy ad dsC A) A) args s 0 0 A) (F0 m 4 ls [])) (fun rec5 hrec5 y3 y4 hF H locs ls hP hD hS hl => ?_) H locs ls hP hD hS (lv_sub hl [2, 3, 1, 0] rfl)
    refine lv_iload_n hx hb dX4_bitsOfSet_4 rfl (lv_at hl 3 rfl) ?_
    refine lv_iconst (v := (4 : Int32)) hx hb dX4_bitsOfSet_5 (by decide) ?_
    refine lv_icmp_ge (tgt := 33) hx hb dX4_bitsOfSet_6 (by decide) (fun c6 => ?_) (fun c6 => ?_)
    · have hF := brT hF c6
      exact hJ1 y3 H locs ls hF hP hD hS (lv_sub hl [2] rfl)
    · have hF := brF hF c6
      refine lv_iload_n hx hb dX4_bitsOfSet_9 rfl (lv_at hl 1 rfl) ?_
      refine lv_iload_n hx hb dX4_bitsOfSet_10 rfl (lv_at hl 3 rfl) ?_
      refine lv_ishr hx hb dX4_bitsOfSet_11 ?_
      refine lv_iconst (v := (1 : Int32)) hx hb dX4_bitsOfSet_12 (by decide) ?_
      refine lv_iand hx hb dX4_bitsOfSet_13 ?_
      refine lv_iconst (v := (1 : Int32)) hx hb dX4_bitsOfSet_14 (by decide) ?_
      refine lv_icmp_ne (tgt := 27) hx hb dX4_bitsOfSet_15 (by decide) (fun c7 => ?_) (fun c7 => ?_)
      · have hF := brF hF c7
        obtain ⟨x8, ex8⟩ : ∃ z : Int32, z = (y4 + (1 : Int32)) := ⟨_, rfl⟩
        have hF := hF x8 ex8
        refine lv_iinc (v := x8) (lv' := [(3, .int x8), (0, .ref (ad 1)), (1, .int a1), (2, .int y3)]) hx hb dX4_bitsOfSet_27 hl (k := 3) rfl (by rw [ex8]; rfl) (by decide) rfl (fun ls hl => ?_)
        refine lv_goto (tgt := 4) hx hb dX4_bitsOfSet_30 (by decide) ?_
        exact hrec5 y3 x8 hF H locs ls hP hD hS (lv_sub hl [1, 2, 3, 0] rfl)
      · have hF := brT hF c7
        refine lv_iload_n hx hb dX4_bitsOfSet_18 rfl (lv_at hl 2 rfl) ?_
        refine lv_aload_n hx hb dX4_bitsOfSet_19 rfl (lv_at hl 0 rfl) ?_
        refine wi_getr hx hb hg hown hK hP 1 12 15 rfl rfl cb_4 (by decide) kw_26 dX4_bitsOfSet_20 ?_
        refine lv_iload_n hx hb dX4_bitsOfSet_23 rfl (lv_at hl 3 rfl) ?_
        obtain ⟨hin, hF⟩ := hF
        refine wi_iald hx hb hK hP 15 rfl hin dX4_bitsOfSet_24 (fun v9 ev9 => ?_)
        have hF := hF v9 ev9
        refine lv_ior hx hb dX4_bitsOfSet_25 ?_
        refine lv_topi (fun x10 ex10 => ?_)
        have hF := hF x10 ex10
        refine lv_istore_n (lv' := [(2, .int x10), (0, .ref (ad 1)), (1, .int a1), (3, .int y4)]) hx hb dX4_bitsOfSet_26 rfl hl (by decide) rfl (fun ls hl => ?_)
        obtain ⟨x11, ex11⟩ : ∃ z : Int32, z = (y4 + (1 : Int32)) := ⟨_, rfl⟩
        have hF := hF x11 ex11
        refine lv_iinc (v := x11) (lv' := [(3, .int x11), (2, .int x10), (0, .ref (ad 1)), (1, .int a1)]) hx hb dX4_bitsOfSet_27 hl (k := 3) rfl (by rw [ex11]; rfl) (by decide) rfl (fun ls hl => ?_)
        refine lv_goto (tgt := 4) hx hb dX4_bitsOfSet_30 (by decide) ?_
        exact hrec5 x10 x11 hF H locs ls hP hD hS (lv_sub hl [2, 3, 1, 0] rfl)
def w_X4_clocksInUse_L4 (σ : St) (J1 : Int32 → Prop) (rec5 : Int32 → Int32 → Prop) (y3 : Int32) (y4 : Int32) : Prop := br ((4 : Int32) ≤ y4) (J1 y3) (rd (σ.1 15) 4 y4 (fun v7 => jn (α := Int32 → Prop) (fun (y9 : Int32) => nm (y3 ||| y9) (fun x10 => nm (y4 + (1 : Int32)) (fun x11 => rec5 x10 x11))) (fun J8 => br (v7 = (0 : Int32)) (J8 (0 : Int32)) (J8 ((1 : Int32) <<< (y4 &&& 31))))))
def w_X4_clocksInUse (σ : St) (post : Int32 → Prop) : Prop := jn (α := Int32 → Prop) (fun (y2 : Int32) => post y2) (fun J1 => lpE2 (w_X4_clocksInUse_L4 σ J1) (0 : Int32) (0 : Int32))
set_option maxHeartbeats 4000000 in
set_option maxRecDepth 100000 in
theorem c_X4_clocksInUse (l : Launch) (D : va_G) (cy : Nat → ClassId) (ad : Nat → Nat) (tL : Nat) (σ : St) (post : Int32 → Prop) (hF : w_X4_clocksInUse σ post) : Cti l yX4_clocksInUse cX4_clocksInUse 3 (some .int) 0 0 D cy ad tL dsC σ [.ref (ad 1)] (fun r u => post r ∧ σ = u) := by
  refine cti_of (by decide) (Nat.le_of_ble_eq_true rfl) ?_
  intro p e s m args below meth c A hx hb hml hr hlk hg hown hA hK H locs hP hD hS hLB ls hl
  have hown : s.vm.findClass RX4 = some m.cls := hown
  have hl : lv_has ls 3 [(0, .ref (ad 1))] := hl
  refine lv_iconst (v := (0 : Int32)) hx hb dX4_clocksInUse_0 (by decide) ?_
  refine lv_istore_n (lv' := [(1, .int (0 : Int32)), (0, .ref (ad 1))]) hx hb dX4_clocksInUse_1 rfl hl (by decide) rfl (fun ls hl => ?_)
  refine lv_iconst (v := (0 : Int32)) hx hb dX4_clocksInUse_2 (by decide) ?_
  refine lv_istore_n (lv' := [(2, .int (0 : Int32)), (1, .int (0 : Int32)), (0, .ref (ad 1))]) hx hb dX4_clocksInUse_3 rfl hl (by decide) rfl (fun ls hl => ?_)
  refine jn_use hF (fun K => ∀ (y2 : Int32) (H : Heap) (locs : List Loc) (ls : Array Slot), K y2 → va_P D vwCl (wld cy ad dsC σ) H → va_D A (wld cy ad dsC σ) → va_S A s.heap H locs → lv_has ls 3 [(1, .int y2)] → W p l e (rmO 0 0) s m args below meth c H locs 0 0 (MQ below (va_Qi (fun r u => post r ∧ σ = u) (cBk D cy ad dsC A) A) args s 0 0 A) (F0 m 34 ls [])) (fun y2 H locs ls hF hP hD hS hl => ?_) (fun J1 hJ1 hF => ?_)
  · refine lv_iload_n hx hb dX4_clocksInUse_34 rfl (lv_at hl 0 rfl) ?_
    exact wi_iret hx hb hr hlk hK hP hD hS dX4_clocksInUse_35 ⟨hF, rfl⟩
  · refine lpE2_use hF (fun (y3 : Int32) (y4 : Int32) => ∀ (H : Heap) (locs : List Loc) (ls : Array Slot), va_P D vwCl (wld cy ad dsC σ) H → va_D A (wld cy ad dsC σ) → va_S A s.heap H locs → lv_has ls 3 [(0, .ref (ad 1)), (1, .int y3), (2, .int y4)] → W p l e (rmO 0 0) s m args below meth c H locs 0 0 (MQ below (va_Qi (fun r u => post r ∧ σ = u) (cBk D cy ad dsC A) A) args s 0 0 A) (F0 m 4 ls [])) (fun rec5 hrec5 y3 y4 hF H locs ls hP hD hS hl => ?_) H locs ls hP hD hS (lv_sub hl [2, 1, 0] rfl)
    refine lv_iload_n hx hb dX4_clocksInUse_4 rfl (lv_at hl 2 rfl) ?_
    refine lv_iconst (v := (4 : Int32)) hx hb dX4_clocksInUse_5 (by decide) ?_
    refine lv_icmp_ge (tgt := 34) hx hb dX4_clocksInUse_6 (by decide) (fun c6 => ?_) (fun c6 => ?_)
    · have hF := brT hF c6
      exact hJ1 y3 H locs ls hF hP hD hS (lv_sub hl [1] rfl)
    · have hF := brF hF c6
      refine lv_iload_n hx hb dX4_clocksInUse_9 rfl (lv_at hl 1 rfl) ?_
      refine lv_aload_n hx hb dX4_clocksInUse_10 rfl (lv_at hl 0 rfl) ?_
      refine wi_getr hx hb hg hown hK hP 1 12 15 rfl rfl cb_4 (by decide) kw_26 dX4_clocksInUse_11 ?_
      refine lv_iload_n hx hb dX4_clocksInUse_14 rfl (lv_at hl 2 rfl) ?_
      obtain ⟨hin, hF⟩ := hF
      refine wi_iald hx hb hK hP 15 rfl hin dX4_clocksInUse_15 (fun v7 ev7 => ?_)
      have hF := hF v7 ev7
      refine jn_use hF (fun K => ∀ (y9 : Int32) (H : Heap) (locs : List Loc) (ls : Array Slot), K y9 → va_P D vwCl (wld cy ad dsC σ) H → va_D A (wld cy ad dsC σ) → va_S A s.heap H locs → lv_has ls 3 [(0, .ref (ad 1)), (2, .int y4)] → W p l e (rmO 0 0) s m args below meth c H locs 0 0 (MQ below (va_Qi (fun r u => post r ∧ σ = u) (cBk D cy ad dsC A) A) args s 0 0 A) (F0 m 26 ls [.int y9, .int y3])) (fun y9 H locs ls hF hP hD hS hl => ?_) (fun J8 hJ8 hF => ?_)
      · refine lv_ior hx hb dX4_clocksInUse_26 ?_
        refine lv_topi (fun x10 ex10 => ?_)
        have hF := hF x10 ex10
        refine lv_istore_n (lv' := [(1, .int x10), (0, .ref (ad 1)), (2, .int y4)]) hx hb dX4_clocksInUse_27 rfl hl (by decide) rfl (fun ls hl => ?_)
        obtain ⟨x11, ex11⟩ : ∃ z : Int32, z = (y4 + (1 : Int32)) := ⟨_, rfl⟩
        have hF := hF x11 ex11
        refine lv_iinc (v := x11) (lv' := [(2, .int x11), (1, .int x10), (0, .ref (ad 1))]) hx hb dX4_clocksInUse_28 hl (k := 2) rfl (by rw [ex11]; rfl) (by decide) rfl (fun ls hl => ?_)
        refine lv_goto (tgt := 4) hx hb dX4_clocksInUse_31 (by decide) ?_
        exact hrec5 x10 x11 hF H locs ls hP hD hS (lv_sub hl [2, 1, 0] rfl)
      · refine lv_if_eq (tgt := 25) hx hb dX4_clocksInUse_16 (by decide) (fun c12 => ?_) (fun c12 => ?_)
        · have hF := brT hF c12
          refine lv_iconst (v := (0 : Int32)) hx hb dX4_clocksInUse_25 (by decide) ?_
          exact hJ8 (0 : Int32) H locs ls hF hP hD hS (lv_sub hl [0, 2] rfl)
        · have hF := brF hF c12
          refine lv_iconst (v := (1 : Int32)) hx hb dX4_clocksInUse_19 (by decide) ?_
          refine lv_iload_n hx hb dX4_clocksInUse_20 rfl (lv_at hl 2 rfl) ?_
          refine lv_ishl hx hb dX4_clocksInUse_21 ?_
          refine lv_goto (tgt := 26) hx hb dX4_clocksInUse_22 (by decide) ?_
          exact hJ8 ((1 : Int32) <<< (y4 &&& 31)) H locs ls hF hP hD hS (lv_sub hl [0, 2] rfl)
def w_X4_bitsBetween_L5 (a1 : Int32) (a2 : Int32) (σ : St) (J1 : Int32 → Prop) (rec5 : Int32 → Int32 → Prop) (y3 : Int32) (y4 : Int32) : Prop := br ((σ.1 1 1) ≤ y4) (J1 y3) (rd (σ.1 14) 10 y4 (fun v7 => br (v7 < a1) (nm (y4 + (1 : Int32)) (fun x9 => rec5 y3 x9)) (rd (σ.1 14) 10 y4 (fun v10 => br (a2 < v10) (nm (y4 + (1 : Int32)) (fun x12 => rec5 y3 x12)) (nm (y3 ||| ((1 : Int32) <<< (y4 &&& 31))) (fun x13 => nm (y4 + (1 : Int32)) (fun x14 => rec5 x13 x14)))))))
def w_X4_bitsBetween (σ : St) (a1 : Int32) (a2 : Int32) (post : Int32 → Prop) : Prop := jn (α := Int32 → Prop) (fun (y2 : Int32) => post y2) (fun J1 => lpE2 (w_X4_bitsBetween_L5 a1 a2 σ J1) (0 : Int32) (0 : Int32))
set_option maxHeartbeats 4000000 in
set_option maxRecDepth 100000 in
theorem c_X4_bitsBetween (l : Launch) (D : va_G) (cy : Nat → ClassId) (ad : Nat → Nat) (tL : Nat) (σ : St) (a1 : Int32) (a2 : Int32) (post : Int32 → Prop) (hF : w_X4_bitsBetween σ a1 a2 post) : Cti l yX4_bitsBetween cX4_bitsBetween 5 (some .int) 0 0 D cy ad tL dsC σ [.ref (ad 1), .int a1, .int a2] (fun r u => post r ∧ σ = u) := by
  refine cti_of (by decide) (Nat.le_of_ble_eq_true rfl) ?_
  intro p e s m args below meth c A hx hb hml hr hlk hg hown hA hK H locs hP hD hS hLB ls hl
  have hown : s.vm.findClass RX4 = some m.cls := hown
  have hl : lv_has ls 5 [(0, .ref (ad 1)), (1, .int a1), (2, .int a2)] := hl
  refine lv_iconst (v := (0 : Int32)) hx hb dX4_bitsBetween_0 (by decide) ?_
  refine lv_istore_n (lv' := [(3, .int (0 : Int32)), (0, .ref (ad 1)), (1, .int a1), (2, .int a2)]) hx hb dX4_bitsBetween_1 rfl hl (by decide) rfl (fun ls hl => ?_)
  refine lv_iconst (v := (0 : Int32)) hx hb dX4_bitsBetween_2 (by decide) ?_
  refine lv_istore (lv' := [(4, .int (0 : Int32)), (3, .int (0 : Int32)), (0, .ref (ad 1)), (1, .int a1), (2, .int a2)]) hx hb dX4_bitsBetween_3 hl (by decide) rfl (fun ls hl => ?_)
  refine jn_use hF (fun K => ∀ (y2 : Int32) (H : Heap) (locs : List Loc) (ls : Array Slot), K y2 → va_P D vwCl (wld cy ad dsC σ) H → va_D A (wld cy ad dsC σ) → va_S A s.heap H locs → lv_has ls 5 [(3, .int y2)] → W p l e (rmO 0 0) s m args below meth c H locs 0 0 (MQ below (va_Qi (fun r u => post r ∧ σ = u) (cBk D cy ad dsC A) A) args s 0 0 A) (F0 m 49 ls [])) (fun y2 H locs ls hF hP hD hS hl => ?_) (fun J1 hJ1 hF => ?_)
  · refine lv_iload_n hx hb dX4_bitsBetween_49 rfl (lv_at hl 0 rfl) ?_
    exact wi_iret hx hb hr hlk hK hP hD hS dX4_bitsBetween_50 ⟨hF, rfl⟩
  · refine lpE2_use hF (fun (y3 : Int32) (y4 : Int32) => ∀ (H : Heap) (locs : List Loc) (ls : Array Slot), va_P D vwCl (wld cy ad dsC σ) H → va_D A (wld cy ad dsC σ) → va_S A s.heap H locs → lv_has ls 5 [(0, .ref (ad 1)), (1, .int a1), (2, .int a2), (3, .int y3), (4, .int y4)] → W p l e (rmO 0 0) s m args below meth c H locs 0 0 (MQ below (va_Qi (fun r u => post r ∧ σ = u) (cBk D cy ad dsC A) A) args s 0 0 A) (F0 m 5 ls [])) (fun rec5 hrec5 y3 y4 hF H locs ls hP hD hS hl => ?_) H locs ls hP hD hS (lv_sub hl [2, 3, 4, 1, 0] rfl)
    refine lv_iload hx hb dX4_bitsBetween_5 (lv_at hl 4 rfl) ?_
    refine lv_aload_n hx hb dX4_bitsBetween_7 rfl (lv_at hl 0 rfl) ?_
    refine wi_geti hx hb hg hown hK hP 1 1 rfl rfl cb_4 (by decide) kw_92 dX4_bitsBetween_8 ?_
    refine lv_icmp_ge (tgt := 49) hx hb dX4_bitsBetween_11 (by decide) (fun c6 => ?_) (fun c6 => ?_)
    · have hF := brT hF c6
      exact hJ1 y3 H locs ls hF hP hD hS (lv_sub hl [3] rfl)
    · have hF := brF hF c6
      refine lv_aload_n hx hb dX4_bitsBetween_14 rfl (lv_at hl 0 rfl) ?_
      refine wi_getr hx hb hg hown hK hP 1 11 14 rfl rfl cb_4 (by decide) kw_99 dX4_bitsBetween_15 ?_
      refine lv_iload hx hb dX4_bitsBetween_18 (lv_at hl 4 rfl) ?_
      obtain ⟨hin, hF⟩ := hF
      refine wi_iald hx hb hK hP 14 rfl hin dX4_bitsBetween_20 (fun v7 ev7 => ?_)
      have hF := hF v7 ev7
      refine lv_iload_n hx hb dX4_bitsBetween_21 rfl (lv_at hl 1 rfl) ?_
      refine lv_icmp_lt (tgt := 43) hx hb dX4_bitsBetween_22 (by decide) (fun c8 => ?_) (fun c8 => ?_)
      · have hF := brT hF c8
        obtain ⟨x9, ex9⟩ : ∃ z : Int32, z = (y4 + (1 : Int32)) := ⟨_, rfl⟩
        have hF := hF x9 ex9
        refine lv_iinc (v := x9) (lv' := [(4, .int x9), (0, .ref (ad 1)), (1, .int a1), (2, .int a2), (3, .int y3)]) hx hb dX4_bitsBetween_43 hl (k := 4) rfl (by rw [ex9]; rfl) (by decide) rfl (fun ls hl => ?_)
        refine lv_goto (tgt := 5) hx hb dX4_bitsBetween_46 (by decide) ?_
        exact hrec5 y3 x9 hF H locs ls hP hD hS (lv_sub hl [1, 2, 3, 4, 0] rfl)
      · have hF := brF hF c8
        refine lv_aload_n hx hb dX4_bitsBetween_25 rfl (lv_at hl 0 rfl) ?_
        refine wi_getr hx hb hg hown hK hP 1 11 14 rfl rfl cb_4 (by decide) kw_99 dX4_bitsBetween_26 ?_
        refine lv_iload hx hb dX4_bitsBetween_29 (lv_at hl 4 rfl) ?_
        obtain ⟨hin, hF⟩ := hF
        refine wi_iald hx hb hK hP 14 rfl hin dX4_bitsBetween_31 (fun v10 ev10 => ?_)
        have hF := hF v10 ev10
        refine lv_iload_n hx hb dX4_bitsBetween_32 rfl (lv_at hl 2 rfl) ?_
        refine lv_icmp_gt (tgt := 43) hx hb dX4_bitsBetween_33 (by decide) (fun c11 => ?_) (fun c11 => ?_)
        · have hF := brT hF c11
          obtain ⟨x12, ex12⟩ : ∃ z : Int32, z = (y4 + (1 : Int32)) := ⟨_, rfl⟩
          have hF := hF x12 ex12
          refine lv_iinc (v := x12) (lv' := [(4, .int x12), (0, .ref (ad 1)), (1, .int a1), (2, .int a2), (3, .int y3)]) hx hb dX4_bitsBetween_43 hl (k := 4) rfl (by rw [ex12]; rfl) (by decide) rfl (fun ls hl => ?_)
          refine lv_goto (tgt := 5) hx hb dX4_bitsBetween_46 (by decide) ?_
          exact hrec5 y3 x12 hF H locs ls hP hD hS (lv_sub hl [1, 2, 3, 4, 0] rfl)
        · have hF := brF hF c11
          refine lv_iload_n hx hb dX4_bitsBetween_36 rfl (lv_at hl 3 rfl) ?_
          refine lv_iconst (v := (1 : Int32)) hx hb dX4_bitsBetween_37 (by decide) ?_
          refine lv_iload hx hb dX4_bitsBetween_38 (lv_at hl 4 rfl) ?_
          refine lv_ishl hx hb dX4_bitsBetween_40 ?_
          refine lv_ior hx hb dX4_bitsBetween_41 ?_
          refine lv_topi (fun x13 ex13 => ?_)
          have hF := hF x13 ex13
          refine lv_istore_n (lv' := [(3, .int x13), (0, .ref (ad 1)), (1, .int a1), (2, .int a2), (4, .int y4)]) hx hb dX4_bitsBetween_42 rfl hl (by decide) rfl (fun ls hl => ?_)
          obtain ⟨x14, ex14⟩ : ∃ z : Int32, z = (y4 + (1 : Int32)) := ⟨_, rfl⟩
          have hF := hF x14 ex14
          refine lv_iinc (v := x14) (lv' := [(4, .int x14), (3, .int x13), (0, .ref (ad 1)), (1, .int a1), (2, .int a2)]) hx hb dX4_bitsBetween_43 hl (k := 4) rfl (by rw [ex14]; rfl) (by decide) rfl (fun ls hl => ?_)
          refine lv_goto (tgt := 5) hx hb dX4_bitsBetween_46 (by decide) ?_
          exact hrec5 x13 x14 hF H locs ls hP hD hS (lv_sub hl [2, 3, 4, 1, 0] rfl)
def w_X4_asCells_L4 (a1 : Int32) (σ : St) (J1 : Int32 → Prop) (rec5 : Int32 → Int32 → Prop) (y3 : Int32) (y4 : Int32) : Prop := br ((σ.1 1 1) ≤ y4) (J1 y3) (rd (σ.1 14) 10 y4 (fun v7 => nm (y3 ||| (((a1 >>> (y4 &&& 31)) &&& (1 : Int32)) <<< (v7 &&& 31))) (fun x8 => nm (y4 + (1 : Int32)) (fun x9 => rec5 x8 x9))))
def w_X4_asCells (σ : St) (a1 : Int32) (post : Int32 → Prop) : Prop := jn (α := Int32 → Prop) (fun (y2 : Int32) => post y2) (fun J1 => lpE2 (w_X4_asCells_L4 a1 σ J1) (0 : Int32) (0 : Int32))
set_option maxHeartbeats 4000000 in
set_option maxRecDepth 100000 in
theorem c_X4_asCells (l : Launch) (D : va_G) (cy : Nat → ClassId) (ad : Nat → Nat) (tL : Nat) (σ : St) (a1 : Int32) (post : Int32 → Prop) (hF : w_X4_asCells σ a1 post) : Cti l yX4_asCells cX4_asCells 4 (some .int) 0 0 D cy ad tL dsC σ [.ref (ad 1), .int a1] (fun r u => post r ∧ σ = u) := by
  refine cti_of (by decide) (Nat.le_of_ble_eq_true rfl) ?_
  intro p e s m args below meth c A hx hb hml hr hlk hg hown hA hK H locs hP hD hS hLB ls hl
  have hown : s.vm.findClass RX4 = some m.cls := hown
  have hl : lv_has ls 4 [(0, .ref (ad 1)), (1, .int a1)] := hl
  refine lv_iconst (v := (0 : Int32)) hx hb dX4_asCells_0 (by decide) ?_
  refine lv_istore_n (lv' := [(2, .int (0 : Int32)), (0, .ref (ad 1)), (1, .int a1)]) hx hb dX4_asCells_1 rfl hl (by decide) rfl (fun ls hl => ?_)
  refine lv_iconst (v := (0 : Int32)) hx hb dX4_asCells_2 (by decide) ?_
  refine lv_istore_n (lv' := [(3, .int (0 : Int32)), (2, .int (0 : Int32)), (0, .ref (ad 1)), (1, .int a1)]) hx hb dX4_asCells_3 rfl hl (by decide) rfl (fun ls hl => ?_)
  refine jn_use hF (fun K => ∀ (y2 : Int32) (H : Heap) (locs : List Loc) (ls : Array Slot), K y2 → va_P D vwCl (wld cy ad dsC σ) H → va_D A (wld cy ad dsC σ) → va_S A s.heap H locs → lv_has ls 4 [(2, .int y2)] → W p l e (rmO 0 0) s m args below meth c H locs 0 0 (MQ below (va_Qi (fun r u => post r ∧ σ = u) (cBk D cy ad dsC A) A) args s 0 0 A) (F0 m 33 ls [])) (fun y2 H locs ls hF hP hD hS hl => ?_) (fun J1 hJ1 hF => ?_)
  · refine lv_iload_n hx hb dX4_asCells_33 rfl (lv_at hl 0 rfl) ?_
    exact wi_iret hx hb hr hlk hK hP hD hS dX4_asCells_34 ⟨hF, rfl⟩
  · refine lpE2_use hF (fun (y3 : Int32) (y4 : Int32) => ∀ (H : Heap) (locs : List Loc) (ls : Array Slot), va_P D vwCl (wld cy ad dsC σ) H → va_D A (wld cy ad dsC σ) → va_S A s.heap H locs → lv_has ls 4 [(0, .ref (ad 1)), (1, .int a1), (2, .int y3), (3, .int y4)] → W p l e (rmO 0 0) s m args below meth c H locs 0 0 (MQ below (va_Qi (fun r u => post r ∧ σ = u) (cBk D cy ad dsC A) A) args s 0 0 A) (F0 m 4 ls [])) (fun rec5 hrec5 y3 y4 hF H locs ls hP hD hS hl => ?_) H locs ls hP hD hS (lv_sub hl [2, 3, 1, 0] rfl)
    refine lv_iload_n hx hb dX4_asCells_4 rfl (lv_at hl 3 rfl) ?_
    refine lv_aload_n hx hb dX4_asCells_5 rfl (lv_at hl 0 rfl) ?_
    refine wi_geti hx hb hg hown hK hP 1 1 rfl rfl cb_4 (by decide) kw_92 dX4_asCells_6 ?_
    refine lv_icmp_ge (tgt := 33) hx hb dX4_asCells_9 (by decide) (fun c6 => ?_) (fun c6 => ?_)
    · have hF := brT hF c6
      exact hJ1 y3 H locs ls hF hP hD hS (lv_sub hl [2] rfl)
    · have hF := brF hF c6
      refine lv_iload_n hx hb dX4_asCells_12 rfl (lv_at hl 2 rfl) ?_
      refine lv_iload_n hx hb dX4_asCells_13 rfl (lv_at hl 1 rfl) ?_
      refine lv_iload_n hx hb dX4_asCells_14 rfl (lv_at hl 3 rfl) ?_
      refine lv_ishr hx hb dX4_asCells_15 ?_
      refine lv_iconst (v := (1 : Int32)) hx hb dX4_asCells_16 (by decide) ?_
      refine lv_iand hx hb dX4_asCells_17 ?_
      refine lv_aload_n hx hb dX4_asCells_18 rfl (lv_at hl 0 rfl) ?_
      refine wi_getr hx hb hg hown hK hP 1 11 14 rfl rfl cb_4 (by decide) kw_99 dX4_asCells_19 ?_
      refine lv_iload_n hx hb dX4_asCells_22 rfl (lv_at hl 3 rfl) ?_
      obtain ⟨hin, hF⟩ := hF
      refine wi_iald hx hb hK hP 14 rfl hin dX4_asCells_23 (fun v7 ev7 => ?_)
      have hF := hF v7 ev7
      refine lv_ishl hx hb dX4_asCells_24 ?_
      refine lv_ior hx hb dX4_asCells_25 ?_
      refine lv_topi (fun x8 ex8 => ?_)
      have hF := hF x8 ex8
      refine lv_istore_n (lv' := [(2, .int x8), (0, .ref (ad 1)), (1, .int a1), (3, .int y4)]) hx hb dX4_asCells_26 rfl hl (by decide) rfl (fun ls hl => ?_)
      obtain ⟨x9, ex9⟩ : ∃ z : Int32, z = (y4 + (1 : Int32)) := ⟨_, rfl⟩
      have hF := hF x9 ex9
      refine lv_iinc (v := x9) (lv' := [(3, .int x9), (2, .int x8), (0, .ref (ad 1)), (1, .int a1)]) hx hb dX4_asCells_27 hl (k := 3) rfl (by rw [ex9]; rfl) (by decide) rfl (fun ls hl => ?_)
      refine lv_goto (tgt := 4) hx hb dX4_asCells_30 (by decide) ?_
      exact hrec5 x8 x9 hF H locs ls hP hD hS (lv_sub hl [2, 3, 1, 0] rfl)
def w_X5_has (σ : St) (a1 : Int32) (post : Int32 → Prop) : Prop := br (a1 < (0 : Int32)) (post (0 : Int32)) (br ((σ.1 3 1) ≤ a1) (post (0 : Int32)) (post (1 : Int32)))
set_option maxHeartbeats 4000000 in
set_option maxRecDepth 100000 in
theorem c_X5_has (l : Launch) (D : va_G) (cy : Nat → ClassId) (ad : Nat → Nat) (tL : Nat) (σ : St) (a1 : Int32) (post : Int32 → Prop) (hF : w_X5_has σ a1 post) : Cti l yX5_has cX5_has 2 (some .boolean) 0 0 D cy ad tL dsC σ [.ref (ad 3), .int a1] (fun r u => post r ∧ σ = u) := by
  refine cti_of (by decide) (Nat.le_of_ble_eq_true rfl) ?_
  intro p e s m args below meth c A hx hb hml hr hlk hg hown hA hK H locs hP hD hS hLB ls hl
  have hown : s.vm.findClass RX5 = some m.cls := hown
  have hl : lv_has ls 2 [(0, .ref (ad 3)), (1, .int a1)] := hl
  refine lv_iload_n hx hb dX5_has_0 rfl (lv_at hl 1 rfl) ?_
  refine lv_if_lt (tgt := 16) hx hb dX5_has_1 (by decide) (fun c1 => ?_) (fun c1 => ?_)
  · have hF := brT hF c1
    refine lv_iconst (v := (0 : Int32)) hx hb dX5_has_16 (by decide) ?_
    exact wi_zret hx hb hr hlk hK hP hD hS dX5_has_17 (by decide) ⟨hF, rfl⟩
  · have hF := brF hF c1
    refine lv_iload_n hx hb dX5_has_4 rfl (lv_at hl 1 rfl) ?_
    refine lv_aload_n hx hb dX5_has_5 rfl (lv_at hl 0 rfl) ?_
    refine wi_geti hx hb hg hown hK hP 3 1 rfl rfl cb_5 (by decide) kw_133 dX5_has_6 ?_
    refine lv_icmp_ge (tgt := 16) hx hb dX5_has_9 (by decide) (fun c2 => ?_) (fun c2 => ?_)
    · have hF := brT hF c2
      refine lv_iconst (v := (0 : Int32)) hx hb dX5_has_16 (by decide) ?_
      exact wi_zret hx hb hr hlk hK hP hD hS dX5_has_17 (by decide) ⟨hF, rfl⟩
    · have hF := brF hF c2
      refine lv_iconst (v := (1 : Int32)) hx hb dX5_has_12 (by decide) ?_
      refine lv_goto (tgt := 17) hx hb dX5_has_13 (by decide) ?_
      exact wi_zret hx hb hr hlk hK hP hD hS dX5_has_17 (by decide) ⟨hF, rfl⟩
def w_X5_add (σ : St) (a1 : Int32) (a2 : Int32) (a3 : Int32) (post : Int32 → St → Prop) : Prop := nm (σ.1 3 1) (fun x1 => ck x1 8 (nm (upI σ 19 (x1).toNatClampNeg a1) (fun σ2 => ck x1 8 (nm (upI σ2 20 (x1).toNatClampNeg a2) (fun σ3 => ck x1 8 (nm (upI σ3 21 (x1).toNatClampNeg a3) (fun σ4 => w_X4_bitsBetween σ4 a2 a3 (fun r5 => ck x1 8 (nm (upI σ4 22 (x1).toNatClampNeg r5) (fun σ7 => nm (upI σ7 3 1 ((σ7.1 3 1) + (1 : Int32))) (fun σ8 => post x1 σ8)))))))))))
set_option maxHeartbeats 4000000 in
set_option maxRecDepth 100000 in
theorem c_X5_add (l : Launch) (D : va_G) (cy : Nat → ClassId) (ad : Nat → Nat) (tL : Nat) (σ : St) (a1 : Int32) (a2 : Int32) (a3 : Int32) (post : Int32 → St → Prop) (hF : w_X5_add σ a1 a2 a3 post) : Cti l yX5_add cX5_add 5 (some .int) 1 24 D cy ad tL dsC σ [.ref (ad 3), .int a1, .int a2, .int a3] post := by
  refine cti_of (by decide) (Nat.le_of_ble_eq_true rfl) ?_
  intro p e s m args below meth c A hx hb hml hr hlk hg hown hA hK H locs hP hD hS hLB ls hl
  have hown : s.vm.findClass RX5 = some m.cls := hown
  have hl : lv_has ls 5 [(0, .ref (ad 3)), (1, .int a1), (2, .int a2), (3, .int a3)] := hl
  refine lv_aload_n hx hb dX5_add_0 rfl (lv_at hl 0 rfl) ?_
  refine wi_geti hx hb hg hown hK hP 3 1 rfl rfl cb_5 (by decide) kw_133 dX5_add_1 ?_
  refine lv_topi (fun x1 ex1 => ?_)
  have hF := hF x1 ex1
  refine lv_istore (lv' := [(4, .int x1), (0, .ref (ad 3)), (1, .int a1), (2, .int a2), (3, .int a3)]) hx hb dX5_add_4 hl (by decide) rfl (fun ls hl => ?_)
  refine lv_aload_n hx hb dX5_add_6 rfl (lv_at hl 1 rfl) ?_
  refine wi_getr hx hb hg hown hK hP 3 2 19 rfl rfl cb_5 (by decide) kw_134 dX5_add_7 ?_
  refine lv_iload hx hb dX5_add_10 (lv_at hl 0 rfl) ?_
  refine lv_iload_n hx hb dX5_add_12 rfl (lv_at hl 2 rfl) ?_
  obtain ⟨hin, hF⟩ := hF
  refine wi_iast hx hb hK hP hD hS 19 rfl hin dX5_add_13 (fun σ2 eσ2 H locs hP hD hS => ?_)
  have hF := hF σ2 eσ2
  refine lv_aload_n hx hb dX5_add_14 rfl (lv_at hl 1 rfl) ?_
  refine wi_getr hx hb hg hown hK hP 3 3 20 rfl rfl cb_5 (by decide) kw_135 dX5_add_15 ?_
  refine lv_iload hx hb dX5_add_18 (lv_at hl 0 rfl) ?_
  refine lv_iload_n hx hb dX5_add_20 rfl (lv_at hl 3 rfl) ?_
  obtain ⟨hin, hF⟩ := hF
  refine wi_iast hx hb hK hP hD hS 20 rfl hin dX5_add_21 (fun σ3 eσ3 H locs hP hD hS => ?_)
  have hF := hF σ3 eσ3
  refine lv_aload_n hx hb dX5_add_22 rfl (lv_at hl 1 rfl) ?_
  refine wi_getr hx hb hg hown hK hP 3 4 21 rfl rfl cb_5 (by decide) kw_136 dX5_add_23 ?_
  refine lv_iload hx hb dX5_add_26 (lv_at hl 0 rfl) ?_
  refine lv_iload_n hx hb dX5_add_28 rfl (lv_at hl 4 rfl) ?_
  obtain ⟨hin, hF⟩ := hF
  refine wi_iast hx hb hK hP hD hS 21 rfl hin dX5_add_29 (fun σ4 eσ4 H locs hP hD hS => ?_)
  have hF := hF σ4 eσ4
  refine lv_aload_n hx hb dX5_add_30 rfl (lv_at hl 1 rfl) ?_
  refine wi_getr hx hb hg hown hK hP 3 5 22 rfl rfl cb_5 (by decide) kw_137 dX5_add_31 ?_
  refine lv_iload hx hb dX5_add_34 (lv_at hl 0 rfl) ?_
  refine lv_aload_n hx hb dX5_add_36 rfl (lv_at hl 1 rfl) ?_
  refine wi_getr hx hb hg hown hK hP 3 0 1 rfl rfl cb_5 (by decide) kw_138 dX5_add_37 ?_
  refine lv_iload_n hx hb dX5_add_40 rfl (lv_at hl 3 rfl) ?_
  refine lv_iload_n hx hb dX5_add_41 rfl (lv_at hl 4 rfl) ?_
  refine wi_callVi (k := 1) (As := [.int a2, .int a3]) (c_X4_bitsBetween l D cy ad tL σ4 a2 a3 _ hF) vw_RX5_32 rfl cb_4 hx hb hml hown hg hK hP hD hS hA hLB rfl ⟨Nat.le_of_ble_eq_true rfl, Nat.le_of_ble_eq_true rfl⟩ hl.1 rfl (Nat.le_of_ble_eq_true rfl) dX5_add_42 (fun r5 σ6 hw H locs hP hD hS => ?_)
  obtain ⟨hF, rfl⟩ := hw
  obtain ⟨hin, hF⟩ := hF
  refine wi_iast hx hb hK hP hD hS 22 rfl hin dX5_add_45 (fun σ7 eσ7 H locs hP hD hS => ?_)
  have hF := hF σ7 eσ7
  refine lv_aload_n hx hb dX5_add_46 rfl (lv_at hl 1 rfl) ?_
  refine lv_dup hx hb dX5_add_47 rfl ?_
  refine wi_geti hx hb hg hown hK hP 3 1 rfl rfl cb_5 (by decide) kw_133 dX5_add_48 ?_
  refine lv_iconst (v := (1 : Int32)) hx hb dX5_add_51 (by decide) ?_
  refine lv_iadd hx hb dX5_add_52 ?_
  refine wi_puti hx hb hg hown hK hP hD hS 3 1 rfl rfl cb_5 (by decide) kw_133 rfl rfl rfl dX5_add_53 (fun σ8 eσ8 H locs hP hD hS => ?_)
  have hF := hF σ8 eσ8
  refine lv_iload hx hb dX5_add_56 (lv_at hl 0 rfl) ?_
  exact wi_iret hx hb hr hlk hK hP hD hS dX5_add_58 hF
def w_J6_bitCount_0f7a4 (a1 : Int32) (post : Int32 → Prop) : Prop := nm (a1 - ((((a1).toUInt32 >>> (((1 : Int32) : Int32).toUInt32 &&& Int32.toUInt32 31)).toInt32) &&& (1431655765 : Int32))) (fun x1 => nm ((x1 &&& (858993459 : Int32)) + ((((x1).toUInt32 >>> (((2 : Int32) : Int32).toUInt32 &&& Int32.toUInt32 31)).toInt32) &&& (858993459 : Int32))) (fun x2 => nm ((x2 + (((x2).toUInt32 >>> (((4 : Int32) : Int32).toUInt32 &&& Int32.toUInt32 31)).toInt32)) &&& (252645135 : Int32)) (fun x3 => nm (x3 + (((x3).toUInt32 >>> (((8 : Int32) : Int32).toUInt32 &&& Int32.toUInt32 31)).toInt32)) (fun x4 => nm (x4 + (((x4).toUInt32 >>> (((16 : Int32) : Int32).toUInt32 &&& Int32.toUInt32 31)).toInt32)) (fun x5 => post (x5 &&& (63 : Int32)))))))
set_option maxHeartbeats 4000000 in
set_option maxRecDepth 100000 in
theorem c_J6_bitCount_0f7a4 (l : Launch) (D : va_G) (cy : Nat → ClassId) (ad : Nat → Nat) (tL : Nat) (σ : St) (a1 : Int32) (post : Int32 → Prop) (hF : w_J6_bitCount_0f7a4 a1 post) : Cti l yJ6_bitCount_0f7a4 cJ6_bitCount_0f7a4 1 (some .int) 0 0 D cy ad tL dsC σ [.int a1] (fun r u => post r ∧ σ = u) := by
  refine cti_of (by decide) (Nat.le_of_ble_eq_true rfl) ?_
  intro p e s m args below meth c A hx hb hml hr hlk hg hown hA hK H locs hP hD hS hLB ls hl
  have hown : s.vm.findClass RJ6 = some m.cls := hown
  have hl : lv_has ls 1 [(0, .int a1)] := hl
  refine lv_iload_n hx hb dJ6_bitCount_0f7a4_0 rfl (lv_at hl 0 rfl) ?_
  refine lv_iload_n hx hb dJ6_bitCount_0f7a4_1 rfl (lv_at hl 0 rfl) ?_
  refine lv_iconst (v := (1 : Int32)) hx hb dJ6_bitCount_0f7a4_2 (by decide) ?_
  refine lv_iushr hx hb dJ6_bitCount_0f7a4_3 rfl ?_
  refine lv_ldcw (v := (1431655765 : Int32)) hx hb hown (hg _ kw_145) dJ6_bitCount_0f7a4_4 ?_
  refine lv_iand hx hb dJ6_bitCount_0f7a4_7 ?_
  refine lv_isub hx hb dJ6_bitCount_0f7a4_8 ?_
  refine lv_topi (fun x1 ex1 => ?_)
  have hF := hF x1 ex1
  refine lv_istore_n (lv' := [(0, .int x1)]) hx hb dJ6_bitCount_0f7a4_9 rfl hl (by decide) rfl (fun ls hl => ?_)
  refine lv_iload_n hx hb dJ6_bitCount_0f7a4_10 rfl (lv_at hl 0 rfl) ?_
  refine lv_ldcw (v := (858993459 : Int32)) hx hb hown (hg _ kw_146) dJ6_bitCount_0f7a4_11 ?_
  refine lv_iand hx hb dJ6_bitCount_0f7a4_14 ?_
  refine lv_iload_n hx hb dJ6_bitCount_0f7a4_15 rfl (lv_at hl 0 rfl) ?_
  refine lv_iconst (v := (2 : Int32)) hx hb dJ6_bitCount_0f7a4_16 (by decide) ?_
  refine lv_iushr hx hb dJ6_bitCount_0f7a4_17 rfl ?_
  refine lv_ldcw (v := (858993459 : Int32)) hx hb hown (hg _ kw_146) dJ6_bitCount_0f7a4_18 ?_
  refine lv_iand hx hb dJ6_bitCount_0f7a4_21 ?_
  refine lv_iadd hx hb dJ6_bitCount_0f7a4_22 ?_
  refine lv_topi (fun x2 ex2 => ?_)
  have hF := hF x2 ex2
  refine lv_istore_n (lv' := [(0, .int x2)]) hx hb dJ6_bitCount_0f7a4_23 rfl hl (by decide) rfl (fun ls hl => ?_)
  refine lv_iload_n hx hb dJ6_bitCount_0f7a4_24 rfl (lv_at hl 0 rfl) ?_
  refine lv_iload_n hx hb dJ6_bitCount_0f7a4_25 rfl (lv_at hl 0 rfl) ?_
  refine lv_iconst (v := (4 : Int32)) hx hb dJ6_bitCount_0f7a4_26 (by decide) ?_
  refine lv_iushr hx hb dJ6_bitCount_0f7a4_27 rfl ?_
  refine lv_iadd hx hb dJ6_bitCount_0f7a4_28 ?_
  refine lv_ldcw (v := (252645135 : Int32)) hx hb hown (hg _ kw_147) dJ6_bitCount_0f7a4_29 ?_
  refine lv_iand hx hb dJ6_bitCount_0f7a4_32 ?_
  refine lv_topi (fun x3 ex3 => ?_)
  have hF := hF x3 ex3
  refine lv_istore_n (lv' := [(0, .int x3)]) hx hb dJ6_bitCount_0f7a4_33 rfl hl (by decide) rfl (fun ls hl => ?_)
  refine lv_iload_n hx hb dJ6_bitCount_0f7a4_34 rfl (lv_at hl 0 rfl) ?_
  refine lv_iload_n hx hb dJ6_bitCount_0f7a4_35 rfl (lv_at hl 0 rfl) ?_
  refine lv_bipush (v := (8 : Int32)) hx hb dJ6_bitCount_0f7a4_36 (by decide) ?_
  refine lv_iushr hx hb dJ6_bitCount_0f7a4_38 rfl ?_
  refine lv_iadd hx hb dJ6_bitCount_0f7a4_39 ?_
  refine lv_topi (fun x4 ex4 => ?_)
  have hF := hF x4 ex4
  refine lv_istore_n (lv' := [(0, .int x4)]) hx hb dJ6_bitCount_0f7a4_40 rfl hl (by decide) rfl (fun ls hl => ?_)
  refine lv_iload_n hx hb dJ6_bitCount_0f7a4_41 rfl (lv_at hl 0 rfl) ?_
  refine lv_iload_n hx hb dJ6_bitCount_0f7a4_42 rfl (lv_at hl 0 rfl) ?_
  refine lv_bipush (v := (16 : Int32)) hx hb dJ6_bitCount_0f7a4_43 (by decide) ?_
  refine lv_iushr hx hb dJ6_bitCount_0f7a4_45 rfl ?_
  refine lv_iadd hx hb dJ6_bitCount_0f7a4_46 ?_
  refine lv_topi (fun x5 ex5 => ?_)
  have hF := hF x5 ex5
  refine lv_istore_n (lv' := [(0, .int x5)]) hx hb dJ6_bitCount_0f7a4_47 rfl hl (by decide) rfl (fun ls hl => ?_)
  refine lv_iload_n hx hb dJ6_bitCount_0f7a4_48 rfl (lv_at hl 0 rfl) ?_
  refine lv_bipush (v := (63 : Int32)) hx hb dJ6_bitCount_0f7a4_49 (by decide) ?_
  refine lv_iand hx hb dJ6_bitCount_0f7a4_51 ?_
  exact wi_iret hx hb hr hlk hK hP hD hS dJ6_bitCount_0f7a4_52 ⟨hF, rfl⟩
def w_X5_holds (σ : St) (a1 : Int32) (a2 : Int32) (a3 : Int32) (post : Int32 → Prop) : Prop := rd (σ.1 19) 8 a1 (fun v1 => br (v1 = (0 : Int32)) (rd (σ.1 20) 8 a1 (fun v3 => w_X4_valueOf σ v3 a3 (fun r4 => br (r4 = (1 : Int32)) (post (1 : Int32)) (post (0 : Int32))))) (br (v1 = (1 : Int32)) (rd (σ.1 20) 8 a1 (fun v8 => w_X4_valueOf σ v8 a3 (fun r9 => rd (σ.1 21) 8 a1 (fun v11 => w_X4_valueOf σ v11 a3 (fun r12 => br ((r9 &&& r12) = (0 : Int32)) (post (1 : Int32)) (post (0 : Int32))))))) (br (v1 = (2 : Int32)) (rd (σ.1 20) 8 a1 (fun v16 => w_X4_valueOf σ v16 a3 (fun r17 => rd (σ.1 21) 8 a1 (fun v19 => w_X4_valueOf σ v19 a3 (fun r20 => br (r17 = r20) (post (1 : Int32)) (post (0 : Int32))))))) (rd (σ.1 22) 8 a1 (fun v23 => w_J6_bitCount_0f7a4 ((a2 ^^^ a3) &&& v23) (fun r24 => br ((1 : Int32) < r24) (post (0 : Int32)) (post (1 : Int32))))))))
set_option maxHeartbeats 4000000 in
set_option maxRecDepth 100000 in
theorem c_X5_holds (l : Launch) (D : va_G) (cy : Nat → ClassId) (ad : Nat → Nat) (tL : Nat) (σ : St) (a1 : Int32) (a2 : Int32) (a3 : Int32) (post : Int32 → Prop) (hF : w_X5_holds σ a1 a2 a3 post) : Cti l yX5_holds cX5_holds 4 (some .boolean) 1 22 D cy ad tL dsC σ [.ref (ad 3), .int a1, .int a2, .int a3] (fun r u => post r ∧ σ = u) := by
  refine cti_of (by decide) (Nat.le_of_ble_eq_true rfl) ?_
  intro p e s m args below meth c A hx hb hml hr hlk hg hown hA hK H locs hP hD hS hLB ls hl
  have hown : s.vm.findClass RX5 = some m.cls := hown
  have hl : lv_has ls 4 [(0, .ref (ad 3)), (1, .int a1), (2, .int a2), (3, .int a3)] := hl
  refine lv_aload_n hx hb dX5_holds_0 rfl (lv_at hl 0 rfl) ?_
  refine wi_getr hx hb hg hown hK hP 3 2 19 rfl rfl cb_5 (by decide) kw_134 dX5_holds_1 ?_
  refine lv_iload_n hx hb dX5_holds_4 rfl (lv_at hl 1 rfl) ?_
  obtain ⟨hin, hF⟩ := hF
  refine wi_iald hx hb hK hP 19 rfl hin dX5_holds_5 (fun v1 ev1 => ?_)
  have hF := hF v1 ev1
  by_cases c2 : v1 = (0 : Int32)
  · have hF := brT hF c2
    refine lv_tableIn (off := 26) (tgt := 32) hx hb dX5_holds_6 (by rw [c2]; decide) (by rw [c2]; decide) (by rw [c2]; rfl) (by decide) ?_
    refine lv_aload_n hx hb dX5_holds_32 rfl (lv_at hl 0 rfl) ?_
    refine wi_getr hx hb hg hown hK hP 3 0 1 rfl rfl cb_5 (by decide) kw_138 dX5_holds_33 ?_
    refine lv_aload_n hx hb dX5_holds_36 rfl (lv_at hl 0 rfl) ?_
    refine wi_getr hx hb hg hown hK hP 3 3 20 rfl rfl cb_5 (by decide) kw_135 dX5_holds_37 ?_
    refine lv_iload_n hx hb dX5_holds_40 rfl (lv_at hl 1 rfl) ?_
    obtain ⟨hin, hF⟩ := hF
    refine wi_iald hx hb hK hP 20 rfl hin dX5_holds_41 (fun v3 ev3 => ?_)
    have hF := hF v3 ev3
    refine lv_iload_n hx hb dX5_holds_42 rfl (lv_at hl 3 rfl) ?_
    refine wi_callVi (k := 1) (As := [.int v3, .int a3]) (c_X4_valueOf l D cy ad tL σ v3 a3 _ hF) vw_RX5_38 rfl cb_4 hx hb hml hown hg hK hP hD hS hA hLB rfl ⟨Nat.le_of_ble_eq_true rfl, Nat.le_of_ble_eq_true rfl⟩ hl.1 rfl (Nat.le_of_ble_eq_true rfl) dX5_holds_43 (fun r4 σ5 hw H locs hP hD hS => ?_)
    obtain ⟨hF, rfl⟩ := hw
    refine lv_iconst (v := (1 : Int32)) hx hb dX5_holds_46 (by decide) ?_
    refine lv_icmp_ne (tgt := 54) hx hb dX5_holds_47 (by decide) (fun c6 => ?_) (fun c6 => ?_)
    · have hF := brF hF c6
      refine lv_iconst (v := (0 : Int32)) hx hb dX5_holds_54 (by decide) ?_
      exact wi_zret hx hb hr hlk hK hP hD hS dX5_holds_55 (by decide) ⟨hF, rfl⟩
    · have hF := brT hF c6
      refine lv_iconst (v := (1 : Int32)) hx hb dX5_holds_50 (by decide) ?_
      refine lv_goto (tgt := 55) hx hb dX5_holds_51 (by decide) ?_
      exact wi_zret hx hb hr hlk hK hP hD hS dX5_holds_55 (by decide) ⟨hF, rfl⟩
  · have hF := brF hF c2
    by_cases c7 : v1 = (1 : Int32)
    · have hF := brT hF c7
      refine lv_tableIn (off := 50) (tgt := 56) hx hb dX5_holds_6 (by rw [c7]; decide) (by rw [c7]; decide) (by rw [c7]; rfl) (by decide) ?_
      refine lv_aload_n hx hb dX5_holds_56 rfl (lv_at hl 0 rfl) ?_
      refine wi_getr hx hb hg hown hK hP 3 0 1 rfl rfl cb_5 (by decide) kw_138 dX5_holds_57 ?_
      refine lv_aload_n hx hb dX5_holds_60 rfl (lv_at hl 0 rfl) ?_
      refine wi_getr hx hb hg hown hK hP 3 3 20 rfl rfl cb_5 (by decide) kw_135 dX5_holds_61 ?_
      refine lv_iload_n hx hb dX5_holds_64 rfl (lv_at hl 1 rfl) ?_
      obtain ⟨hin, hF⟩ := hF
      refine wi_iald hx hb hK hP 20 rfl hin dX5_holds_65 (fun v8 ev8 => ?_)
      have hF := hF v8 ev8
      refine lv_iload_n hx hb dX5_holds_66 rfl (lv_at hl 3 rfl) ?_
      refine wi_callVi (k := 1) (As := [.int v8, .int a3]) (c_X4_valueOf l D cy ad tL σ v8 a3 _ hF) vw_RX5_38 rfl cb_4 hx hb hml hown hg hK hP hD hS hA hLB rfl ⟨Nat.le_of_ble_eq_true rfl, Nat.le_of_ble_eq_true rfl⟩ hl.1 rfl (Nat.le_of_ble_eq_true rfl) dX5_holds_67 (fun r9 σ10 hw H locs hP hD hS => ?_)
      obtain ⟨hF, rfl⟩ := hw
      refine lv_aload_n hx hb dX5_holds_70 rfl (lv_at hl 0 rfl) ?_
      refine wi_getr hx hb hg hown hK hP 3 0 1 rfl rfl cb_5 (by decide) kw_138 dX5_holds_71 ?_
      refine lv_aload_n hx hb dX5_holds_74 rfl (lv_at hl 0 rfl) ?_
      refine wi_getr hx hb hg hown hK hP 3 4 21 rfl rfl cb_5 (by decide) kw_136 dX5_holds_75 ?_
      refine lv_iload_n hx hb dX5_holds_78 rfl (lv_at hl 1 rfl) ?_
      obtain ⟨hin, hF⟩ := hF
      refine wi_iald hx hb hK hP 21 rfl hin dX5_holds_79 (fun v11 ev11 => ?_)
      have hF := hF v11 ev11
      refine lv_iload_n hx hb dX5_holds_80 rfl (lv_at hl 3 rfl) ?_
      refine wi_callVi (k := 1) (As := [.int v11, .int a3]) (c_X4_valueOf l D cy ad tL σ v11 a3 _ hF) vw_RX5_38 rfl cb_4 hx hb hml hown hg hK hP hD hS hA hLB rfl ⟨Nat.le_of_ble_eq_true rfl, Nat.le_of_ble_eq_true rfl⟩ hl.1 rfl (Nat.le_of_ble_eq_true rfl) dX5_holds_81 (fun r12 σ13 hw H locs hP hD hS => ?_)
      obtain ⟨hF, rfl⟩ := hw
      refine lv_iand hx hb dX5_holds_84 ?_
      refine lv_if_ne (tgt := 92) hx hb dX5_holds_85 (by decide) (fun c14 => ?_) (fun c14 => ?_)
      · have hF := brF hF c14
        refine lv_iconst (v := (0 : Int32)) hx hb dX5_holds_92 (by decide) ?_
        exact wi_zret hx hb hr hlk hK hP hD hS dX5_holds_93 (by decide) ⟨hF, rfl⟩
      · have hF := brT hF c14
        refine lv_iconst (v := (1 : Int32)) hx hb dX5_holds_88 (by decide) ?_
        refine lv_goto (tgt := 93) hx hb dX5_holds_89 (by decide) ?_
        exact wi_zret hx hb hr hlk hK hP hD hS dX5_holds_93 (by decide) ⟨hF, rfl⟩
    · have hF := brF hF c7
      by_cases c15 : v1 = (2 : Int32)
      · have hF := brT hF c15
        refine lv_tableIn (off := 88) (tgt := 94) hx hb dX5_holds_6 (by rw [c15]; decide) (by rw [c15]; decide) (by rw [c15]; rfl) (by decide) ?_
        refine lv_aload_n hx hb dX5_holds_94 rfl (lv_at hl 0 rfl) ?_
        refine wi_getr hx hb hg hown hK hP 3 0 1 rfl rfl cb_5 (by decide) kw_138 dX5_holds_95 ?_
        refine lv_aload_n hx hb dX5_holds_98 rfl (lv_at hl 0 rfl) ?_
        refine wi_getr hx hb hg hown hK hP 3 3 20 rfl rfl cb_5 (by decide) kw_135 dX5_holds_99 ?_
        refine lv_iload_n hx hb dX5_holds_102 rfl (lv_at hl 1 rfl) ?_
        obtain ⟨hin, hF⟩ := hF
        refine wi_iald hx hb hK hP 20 rfl hin dX5_holds_103 (fun v16 ev16 => ?_)
        have hF := hF v16 ev16
        refine lv_iload_n hx hb dX5_holds_104 rfl (lv_at hl 3 rfl) ?_
        refine wi_callVi (k := 1) (As := [.int v16, .int a3]) (c_X4_valueOf l D cy ad tL σ v16 a3 _ hF) vw_RX5_38 rfl cb_4 hx hb hml hown hg hK hP hD hS hA hLB rfl ⟨Nat.le_of_ble_eq_true rfl, Nat.le_of_ble_eq_true rfl⟩ hl.1 rfl (Nat.le_of_ble_eq_true rfl) dX5_holds_105 (fun r17 σ18 hw H locs hP hD hS => ?_)
        obtain ⟨hF, rfl⟩ := hw
        refine lv_aload_n hx hb dX5_holds_108 rfl (lv_at hl 0 rfl) ?_
        refine wi_getr hx hb hg hown hK hP 3 0 1 rfl rfl cb_5 (by decide) kw_138 dX5_holds_109 ?_
        refine lv_aload_n hx hb dX5_holds_112 rfl (lv_at hl 0 rfl) ?_
        refine wi_getr hx hb hg hown hK hP 3 4 21 rfl rfl cb_5 (by decide) kw_136 dX5_holds_113 ?_
        refine lv_iload_n hx hb dX5_holds_116 rfl (lv_at hl 1 rfl) ?_
        obtain ⟨hin, hF⟩ := hF
        refine wi_iald hx hb hK hP 21 rfl hin dX5_holds_117 (fun v19 ev19 => ?_)
        have hF := hF v19 ev19
        refine lv_iload_n hx hb dX5_holds_118 rfl (lv_at hl 3 rfl) ?_
        refine wi_callVi (k := 1) (As := [.int v19, .int a3]) (c_X4_valueOf l D cy ad tL σ v19 a3 _ hF) vw_RX5_38 rfl cb_4 hx hb hml hown hg hK hP hD hS hA hLB rfl ⟨Nat.le_of_ble_eq_true rfl, Nat.le_of_ble_eq_true rfl⟩ hl.1 rfl (Nat.le_of_ble_eq_true rfl) dX5_holds_119 (fun r20 σ21 hw H locs hP hD hS => ?_)
        obtain ⟨hF, rfl⟩ := hw
        refine lv_icmp_ne (tgt := 129) hx hb dX5_holds_122 (by decide) (fun c22 => ?_) (fun c22 => ?_)
        · have hF := brF hF c22
          refine lv_iconst (v := (0 : Int32)) hx hb dX5_holds_129 (by decide) ?_
          exact wi_zret hx hb hr hlk hK hP hD hS dX5_holds_130 (by decide) ⟨hF, rfl⟩
        · have hF := brT hF c22
          refine lv_iconst (v := (1 : Int32)) hx hb dX5_holds_125 (by decide) ?_
          refine lv_goto (tgt := 130) hx hb dX5_holds_126 (by decide) ?_
          exact wi_zret hx hb hr hlk hK hP hD hS dX5_holds_130 (by decide) ⟨hF, rfl⟩
      · have hF := brF hF c15
        have nc2 := lv_neT (a := 0) c2 (by decide)
        have nc7 := lv_neT (a := 1) c7 (by decide)
        have nc15 := lv_neT (a := 2) c15 (by decide)
        refine lv_tableOut (tgt := 131) hx hb dX5_holds_6 (by omega) (by decide) ?_
        refine lv_iload_n hx hb dX5_holds_131 rfl (lv_at hl 2 rfl) ?_
        refine lv_iload_n hx hb dX5_holds_132 rfl (lv_at hl 3 rfl) ?_
        refine lv_ixor hx hb dX5_holds_133 ?_
        refine lv_aload_n hx hb dX5_holds_134 rfl (lv_at hl 0 rfl) ?_
        refine wi_getr hx hb hg hown hK hP 3 5 22 rfl rfl cb_5 (by decide) kw_137 dX5_holds_135 ?_
        refine lv_iload_n hx hb dX5_holds_138 rfl (lv_at hl 1 rfl) ?_
        obtain ⟨hin, hF⟩ := hF
        refine wi_iald hx hb hK hP 22 rfl hin dX5_holds_139 (fun v23 ev23 => ?_)
        have hF := hF v23 ev23
        refine lv_iand hx hb dX5_holds_140 ?_
        refine wi_callSi (As := [.int ((a2 ^^^ a3) &&& v23)]) (c_J6_bitCount_0f7a4 l D cy ad tL σ ((a2 ^^^ a3) &&& v23) _ hF) sw_RX5_41 hx hb hml hown hg hK hP hD hS hA hLB rfl ⟨Nat.le_of_ble_eq_true rfl, Nat.le_of_ble_eq_true rfl⟩ hl.1 rfl (Nat.le_of_ble_eq_true rfl) dX5_holds_141 (fun r24 σ25 hw H locs hP hD hS => ?_)
        obtain ⟨hF, rfl⟩ := hw
        refine lv_iconst (v := (1 : Int32)) hx hb dX5_holds_144 (by decide) ?_
        refine lv_icmp_gt (tgt := 152) hx hb dX5_holds_145 (by decide) (fun c26 => ?_) (fun c26 => ?_)
        · have hF := brT hF c26
          refine lv_iconst (v := (0 : Int32)) hx hb dX5_holds_152 (by decide) ?_
          exact wi_zret hx hb hr hlk hK hP hD hS dX5_holds_153 (by decide) ⟨hF, rfl⟩
        · have hF := brF hF c26
          refine lv_iconst (v := (1 : Int32)) hx hb dX5_holds_148 (by decide) ?_
          refine lv_goto (tgt := 153) hx hb dX5_holds_149 (by decide) ?_
          exact wi_zret hx hb hr hlk hK hP hD hS dX5_holds_153 (by decide) ⟨hF, rfl⟩
def w_X7_begin (σ : St) (post : St → Prop) : Prop := nm (upI σ 5 3 (0 : Int32)) (fun σ1 => nm (upI σ1 5 4 (0 : Int32)) (fun σ2 => nm (upJ σ2 5 5 (0 : Int64)) (fun σ3 => ck (0 : Int32) 61 (nm (upI σ3 23 ((0 : Int32)).toNatClampNeg (σ3.1 1 2)) (fun σ4 => post σ4)))))
set_option maxHeartbeats 4000000 in
set_option maxRecDepth 100000 in
theorem c_X7_begin (l : Launch) (D : va_G) (cy : Nat → ClassId) (ad : Nat → Nat) (tL : Nat) (σ : St) (post : St → Prop) (hF : w_X7_begin σ post) : Ctv l yX7_begin cX7_begin 1 none 0 0 D cy ad tL dsC σ [.ref (ad 5)] post := by
  refine ctv_of (by decide) (Nat.le_of_ble_eq_true rfl) ?_
  intro p e s m args below meth c A hx hb hml hr hlk hg hown hA hK H locs hP hD hS hLB ls hl
  have hown : s.vm.findClass RX7 = some m.cls := hown
  have hl : lv_has ls 1 [(0, .ref (ad 5))] := hl
  refine lv_aload_n hx hb dX7_begin_0 rfl (lv_at hl 0 rfl) ?_
  refine lv_iconst (v := (0 : Int32)) hx hb dX7_begin_1 (by decide) ?_
  refine wi_puti hx hb hg hown hK hP hD hS 5 3 rfl rfl cb_7 (by decide) kw_163 rfl rfl rfl dX7_begin_2 (fun σ1 eσ1 H locs hP hD hS => ?_)
  have hF := hF σ1 eσ1
  refine lv_aload_n hx hb dX7_begin_5 rfl (lv_at hl 0 rfl) ?_
  refine lv_iconst (v := (0 : Int32)) hx hb dX7_begin_6 (by decide) ?_
  refine wi_puti hx hb hg hown hK hP hD hS 5 4 rfl rfl cb_7 (by decide) kw_164 rfl rfl rfl dX7_begin_7 (fun σ2 eσ2 H locs hP hD hS => ?_)
  have hF := hF σ2 eσ2
  refine lv_aload_n hx hb dX7_begin_10 rfl (lv_at hl 0 rfl) ?_
  refine lv_lconst (v := (0 : Int64)) hx hb dX7_begin_11 (by decide) ?_
  refine wi_putl hx hb hg hown hK hP hD hS 5 5 rfl rfl cb_7 (by decide) kw_165 rfl rfl rfl dX7_begin_12 (fun σ3 eσ3 H locs hP hD hS => ?_)
  have hF := hF σ3 eσ3
  refine lv_aload_n hx hb dX7_begin_15 rfl (lv_at hl 0 rfl) ?_
  refine wi_getr hx hb hg hown hK hP 5 6 23 rfl rfl cb_7 (by decide) kw_166 dX7_begin_16 ?_
  refine lv_iconst (v := (0 : Int32)) hx hb dX7_begin_19 (by decide) ?_
  refine lv_aload_n hx hb dX7_begin_20 rfl (lv_at hl 0 rfl) ?_
  refine wi_getr hx hb hg hown hK hP 5 0 1 rfl rfl cb_7 (by decide) kw_168 dX7_begin_21 ?_
  refine wi_geti hx hb hg hown hK hP 1 2 rfl rfl cb_4 (by decide) kw_172 dX7_begin_24 ?_
  obtain ⟨hin, hF⟩ := hF
  refine wi_iast hx hb hK hP hD hS 23 rfl hin dX7_begin_27 (fun σ4 eσ4 H locs hP hD hS => ?_)
  have hF := hF σ4 eσ4
  exact wi_vret hx hb hr hlk hK hP hD hS dX7_begin_28 hF
def w_X7_bitsNow (σ : St) (post : Int32 → Prop) : Prop := rd (σ.1 23) 61 (σ.1 5 3) (fun v1 => post v1)
set_option maxHeartbeats 4000000 in
set_option maxRecDepth 100000 in
theorem c_X7_bitsNow (l : Launch) (D : va_G) (cy : Nat → ClassId) (ad : Nat → Nat) (tL : Nat) (σ : St) (post : Int32 → Prop) (hF : w_X7_bitsNow σ post) : Cti l yX7_bitsNow cX7_bitsNow 1 (some .int) 0 0 D cy ad tL dsC σ [.ref (ad 5)] (fun r u => post r ∧ σ = u) := by
  refine cti_of (by decide) (Nat.le_of_ble_eq_true rfl) ?_
  intro p e s m args below meth c A hx hb hml hr hlk hg hown hA hK H locs hP hD hS hLB ls hl
  have hown : s.vm.findClass RX7 = some m.cls := hown
  have hl : lv_has ls 1 [(0, .ref (ad 5))] := hl
  refine lv_aload_n hx hb dX7_bitsNow_0 rfl (lv_at hl 0 rfl) ?_
  refine wi_getr hx hb hg hown hK hP 5 6 23 rfl rfl cb_7 (by decide) kw_166 dX7_bitsNow_1 ?_
  refine lv_aload_n hx hb dX7_bitsNow_4 rfl (lv_at hl 0 rfl) ?_
  refine wi_geti hx hb hg hown hK hP 5 3 rfl rfl cb_7 (by decide) kw_163 dX7_bitsNow_5 ?_
  obtain ⟨hin, hF⟩ := hF
  refine wi_iald hx hb hK hP 23 rfl hin dX7_bitsNow_8 (fun v1 ev1 => ?_)
  have hF := hF v1 ev1
  exact wi_iret hx hb hr hlk hK hP hD hS dX7_bitsNow_9 ⟨hF, rfl⟩
def w_X8_tick_L57 (J7 : St → Prop) (rec11 : Int32 → St → Prop) (y9 : Int32) (σ10 : St) : Prop := br ((σ10.1 1 1) ≤ y9) (J7 σ10) (br ((((σ10.1 4 2) >>> (y9 &&& 31)) &&& (1 : Int32)) = (1 : Int32)) (rd (σ10.1 14) 10 y9 (fun v15 => rd (σ10.1 10) 24 v15 (fun v16 => w_X4_valueOf σ10 v16 (σ10.1 4 1) (fun r17 => nm (upI σ10 4 3 ((σ10.1 4 3) ||| (r17 <<< (y9 &&& 31)))) (fun σ19 => nm (y9 + (1 : Int32)) (fun x20 => rec11 x20 σ19)))))) (nm (y9 + (1 : Int32)) (fun x14 => rec11 x14 σ10)))
def w_X8_tick (σ : St) (a1 : Int32) (a2 : Int32) (post : St → Prop) : Prop := nm (upI σ 4 1 a1) (fun σ1 => w_X4_bitsOfSet σ1 a2 (fun r2 => nm (upI σ1 4 2 (r2 &&& (σ1.1 1 4))) (fun σ4 => nm (upI σ4 4 5 (r2 &&& ((σ4.1 1 4) ^^^ (-1 : Int32)))) (fun σ5 => nm (upI σ5 4 3 ((σ5.1 4 1) &&& (r2 ^^^ (-1 : Int32)))) (fun σ6 => jn (α := St → Prop) (fun (σ8 : St) => post σ8) (fun J7 => lpE2 (w_X8_tick_L57 J7) (0 : Int32) σ6))))))
set_option maxHeartbeats 4000000 in
set_option maxRecDepth 100000 in
theorem c_X8_tick (l : Launch) (D : va_G) (cy : Nat → ClassId) (ad : Nat → Nat) (tL : Nat) (σ : St) (a1 : Int32) (a2 : Int32) (post : St → Prop) (hF : w_X8_tick σ a1 a2 post) : Ctv l yX8_tick cX8_tick 5 none 1 23 D cy ad tL dsC σ [.ref (ad 4), .int a1, .int a2] post := by
  refine ctv_of (by decide) (Nat.le_of_ble_eq_true rfl) ?_
  intro p e s m args below meth c A hx hb hml hr hlk hg hown hA hK H locs hP hD hS hLB ls hl
  have hown : s.vm.findClass RX8 = some m.cls := hown
  have hl : lv_has ls 5 [(0, .ref (ad 4)), (1, .int a1), (2, .int a2)] := hl
  refine lv_aload_n hx hb dX8_tick_0 rfl (lv_at hl 0 rfl) ?_
  refine lv_iload_n hx hb dX8_tick_1 rfl (lv_at hl 1 rfl) ?_
  refine wi_puti hx hb hg hown hK hP hD hS 4 1 rfl rfl cb_8 (by decide) kw_175 rfl rfl rfl dX8_tick_2 (fun σ1 eσ1 H locs hP hD hS => ?_)
  have hF := hF σ1 eσ1
  refine lv_aload_n hx hb dX8_tick_5 rfl (lv_at hl 0 rfl) ?_
  refine wi_getr hx hb hg hown hK hP 4 0 1 rfl rfl cb_8 (by decide) kw_176 dX8_tick_6 ?_
  refine lv_iload_n hx hb dX8_tick_9 rfl (lv_at hl 2 rfl) ?_
  refine wi_callVi (k := 1) (As := [.int a2]) (c_X4_bitsOfSet l D cy ad tL σ1 a2 _ hF) vw_RX8_34 rfl cb_4 hx hb hml hown hg hK hP hD hS hA hLB rfl ⟨Nat.le_of_ble_eq_true rfl, Nat.le_of_ble_eq_true rfl⟩ hl.1 rfl (Nat.le_of_ble_eq_true rfl) dX8_tick_10 (fun r2 σ3 hw H locs hP hD hS => ?_)
  obtain ⟨hF, rfl⟩ := hw
  refine lv_istore_n (lv' := [(3, .int r2), (0, .ref (ad 4)), (1, .int a1), (2, .int a2)]) hx hb dX8_tick_13 rfl hl (by decide) rfl (fun ls hl => ?_)
  refine lv_aload_n hx hb dX8_tick_14 rfl (lv_at hl 1 rfl) ?_
  refine lv_iload_n hx hb dX8_tick_15 rfl (lv_at hl 0 rfl) ?_
  refine lv_aload_n hx hb dX8_tick_16 rfl (lv_at hl 1 rfl) ?_
  refine wi_getr hx hb hg hown hK hP 4 0 1 rfl rfl cb_8 (by decide) kw_176 dX8_tick_17 ?_
  refine wi_geti hx hb hg hown hK hP 1 4 rfl rfl cb_4 (by decide) kw_177 dX8_tick_20 ?_
  refine lv_iand hx hb dX8_tick_23 ?_
  refine wi_puti hx hb hg hown hK hP hD hS 4 2 rfl rfl cb_8 (by decide) kw_178 rfl rfl rfl dX8_tick_24 (fun σ4 eσ4 H locs hP hD hS => ?_)
  have hF := hF σ4 eσ4
  refine lv_aload_n hx hb dX8_tick_27 rfl (lv_at hl 1 rfl) ?_
  refine lv_iload_n hx hb dX8_tick_28 rfl (lv_at hl 0 rfl) ?_
  refine lv_aload_n hx hb dX8_tick_29 rfl (lv_at hl 1 rfl) ?_
  refine wi_getr hx hb hg hown hK hP 4 0 1 rfl rfl cb_8 (by decide) kw_176 dX8_tick_30 ?_
  refine wi_geti hx hb hg hown hK hP 1 4 rfl rfl cb_4 (by decide) kw_177 dX8_tick_33 ?_
  refine lv_iconst (v := (-1 : Int32)) hx hb dX8_tick_36 (by decide) ?_
  refine lv_ixor hx hb dX8_tick_37 ?_
  refine lv_iand hx hb dX8_tick_38 ?_
  refine wi_puti hx hb hg hown hK hP hD hS 4 5 rfl rfl cb_8 (by decide) kw_179 rfl rfl rfl dX8_tick_39 (fun σ5 eσ5 H locs hP hD hS => ?_)
  have hF := hF σ5 eσ5
  refine lv_aload_n hx hb dX8_tick_42 rfl (lv_at hl 1 rfl) ?_
  refine lv_aload_n hx hb dX8_tick_43 rfl (lv_at hl 1 rfl) ?_
  refine wi_geti hx hb hg hown hK hP 4 1 rfl rfl cb_8 (by decide) kw_175 dX8_tick_44 ?_
  refine lv_iload_n hx hb dX8_tick_47 rfl (lv_at hl 0 rfl) ?_
  refine lv_iconst (v := (-1 : Int32)) hx hb dX8_tick_48 (by decide) ?_
  refine lv_ixor hx hb dX8_tick_49 ?_
  refine lv_iand hx hb dX8_tick_50 ?_
  refine wi_puti hx hb hg hown hK hP hD hS 4 3 rfl rfl cb_8 (by decide) kw_180 rfl rfl rfl dX8_tick_51 (fun σ6 eσ6 H locs hP hD hS => ?_)
  have hF := hF σ6 eσ6
  refine lv_iconst (v := (0 : Int32)) hx hb dX8_tick_54 (by decide) ?_
  refine lv_istore (lv' := [(4, .int (0 : Int32)), (3, .int r2), (0, .ref (ad 4)), (1, .int a1), (2, .int a2)]) hx hb dX8_tick_55 hl (by decide) rfl (fun ls hl => ?_)
  refine jn_use hF (fun K => ∀ (σ8 : St) (H : Heap) (locs : List Loc) (ls : Array Slot), K σ8 → va_P D vwCl (wld cy ad dsC σ8) H → va_D A (wld cy ad dsC σ8) → va_S A s.heap H locs → lv_has ls 5 [] → W p l e (rmO 1 23) s m args below meth c H locs 0 0 (MQ below (va_Qv post (cBk D cy ad dsC A) A) args s 0 0 A) (F0 m 129 ls [])) (fun σ8 H locs ls hF hP hD hS hl => ?_) (fun J7 hJ7 hF => ?_)
  · exact wi_vret hx hb hr hlk hK hP hD hS dX8_tick_129 hF
  · refine lpE2_use hF (fun (y9 : Int32) (σ10 : St) => ∀ (H : Heap) (locs : List Loc) (ls : Array Slot), va_P D vwCl (wld cy ad dsC σ10) H → va_D A (wld cy ad dsC σ10) → va_S A s.heap H locs → lv_has ls 5 [(0, .ref (ad 4)), (4, .int y9)] → W p l e (rmO 1 23) s m args below meth c H locs 0 0 (MQ below (va_Qv post (cBk D cy ad dsC A) A) args s 0 0 A) (F0 m 57 ls [])) (fun rec11 hrec11 y9 σ10 hF H locs ls hP hD hS hl => ?_) H locs ls hP hD hS (lv_sub hl [2, 0] rfl)
    refine lv_iload hx hb dX8_tick_57 (lv_at hl 1 rfl) ?_
    refine lv_aload_n hx hb dX8_tick_59 rfl (lv_at hl 0 rfl) ?_
    refine wi_getr hx hb hg hown hK hP 4 0 1 rfl rfl cb_8 (by decide) kw_176 dX8_tick_60 ?_
    refine wi_geti hx hb hg hown hK hP 1 1 rfl rfl cb_4 (by decide) kw_181 dX8_tick_63 ?_
    refine lv_icmp_ge (tgt := 129) hx hb dX8_tick_66 (by decide) (fun c12 => ?_) (fun c12 => ?_)
    · have hF := brT hF c12
      exact hJ7 σ10 H locs ls hF hP hD hS (lv_sub hl [] rfl)
    · have hF := brF hF c12
      refine lv_aload_n hx hb dX8_tick_69 rfl (lv_at hl 0 rfl) ?_
      refine wi_geti hx hb hg hown hK hP 4 2 rfl rfl cb_8 (by decide) kw_178 dX8_tick_70 ?_
      refine lv_iload hx hb dX8_tick_73 (lv_at hl 1 rfl) ?_
      refine lv_ishr hx hb dX8_tick_75 ?_
      refine lv_iconst (v := (1 : Int32)) hx hb dX8_tick_76 (by decide) ?_
      refine lv_iand hx hb dX8_tick_77 ?_
      refine lv_iconst (v := (1 : Int32)) hx hb dX8_tick_78 (by decide) ?_
      refine lv_icmp_ne (tgt := 123) hx hb dX8_tick_79 (by decide) (fun c13 => ?_) (fun c13 => ?_)
      · have hF := brF hF c13
        obtain ⟨x14, ex14⟩ : ∃ z : Int32, z = (y9 + (1 : Int32)) := ⟨_, rfl⟩
        have hF := hF x14 ex14
        refine lv_iinc (v := x14) (lv' := [(4, .int x14), (0, .ref (ad 4))]) hx hb dX8_tick_123 hl (k := 1) rfl (by rw [ex14]; rfl) (by decide) rfl (fun ls hl => ?_)
        refine lv_goto (tgt := 57) hx hb dX8_tick_126 (by decide) ?_
        exact hrec11 x14 σ10 hF H locs ls hP hD hS (lv_sub hl [1, 0] rfl)
      · have hF := brT hF c13
        refine lv_aload_n hx hb dX8_tick_82 rfl (lv_at hl 0 rfl) ?_
        refine lv_dup hx hb dX8_tick_83 rfl ?_
        refine wi_geti hx hb hg hown hK hP 4 3 rfl rfl cb_8 (by decide) kw_180 dX8_tick_84 ?_
        refine lv_aload_n hx hb dX8_tick_87 rfl (lv_at hl 0 rfl) ?_
        refine wi_getr hx hb hg hown hK hP 4 0 1 rfl rfl cb_8 (by decide) kw_176 dX8_tick_88 ?_
        refine lv_aload_n hx hb dX8_tick_91 rfl (lv_at hl 0 rfl) ?_
        refine wi_getr hx hb hg hown hK hP 4 0 1 rfl rfl cb_8 (by decide) kw_176 dX8_tick_92 ?_
        refine wi_getr hx hb hg hown hK hP 1 7 10 rfl rfl cb_4 (by decide) kw_182 dX8_tick_95 ?_
        refine lv_aload_n hx hb dX8_tick_98 rfl (lv_at hl 0 rfl) ?_
        refine wi_getr hx hb hg hown hK hP 4 0 1 rfl rfl cb_8 (by decide) kw_176 dX8_tick_99 ?_
        refine wi_getr hx hb hg hown hK hP 1 11 14 rfl rfl cb_4 (by decide) kw_183 dX8_tick_102 ?_
        refine lv_iload hx hb dX8_tick_105 (lv_at hl 1 rfl) ?_
        obtain ⟨hin, hF⟩ := hF
        refine wi_iald hx hb hK hP 14 rfl hin dX8_tick_107 (fun v15 ev15 => ?_)
        have hF := hF v15 ev15
        obtain ⟨hin, hF⟩ := hF
        refine wi_iald hx hb hK hP 10 rfl hin dX8_tick_108 (fun v16 ev16 => ?_)
        have hF := hF v16 ev16
        refine lv_aload_n hx hb dX8_tick_109 rfl (lv_at hl 0 rfl) ?_
        refine wi_geti hx hb hg hown hK hP 4 1 rfl rfl cb_8 (by decide) kw_175 dX8_tick_110 ?_
        refine wi_callVi (k := 1) (As := [.int v16, .int (σ10.1 4 1)]) (c_X4_valueOf l D cy ad tL σ10 v16 (σ10.1 4 1) _ hF) vw_RX8_53 rfl cb_4 hx hb hml hown hg hK hP hD hS hA hLB rfl ⟨Nat.le_of_ble_eq_true rfl, Nat.le_of_ble_eq_true rfl⟩ hl.1 rfl (Nat.le_of_ble_eq_true rfl) dX8_tick_113 (fun r17 σ18 hw H locs hP hD hS => ?_)
        obtain ⟨hF, rfl⟩ := hw
        refine lv_iload hx hb dX8_tick_116 (lv_at hl 1 rfl) ?_
        refine lv_ishl hx hb dX8_tick_118 ?_
        refine lv_ior hx hb dX8_tick_119 ?_
        refine wi_puti hx hb hg hown hK hP hD hS 4 3 rfl rfl cb_8 (by decide) kw_180 rfl rfl rfl dX8_tick_120 (fun σ19 eσ19 H locs hP hD hS => ?_)
        have hF := hF σ19 eσ19
        obtain ⟨x20, ex20⟩ : ∃ z : Int32, z = (y9 + (1 : Int32)) := ⟨_, rfl⟩
        have hF := hF x20 ex20
        refine lv_iinc (v := x20) (lv' := [(4, .int x20), (0, .ref (ad 4))]) hx hb dX8_tick_123 hl (k := 1) rfl (by rw [ex20]; rfl) (by decide) rfl (fun ls hl => ?_)
        refine lv_goto (tgt := 57) hx hb dX8_tick_126 (by decide) ?_
        exact hrec11 x20 σ19 hF H locs ls hP hD hS (lv_sub hl [1, 0] rfl)
