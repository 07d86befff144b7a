def w_X12_walk_L122 (r16 : Int32) (y21 : Int32) (J27 : St → Prop) (rec36 : Int32 → St → Prop) (y34 : Int32) (σ35 : St) : Prop := br ((16 : Int32) ≤ y34) (J27 σ35) (br ((σ35.1 0 26) = (0 : Int32)) (br ((y34 &&& (r16 ^^^ (-1 : Int32))) = (0 : Int32)) (w_X12_trySet σ35 y21 y34 (fun σ42 => nm (y34 + (1 : Int32)) (fun x43 => rec36 x43 σ42))) (nm (y34 + (1 : Int32)) (fun x40 => rec36 x40 σ35))) (J27 σ35))
def w_X12_walk_L98 (r16 : Int32) (J18 : St → Prop) (rec23 : Int32 → St → Prop) (y21 : Int32) (σ22 : St) : Prop := br ((σ22.1 0 27) ≤ y21) (J18 σ22) (br ((σ22.1 0 26) = (0 : Int32)) (nm (σ22.1 0 38) (fun x26 => jn (α := St → Prop) (fun (σ28 : St) => br ((σ28.1 0 26) = (0 : Int32)) (ck y21 250 (nm (upI σ28 23 (y21).toNatClampNeg ((σ28.1 0 38) - x26)) (fun σ31 => nm (upI σ31 0 28 ((σ31.1 0 28) + (1 : Int32))) (fun σ32 => nm (y21 + (1 : Int32)) (fun x33 => rec23 x33 σ32))))) (nm (y21 + (1 : Int32)) (fun x30 => rec23 x30 σ28))) (fun J27 => lpE2 (w_X12_walk_L122 r16 y21 J27) (1 : Int32) σ22))) (J18 σ22))
def w_X12_walk_L47 (J8 : St → Prop) (rec46 : Int32 → St → Prop) (y44 : Int32) (σ45 : St) : Prop := br ((16 : Int32) ≤ y44) (J8 σ45) (ck y44 16 (nm (upI σ45 29 (y44).toNatClampNeg (0 : Int32)) (fun σ48 => nm (y44 + (1 : Int32)) (fun x49 => rec46 x49 σ48))))
def w_X12_walk_L26 (J6 : St → Prop) (rec52 : Int32 → St → Prop) (y50 : Int32) (σ51 : St) : Prop := br ((8 : Int32) ≤ y50) (J6 σ51) (ck y50 8 (nm (upI σ51 28 (y50).toNatClampNeg (vp_nar .boolean (0 : Int32))) (fun σ54 => nm (y50 + (1 : Int32)) (fun x55 => rec52 x55 σ54))))
def w_X12_walk (σ : St) (post : Int32 → St → Prop) : Prop := nm (upI σ 0 0 (0 : Int32)) (fun σ1 => br ((σ1.1 0 2) = (0 : Int32)) (post (-3 : Int32) σ1) (w_X12_unwalk σ1 (fun σ4 => nm (upI σ4 0 25 (1 : Int32)) (fun σ5 => jn (α := St → Prop) (fun (σ7 : St) => jn (α := St → Prop) (fun (σ9 : St) => w_X12_beginning σ9 (fun r10 => w_X12_addState σ9 r10 (-1 : Int32) (0 : Int32) (0 : Int32) (0 : Int32) (fun σ13 => w_X12_lookAtPromises σ13 (0 : Int32) r10 (-1 : Int32) (0 : Int32) (0 : Int32) (0 : Int32) (0 : Int32) (fun σ15 => w_X12_clocksThere σ15 (fun r16 => jn (α := St → Prop) (fun (σ19 : St) => br ((σ19.1 0 26) = (0 : Int32)) (post (σ19.1 0 27) σ19) (post ((-2 : Int32) - (σ19.1 0 27)) σ19)) (fun J18 => lpE2 (w_X12_walk_L98 r16 J18) (0 : Int32) σ15)))))) (fun J8 => lpE2 (w_X12_walk_L47 J8) (0 : Int32) σ7)) (fun J6 => lpE2 (w_X12_walk_L26 J6) (0 : Int32) σ5)))))
set_option maxHeartbeats 4000000 in
set_option maxRecDepth 100000 in
theorem c_X12_walk (l : Launch) (D : va_G) (cy : Nat → ClassId) (ad : Nat → Nat) (tL : Nat) (σ : St) (post : Int32 → St → Prop) (hF : w_X12_walk σ post) : Cti l yX12_walk cX12_walk 6 (some .int) 6 145 D cy ad tL dsM σ [.ref (ad 0)] post := by
  refine cti_of (by decide) (Nat.le_of_ble_eq_true rfl) ?_
  intro p e s m args below meth c A hx hb hml hr hlk hg hown hA hK H locs hP hD hS hLB ls hl
  have hown : s.vm.findClass RX12 = some m.cls := hown
  have hl : lv_has ls 6 [(0, .ref (ad 0))] := hl
  refine lv_aload_n hx hb dX12_walk_0 rfl (lv_at hl 0 rfl) ?_
  refine lv_iconst (v := (0 : Int32)) hx hb dX12_walk_1 (by decide) ?_
  refine wi_puti hx hb hg hown hK hP hD hS 0 0 rfl rfl cb_12 (by decide) kw_615 rfl rfl rfl dX12_walk_2 (fun σ1 eσ1 H locs hP hD hS => ?_)
  have hF := hF σ1 eσ1
  refine lv_aload_n hx hb dX12_walk_5 rfl (lv_at hl 0 rfl) ?_
  refine wi_geti hx hb hg hown hK hP 0 2 rfl rfl cb_12 (by decide) kw_634 dX12_walk_6 ?_
  refine lv_if_ne (tgt := 15) hx hb dX12_walk_9 (by decide) (fun c2 => ?_) (fun c2 => ?_)
  · have hF := brF hF c2
    refine lv_aload_n hx hb dX12_walk_15 rfl (lv_at hl 0 rfl) ?_
    refine wi_callVv (k := 0) (As := []) (c_X12_unwalk l D cy ad tL σ1 _ hF) vw_RX12_151 rfl cb_12 hx hb hml hown hg hK hP hD hS hA hLB rfl ⟨Nat.le_of_ble_eq_true rfl, Nat.le_of_ble_eq_true rfl⟩ hl.1 rfl (Nat.le_of_ble_eq_true rfl) dX12_walk_16 (fun σ4 hw H locs hP hD hS => ?_)
    have hF := hw
    refine lv_aload_n hx hb dX12_walk_19 rfl (lv_at hl 0 rfl) ?_
    refine lv_iconst (v := (1 : Int32)) hx hb dX12_walk_20 (by decide) ?_
    refine wi_puti hx hb hg hown hK hP hD hS 0 25 rfl rfl cb_12 (by decide) kw_624 rfl (by decide) (by decide) dX12_walk_21 (fun σ5 eσ5 H locs hP hD hS => ?_)
    have hF := hF σ5 eσ5
    refine lv_iconst (v := (0 : Int32)) hx hb dX12_walk_24 (by decide) ?_
    refine lv_istore_n (lv' := [(1, .int (0 : Int32)), (0, .ref (ad 0))]) hx hb dX12_walk_25 rfl hl (by decide) rfl (fun ls hl => ?_)
    refine jn_use hF (fun K => ∀ (σ7 : St) (H : Heap) (locs : List Loc) (ls : Array Slot), K σ7 → va_P D vwCl (wld cy ad dsM σ7) H → va_D A (wld cy ad dsM σ7) → va_S A s.heap H locs → lv_has ls 6 [(0, .ref (ad 0))] → W p l e (rmO 6 145) s m args below meth c H locs 0 0 (MQ below (va_Qi post (cBk D cy ad dsM A) A) args s 0 0 A) (F0 m 45 ls [])) (fun σ7 H locs ls hF hP hD hS hl => ?_) (fun J6 hJ6 hF => ?_)
    · refine lv_iconst (v := (0 : Int32)) hx hb dX12_walk_45 (by decide) ?_
      refine lv_istore_n (lv' := [(1, .int (0 : Int32)), (0, .ref (ad 0))]) hx hb dX12_walk_46 rfl hl (by decide) rfl (fun ls hl => ?_)
      refine jn_use hF (fun K => ∀ (σ9 : St) (H : Heap) (locs : List Loc) (ls : Array Slot), K σ9 → va_P D vwCl (wld cy ad dsM σ9) H → va_D A (wld cy ad dsM σ9) → va_S A s.heap H locs → lv_has ls 6 [(0, .ref (ad 0))] → W p l e (rmO 6 145) s m args below meth c H locs 0 0 (MQ below (va_Qi post (cBk D cy ad dsM A) A) args s 0 0 A) (F0 m 66 ls [])) (fun σ9 H locs ls hF hP hD hS hl => ?_) (fun J8 hJ8 hF => ?_)
      · refine lv_aload_n hx hb dX12_walk_66 rfl (lv_at hl 0 rfl) ?_
        refine wi_callVi (k := 0) (As := []) (c_X12_beginning l D cy ad tL σ9 _ hF) vw_RX12_147 rfl cb_12 hx hb hml hown hg hK hP hD hS hA hLB rfl ⟨Nat.le_of_ble_eq_true rfl, Nat.le_of_ble_eq_true rfl⟩ hl.1 rfl (Nat.le_of_ble_eq_true rfl) dX12_walk_67 (fun r10 σ11 hw H locs hP hD hS => ?_)
        obtain ⟨hF, rfl⟩ := hw
        refine lv_istore_n (lv' := [(1, .int r10), (0, .ref (ad 0))]) hx hb dX12_walk_70 rfl hl (by decide) rfl (fun ls hl => ?_)
        refine lv_aload_n hx hb dX12_walk_71 rfl (lv_at hl 1 rfl) ?_
        refine lv_iload_n hx hb dX12_walk_72 rfl (lv_at hl 0 rfl) ?_
        refine lv_iconst (v := (-1 : Int32)) hx hb dX12_walk_73 (by decide) ?_
        refine lv_iconst (v := (0 : Int32)) hx hb dX12_walk_74 (by decide) ?_
        refine lv_iconst (v := (0 : Int32)) hx hb dX12_walk_75 (by decide) ?_
        refine lv_iconst (v := (0 : Int32)) hx hb dX12_walk_76 (by decide) ?_
        refine wi_callVv (k := 0) (As := [.int r10, .int (-1 : Int32), .int (0 : Int32), .int (0 : Int32), .int (0 : Int32)]) (c_X12_addState l D cy ad tL σ9 r10 (-1 : Int32) (0 : Int32) (0 : Int32) (0 : Int32) _ hF) vw_RX12_255 rfl cb_12 hx hb hml hown hg hK hP hD hS hA hLB rfl ⟨Nat.le_of_ble_eq_true rfl, Nat.le_of_ble_eq_true rfl⟩ hl.1 rfl (Nat.le_of_ble_eq_true rfl) dX12_walk_77 (fun σ13 hw H locs hP hD hS => ?_)
        have hF := hw
        refine lv_aload_n hx hb dX12_walk_80 rfl (lv_at hl 1 rfl) ?_
        refine lv_iconst (v := (0 : Int32)) hx hb dX12_walk_81 (by decide) ?_
        refine lv_iload_n hx hb dX12_walk_82 rfl (lv_at hl 0 rfl) ?_
        refine lv_iconst (v := (-1 : Int32)) hx hb dX12_walk_83 (by decide) ?_
        refine lv_iconst (v := (0 : Int32)) hx hb dX12_walk_84 (by decide) ?_
        refine lv_iconst (v := (0 : Int32)) hx hb dX12_walk_85 (by decide) ?_
        refine lv_iconst (v := (0 : Int32)) hx hb dX12_walk_86 (by decide) ?_
        refine lv_iconst (v := (0 : Int32)) hx hb dX12_walk_87 (by decide) ?_
        refine wi_callVv (k := 0) (As := [.int (0 : Int32), .int r10, .int (-1 : Int32), .int (0 : Int32), .int (0 : Int32), .int (0 : Int32), .int (0 : Int32)]) (c_X12_lookAtPromises l D cy ad tL σ13 (0 : Int32) r10 (-1 : Int32) (0 : Int32) (0 : Int32) (0 : Int32) (0 : Int32) _ hF) vw_RX12_262 rfl cb_12 hx hb hml hown hg hK hP hD hS hA hLB rfl ⟨Nat.le_of_ble_eq_true rfl, Nat.le_of_ble_eq_true rfl⟩ hl.1 rfl (Nat.le_of_ble_eq_true rfl) dX12_walk_88 (fun σ15 hw H locs hP hD hS => ?_)
        have hF := hw
        refine lv_aload_n hx hb dX12_walk_91 rfl (lv_at hl 1 rfl) ?_
        refine wi_callVi (k := 0) (As := []) (c_X12_clocksThere l D cy ad tL σ15 _ hF) vw_RX12_273 rfl cb_12 hx hb hml hown hg hK hP hD hS hA hLB rfl ⟨Nat.le_of_ble_eq_true rfl, Nat.le_of_ble_eq_true rfl⟩ hl.1 rfl (Nat.le_of_ble_eq_true rfl) dX12_walk_92 (fun r16 σ17 hw H locs hP hD hS => ?_)
        obtain ⟨hF, rfl⟩ := hw
        refine lv_istore_n (lv' := [(2, .int r16), (1, .int r10), (0, .ref (ad 0))]) hx hb dX12_walk_95 rfl hl (by decide) rfl (fun ls hl => ?_)
        refine lv_iconst (v := (0 : Int32)) hx hb dX12_walk_96 (by decide) ?_
        refine lv_istore_n (lv' := [(3, .int (0 : Int32)), (2, .int r16), (1, .int r10), (0, .ref (ad 0))]) hx hb dX12_walk_97 rfl hl (by decide) rfl (fun ls hl => ?_)
        refine jn_use hF (fun K => ∀ (σ19 : St) (H : Heap) (locs : List Loc) (ls : Array Slot), K σ19 → va_P D vwCl (wld cy ad dsM σ19) H → va_D A (wld cy ad dsM σ19) → va_S A s.heap H locs → lv_has ls 6 [(0, .ref (ad 0))] → W p l e (rmO 6 145) s m args below meth c H locs 0 0 (MQ below (va_Qi post (cBk D cy ad dsM A) A) args s 0 0 A) (F0 m 194 ls [])) (fun σ19 H locs ls hF hP hD hS hl => ?_) (fun J18 hJ18 hF => ?_)
        · refine lv_aload_n hx hb dX12_walk_194 rfl (lv_at hl 0 rfl) ?_
          refine wi_geti hx hb hg hown hK hP 0 26 rfl rfl cb_12 (by decide) kw_625 dX12_walk_195 ?_
          refine lv_if_eq (tgt := 211) hx hb dX12_walk_198 (by decide) (fun c20 => ?_) (fun c20 => ?_)
          · have hF := brT hF c20
            refine lv_aload_n hx hb dX12_walk_211 rfl (lv_at hl 0 rfl) ?_
            refine wi_geti hx hb hg hown hK hP 0 27 rfl rfl cb_12 (by decide) kw_626 dX12_walk_212 ?_
            exact wi_iret hx hb hr hlk hK hP hD hS dX12_walk_215 hF
          · have hF := brF hF c20
            refine lv_bipush (v := (-2 : Int32)) hx hb dX12_walk_201 (by decide) ?_
            refine lv_aload_n hx hb dX12_walk_203 rfl (lv_at hl 0 rfl) ?_
            refine wi_geti hx hb hg hown hK hP 0 27 rfl rfl cb_12 (by decide) kw_626 dX12_walk_204 ?_
            refine lv_isub hx hb dX12_walk_207 ?_
            refine lv_goto (tgt := 215) hx hb dX12_walk_208 (by decide) ?_
            exact wi_iret hx hb hr hlk hK hP hD hS dX12_walk_215 hF
        · refine lpE2_use hF (fun (y21 : Int32) (σ22 : St) => ∀ (H : Heap) (locs : List Loc) (ls : Array Slot), va_P D vwCl (wld cy ad dsM σ22) H → va_D A (wld cy ad dsM σ22) → va_S A s.heap H locs → lv_has ls 6 [(0, .ref (ad 0)), (2, .int r16), (3, .int y21)] → W p l e (rmO 6 145) s m args below meth c H locs 0 0 (MQ below (va_Qi post (cBk D cy ad dsM A) A) args s 0 0 A) (F0 m 98 ls [])) (fun rec23 hrec23 y21 σ22 hF H locs ls hP hD hS hl => ?_) H locs ls hP hD hS (lv_sub hl [3, 1, 0] rfl)
          refine lv_iload_n hx hb dX12_walk_98 rfl (lv_at hl 2 rfl) ?_
          refine lv_aload_n hx hb dX12_walk_99 rfl (lv_at hl 0 rfl) ?_
          refine wi_geti hx hb hg hown hK hP 0 27 rfl rfl cb_12 (by decide) kw_626 dX12_walk_100 ?_
          refine lv_icmp_ge (tgt := 194) hx hb dX12_walk_103 (by decide) (fun c24 => ?_) (fun c24 => ?_)
          · have hF := brT hF c24
            exact hJ18 σ22 H locs ls hF hP hD hS (lv_sub hl [0] rfl)
          · have hF := brF hF c24
            refine lv_aload_n hx hb dX12_walk_106 rfl (lv_at hl 0 rfl) ?_
            refine wi_geti hx hb hg hown hK hP 0 26 rfl rfl cb_12 (by decide) kw_625 dX12_walk_107 ?_
            refine lv_if_ne (tgt := 194) hx hb dX12_walk_110 (by decide) (fun c25 => ?_) (fun c25 => ?_)
            · have hF := brF hF c25
              exact hJ18 σ22 H locs ls hF hP hD hS (lv_sub hl [0] rfl)
            · have hF := brT hF c25
              refine lv_aload_n hx hb dX12_walk_113 rfl (lv_at hl 0 rfl) ?_
              refine wi_geti hx hb hg hown hK hP 0 38 rfl rfl cb_12 (by decide) kw_629 dX12_walk_114 ?_
              refine lv_topi (fun x26 ex26 => ?_)
              have hF := hF x26 ex26
              refine lv_istore (lv' := [(4, .int x26), (0, .ref (ad 0)), (2, .int r16), (3, .int y21)]) hx hb dX12_walk_117 hl (by decide) rfl (fun ls hl => ?_)
              refine lv_iconst (v := (1 : Int32)) hx hb dX12_walk_119 (by decide) ?_
              refine lv_istore (lv' := [(5, .int (1 : Int32)), (4, .int x26), (0, .ref (ad 0)), (2, .int r16), (3, .int y21)]) hx hb dX12_walk_120 hl (by decide) rfl (fun ls hl => ?_)
              refine jn_use hF (fun K => ∀ (σ28 : St) (H : Heap) (locs : List Loc) (ls : Array Slot), K σ28 → va_P D vwCl (wld cy ad dsM σ28) H → va_D A (wld cy ad dsM σ28) → va_S A s.heap H locs → lv_has ls 6 [(0, .ref (ad 0)), (2, .int r16), (3, .int y21), (4, .int x26)] → W p l e (rmO 6 145) s m args below meth c H locs 0 0 (MQ below (va_Qi post (cBk D cy ad dsM A) A) args s 0 0 A) (F0 m 158 ls [])) (fun σ28 H locs ls hF hP hD hS hl => ?_) (fun J27 hJ27 hF => ?_)
              · refine lv_aload_n hx hb dX12_walk_158 rfl (lv_at hl 0 rfl) ?_
                refine wi_geti hx hb hg hown hK hP 0 26 rfl rfl cb_12 (by decide) kw_625 dX12_walk_159 ?_
                refine lv_if_ne (tgt := 188) hx hb dX12_walk_162 (by decide) (fun c29 => ?_) (fun c29 => ?_)
                · have hF := brF hF c29
                  obtain ⟨x30, ex30⟩ : ∃ z : Int32, z = (y21 + (1 : Int32)) := ⟨_, rfl⟩
                  have hF := hF x30 ex30
                  refine lv_iinc (v := x30) (lv' := [(3, .int x30), (0, .ref (ad 0)), (2, .int r16), (4, .int x26)]) hx hb dX12_walk_188 hl (k := 2) rfl (by rw [ex30]; rfl) (by decide) rfl (fun ls hl => ?_)
                  refine lv_goto (tgt := 98) hx hb dX12_walk_191 (by decide) ?_
                  exact hrec23 x30 σ28 hF H locs ls hP hD hS (lv_sub hl [1, 2, 0] rfl)
                · have hF := brT hF c29
                  refine lv_aload_n hx hb dX12_walk_165 rfl (lv_at hl 0 rfl) ?_
                  refine wi_getr hx hb hg hown hK hP 0 37 23 rfl rfl cb_12 (by decide) kw_596 dX12_walk_166 ?_
                  refine lv_iload_n hx hb dX12_walk_169 rfl (lv_at hl 2 rfl) ?_
                  refine lv_aload_n hx hb dX12_walk_170 rfl (lv_at hl 0 rfl) ?_
                  refine wi_geti hx hb hg hown hK hP 0 38 rfl rfl cb_12 (by decide) kw_629 dX12_walk_171 ?_
                  refine lv_iload hx hb dX12_walk_174 (lv_at hl 3 rfl) ?_
                  refine lv_isub hx hb dX12_walk_176 ?_
                  obtain ⟨hin, hF⟩ := hF
                  refine wi_iast hx hb hK hP hD hS 23 rfl hin dX12_walk_177 (fun σ31 eσ31 H locs hP hD hS => ?_)
                  have hF := hF σ31 eσ31
                  refine lv_aload_n hx hb dX12_walk_178 rfl (lv_at hl 0 rfl) ?_
                  refine lv_dup hx hb dX12_walk_179 rfl ?_
                  refine wi_geti hx hb hg hown hK hP 0 28 rfl rfl cb_12 (by decide) kw_627 dX12_walk_180 ?_
                  refine lv_iconst (v := (1 : Int32)) hx hb dX12_walk_183 (by decide) ?_
                  refine lv_iadd hx hb dX12_walk_184 ?_
                  refine wi_puti hx hb hg hown hK hP hD hS 0 28 rfl rfl cb_12 (by decide) kw_627 rfl rfl rfl dX12_walk_185 (fun σ32 eσ32 H locs hP hD hS => ?_)
                  have hF := hF σ32 eσ32
                  obtain ⟨x33, ex33⟩ : ∃ z : Int32, z = (y21 + (1 : Int32)) := ⟨_, rfl⟩
                  have hF := hF x33 ex33
                  refine lv_iinc (v := x33) (lv' := [(3, .int x33), (0, .ref (ad 0)), (2, .int r16), (4, .int x26)]) hx hb dX12_walk_188 hl (k := 2) rfl (by rw [ex33]; rfl) (by decide) rfl (fun ls hl => ?_)
                  refine lv_goto (tgt := 98) hx hb dX12_walk_191 (by decide) ?_
                  exact hrec23 x33 σ32 hF H locs ls hP hD hS (lv_sub hl [1, 2, 0] rfl)
              · refine lpE2_use hF (fun (y34 : Int32) (σ35 : St) => ∀ (H : Heap) (locs : List Loc) (ls : Array Slot), va_P D vwCl (wld cy ad dsM σ35) H → va_D A (wld cy ad dsM σ35) → va_S A s.heap H locs → lv_has ls 6 [(0, .ref (ad 0)), (2, .int r16), (3, .int y21), (4, .int x26), (5, .int y34)] → W p l e (rmO 6 145) s m args below meth c H locs 0 0 (MQ below (va_Qi post (cBk D cy ad dsM A) A) args s 0 0 A) (F0 m 122 ls [])) (fun rec36 hrec36 y34 σ35 hF H locs ls hP hD hS hl => ?_) H locs ls hP hD hS (lv_sub hl [2, 3, 4, 1, 0] rfl)
                refine lv_iload hx hb dX12_walk_122 (lv_at hl 4 rfl) ?_
                refine lv_bipush (v := (16 : Int32)) hx hb dX12_walk_124 (by decide) ?_
                refine lv_icmp_ge (tgt := 158) hx hb dX12_walk_126 (by decide) (fun c37 => ?_) (fun c37 => ?_)
                · have hF := brT hF c37
                  exact hJ27 σ35 H locs ls hF hP hD hS (lv_sub hl [0, 1, 2, 3] rfl)
                · have hF := brF hF c37
                  refine lv_aload_n hx hb dX12_walk_129 rfl (lv_at hl 0 rfl) ?_
                  refine wi_geti hx hb hg hown hK hP 0 26 rfl rfl cb_12 (by decide) kw_625 dX12_walk_130 ?_
                  refine lv_if_ne (tgt := 158) hx hb dX12_walk_133 (by decide) (fun c38 => ?_) (fun c38 => ?_)
                  · have hF := brF hF c38
                    exact hJ27 σ35 H locs ls hF hP hD hS (lv_sub hl [0, 1, 2, 3] rfl)
                  · have hF := brT hF c38
                    refine lv_iload hx hb dX12_walk_136 (lv_at hl 4 rfl) ?_
                    refine lv_iload_n hx hb dX12_walk_138 rfl (lv_at hl 1 rfl) ?_
                    refine lv_iconst (v := (-1 : Int32)) hx hb dX12_walk_139 (by decide) ?_
                    refine lv_ixor hx hb dX12_walk_140 ?_
                    refine lv_iand hx hb dX12_walk_141 ?_
                    refine lv_if_ne (tgt := 152) hx hb dX12_walk_142 (by decide) (fun c39 => ?_) (fun c39 => ?_)
                    · have hF := brF hF c39
                      obtain ⟨x40, ex40⟩ : ∃ z : Int32, z = (y34 + (1 : Int32)) := ⟨_, rfl⟩
                      have hF := hF x40 ex40
                      refine lv_iinc (v := x40) (lv' := [(5, .int x40), (0, .ref (ad 0)), (2, .int r16), (3, .int y21), (4, .int x26)]) hx hb dX12_walk_152 hl (k := 4) rfl (by rw [ex40]; rfl) (by decide) rfl (fun ls hl => ?_)
                      refine lv_goto (tgt := 122) hx hb dX12_walk_155 (by decide) ?_
                      exact hrec36 x40 σ35 hF H locs ls hP hD hS (lv_sub hl [1, 2, 3, 4, 0] rfl)
                    · have hF := brT hF c39
                      refine lv_aload_n hx hb dX12_walk_145 rfl (lv_at hl 0 rfl) ?_
                      refine lv_iload_n hx hb dX12_walk_146 rfl (lv_at hl 2 rfl) ?_
                      refine lv_iload hx hb dX12_walk_147 (lv_at hl 4 rfl) ?_
                      refine wi_callVv (k := 0) (As := [.int y21, .int y34]) (c_X12_trySet l D cy ad tL σ35 y21 y34 _ hF) vw_RX12_276 rfl cb_12 hx hb hml hown hg hK hP hD hS hA hLB rfl ⟨Nat.le_of_ble_eq_true rfl, Nat.le_of_ble_eq_true rfl⟩ hl.1 rfl (Nat.le_of_ble_eq_true rfl) dX12_walk_149 (fun σ42 hw H locs hP hD hS => ?_)
                      have hF := hw
                      obtain ⟨x43, ex43⟩ : ∃ z : Int32, z = (y34 + (1 : Int32)) := ⟨_, rfl⟩
                      have hF := hF x43 ex43
                      refine lv_iinc (v := x43) (lv' := [(5, .int x43), (0, .ref (ad 0)), (2, .int r16), (3, .int y21), (4, .int x26)]) hx hb dX12_walk_152 hl (k := 4) rfl (by rw [ex43]; rfl) (by decide) rfl (fun ls hl => ?_)
                      refine lv_goto (tgt := 122) hx hb dX12_walk_155 (by decide) ?_
                      exact hrec36 x43 σ42 hF H locs ls hP hD hS (lv_sub hl [1, 2, 3, 4, 0] rfl)
      · refine lpE2_use hF (fun (y44 : Int32) (σ45 : St) => ∀ (H : Heap) (locs : List Loc) (ls : Array Slot), va_P D vwCl (wld cy ad dsM σ45) H → va_D A (wld cy ad dsM σ45) → va_S A s.heap H locs → lv_has ls 6 [(0, .ref (ad 0)), (1, .int y44)] → W p l e (rmO 6 145) s m args below meth c H locs 0 0 (MQ below (va_Qi post (cBk D cy ad dsM A) A) args s 0 0 A) (F0 m 47 ls [])) (fun rec46 hrec46 y44 σ45 hF H locs ls hP hD hS hl => ?_) H locs ls hP hD hS (lv_sub hl [1, 0] rfl)
        refine lv_iload_n hx hb dX12_walk_47 rfl (lv_at hl 1 rfl) ?_
        refine lv_bipush (v := (16 : Int32)) hx hb dX12_walk_48 (by decide) ?_
        refine lv_icmp_ge (tgt := 66) hx hb dX12_walk_50 (by decide) (fun c47 => ?_) (fun c47 => ?_)
        · have hF := brT hF c47
          exact hJ8 σ45 H locs ls hF hP hD hS (lv_sub hl [0] rfl)
        · have hF := brF hF c47
          refine lv_aload_n hx hb dX12_walk_53 rfl (lv_at hl 0 rfl) ?_
          refine wi_getr hx hb hg hown hK hP 0 44 29 rfl rfl cb_12 (by decide) kw_602 dX12_walk_54 ?_
          refine lv_iload_n hx hb dX12_walk_57 rfl (lv_at hl 1 rfl) ?_
          refine lv_iconst (v := (0 : Int32)) hx hb dX12_walk_58 (by decide) ?_
          obtain ⟨hin, hF⟩ := hF
          refine wi_iast hx hb hK hP hD hS 29 rfl hin dX12_walk_59 (fun σ48 eσ48 H locs hP hD hS => ?_)
          have hF := hF σ48 eσ48
          obtain ⟨x49, ex49⟩ : ∃ z : Int32, z = (y44 + (1 : Int32)) := ⟨_, rfl⟩
          have hF := hF x49 ex49
          refine lv_iinc (v := x49) (lv' := [(1, .int x49), (0, .ref (ad 0))]) hx hb dX12_walk_60 hl (k := 1) rfl (by rw [ex49]; rfl) (by decide) rfl (fun ls hl => ?_)
          refine lv_goto (tgt := 47) hx hb dX12_walk_63 (by decide) ?_
          exact hrec46 x49 σ48 hF H locs ls hP hD hS (lv_sub hl [1, 0] rfl)
    · refine lpE2_use hF (fun (y50 : Int32) (σ51 : St) => ∀ (H : Heap) (locs : List Loc) (ls : Array Slot), va_P D vwCl (wld cy ad dsM σ51) H → va_D A (wld cy ad dsM σ51) → va_S A s.heap H locs → lv_has ls 6 [(0, .ref (ad 0)), (1, .int y50)] → W p l e (rmO 6 145) s m args below meth c H locs 0 0 (MQ below (va_Qi post (cBk D cy ad dsM A) A) args s 0 0 A) (F0 m 26 ls [])) (fun rec52 hrec52 y50 σ51 hF H locs ls hP hD hS hl => ?_) H locs ls hP hD hS (lv_sub hl [1, 0] rfl)
      refine lv_iload_n hx hb dX12_walk_26 rfl (lv_at hl 1 rfl) ?_
      refine lv_bipush (v := (8 : Int32)) hx hb dX12_walk_27 (by decide) ?_
      refine lv_icmp_ge (tgt := 45) hx hb dX12_walk_29 (by decide) (fun c53 => ?_) (fun c53 => ?_)
      · have hF := brT hF c53
        exact hJ6 σ51 H locs ls hF hP hD hS (lv_sub hl [0] rfl)
      · have hF := brF hF c53
        refine lv_aload_n hx hb dX12_walk_32 rfl (lv_at hl 0 rfl) ?_
        refine wi_getr hx hb hg hown hK hP 0 43 28 rfl rfl cb_12 (by decide) kw_601 dX12_walk_33 ?_
        refine lv_iload_n hx hb dX12_walk_36 rfl (lv_at hl 1 rfl) ?_
        refine lv_iconst (v := (0 : Int32)) hx hb dX12_walk_37 (by decide) ?_
        obtain ⟨hin, hF⟩ := hF
        refine wi_zast hx hb hK hP hD hS 28 rfl hin dX12_walk_38 (fun σ54 eσ54 H locs hP hD hS => ?_)
        have hF := hF σ54 eσ54
        obtain ⟨x55, ex55⟩ : ∃ z : Int32, z = (y50 + (1 : Int32)) := ⟨_, rfl⟩
        have hF := hF x55 ex55
        refine lv_iinc (v := x55) (lv' := [(1, .int x55), (0, .ref (ad 0))]) hx hb dX12_walk_39 hl (k := 1) rfl (by rw [ex55]; rfl) (by decide) rfl (fun ls hl => ?_)
        refine lv_goto (tgt := 26) hx hb dX12_walk_42 (by decide) ?_
        exact hrec52 x55 σ54 hF H locs ls hP hD hS (lv_sub hl [1, 0] rfl)
  · have hF := brT hF c2
    refine lv_bipush (v := (-3 : Int32)) hx hb dX12_walk_12 (by decide) ?_
    exact wi_iret hx hb hr hlk hK hP hD hS dX12_walk_14 hF
def w_X12_isState (σ : St) (a1 : Int32) (post : Int32 → Prop) : Prop := br (a1 < (0 : Int32)) (post (0 : Int32)) (br ((σ.1 0 27) ≤ a1) (post (0 : Int32)) (post (1 : Int32)))
set_option maxHeartbeats 4000000 in
set_option maxRecDepth 100000 in
theorem c_X12_isState (l : Launch) (D : va_G) (cy : Nat → ClassId) (ad : Nat → Nat) (tL : Nat) (σ : St) (a1 : Int32) (post : Int32 → Prop) (hF : w_X12_isState σ a1 post) : Cti l yX12_isState cX12_isState 2 (some .boolean) 0 0 D cy ad tL dsM σ [.ref (ad 0), .int a1] (fun r u => post r ∧ σ = u) := by
  refine cti_of (by decide) (Nat.le_of_ble_eq_true rfl) ?_
  intro p e s m args below meth c A hx hb hml hr hlk hg hown hA hK H locs hP hD hS hLB ls hl
  have hown : s.vm.findClass RX12 = some m.cls := hown
  have hl : lv_has ls 2 [(0, .ref (ad 0)), (1, .int a1)] := hl
  refine lv_iload_n hx hb dX12_isState_0 rfl (lv_at hl 1 rfl) ?_
  refine lv_if_lt (tgt := 16) hx hb dX12_isState_1 (by decide) (fun c1 => ?_) (fun c1 => ?_)
  · have hF := brT hF c1
    refine lv_iconst (v := (0 : Int32)) hx hb dX12_isState_16 (by decide) ?_
    exact wi_zret hx hb hr hlk hK hP hD hS dX12_isState_17 (by decide) ⟨hF, rfl⟩
  · have hF := brF hF c1
    refine lv_iload_n hx hb dX12_isState_4 rfl (lv_at hl 1 rfl) ?_
    refine lv_aload_n hx hb dX12_isState_5 rfl (lv_at hl 0 rfl) ?_
    refine wi_geti hx hb hg hown hK hP 0 27 rfl rfl cb_12 (by decide) kw_626 dX12_isState_6 ?_
    refine lv_icmp_ge (tgt := 16) hx hb dX12_isState_9 (by decide) (fun c2 => ?_) (fun c2 => ?_)
    · have hF := brT hF c2
      refine lv_iconst (v := (0 : Int32)) hx hb dX12_isState_16 (by decide) ?_
      exact wi_zret hx hb hr hlk hK hP hD hS dX12_isState_17 (by decide) ⟨hF, rfl⟩
    · have hF := brF hF c2
      refine lv_iconst (v := (1 : Int32)) hx hb dX12_isState_12 (by decide) ?_
      refine lv_goto (tgt := 17) hx hb dX12_isState_13 (by decide) ?_
      exact wi_zret hx hb hr hlk hK hP hD hS dX12_isState_17 (by decide) ⟨hF, rfl⟩
def w_X12_bitsOf_L7 (a1 : Int32) (σ : St) (J1 : Int32 → Prop) (rec6 : Int32 → Int32 → Int32 → Prop) (y3 : Int32) (y4 : Int32) (y5 : Int32) : Prop := br ((σ.1 0 1) ≤ y5) (J1 y3) (rd (σ.1 1) 24 y5 (fun v8 => br (v8 ≤ (4 : Int32)) (nm (y5 + (1 : Int32)) (fun x10 => rec6 y3 y4 x10)) (w_X12_bitOf a1 y5 (fun r11 => nm (y3 ||| (r11 <<< (y4 &&& 31))) (fun x13 => nm (y4 + (1 : Int32)) (fun x14 => nm (y5 + (1 : Int32)) (fun x15 => rec6 x13 x14 x15)))))))
def w_X12_bitsOf (σ : St) (a1 : Int32) (post : Int32 → Prop) : Prop := jn (α := Int32 → Prop) (fun (y2 : Int32) => post y2) (fun J1 => lpE3 (w_X12_bitsOf_L7 a1 σ J1) (0 : Int32) (0 : Int32) (0 : Int32))
set_option maxHeartbeats 4000000 in
set_option maxRecDepth 100000 in
theorem c_X12_bitsOf (l : Launch) (D : va_G) (cy : Nat → ClassId) (ad : Nat → Nat) (tL : Nat) (σ : St) (a1 : Int32) (post : Int32 → Prop) (hF : w_X12_bitsOf σ a1 post) : Cti l yX12_bitsOf cX12_bitsOf 5 (some .int) 1 21 D cy ad tL dsM σ [.ref (ad 0), .int a1] (fun r u => post r ∧ σ = u) := by
  refine cti_of (by decide) (Nat.le_of_ble_eq_true rfl) ?_
  intro p e s m args below meth c A hx hb hml hr hlk hg hown hA hK H locs hP hD hS hLB ls hl
  have hown : s.vm.findClass RX12 = some m.cls := hown
  have hl : lv_has ls 5 [(0, .ref (ad 0)), (1, .int a1)] := hl
  refine lv_iconst (v := (0 : Int32)) hx hb dX12_bitsOf_0 (by decide) ?_
  refine lv_istore_n (lv' := [(2, .int (0 : Int32)), (0, .ref (ad 0)), (1, .int a1)]) hx hb dX12_bitsOf_1 rfl hl (by decide) rfl (fun ls hl => ?_)
  refine lv_iconst (v := (0 : Int32)) hx hb dX12_bitsOf_2 (by decide) ?_
  refine lv_istore_n (lv' := [(3, .int (0 : Int32)), (2, .int (0 : Int32)), (0, .ref (ad 0)), (1, .int a1)]) hx hb dX12_bitsOf_3 rfl hl (by decide) rfl (fun ls hl => ?_)
  refine lv_iconst (v := (0 : Int32)) hx hb dX12_bitsOf_4 (by decide) ?_
  refine lv_istore (lv' := [(4, .int (0 : Int32)), (3, .int (0 : Int32)), (2, .int (0 : Int32)), (0, .ref (ad 0)), (1, .int a1)]) hx hb dX12_bitsOf_5 hl (by decide) rfl (fun ls hl => ?_)
  refine jn_use hF (fun K => ∀ (y2 : Int32) (H : Heap) (locs : List Loc) (ls : Array Slot), K y2 → va_P D vwCl (wld cy ad dsM σ) H → va_D A (wld cy ad dsM σ) → va_S A s.heap H locs → lv_has ls 5 [(2, .int y2)] → W p l e (rmO 1 21) s m args below meth c H locs 0 0 (MQ below (va_Qi (fun r u => post r ∧ σ = u) (cBk D cy ad dsM A) A) args s 0 0 A) (F0 m 47 ls [])) (fun y2 H locs ls hF hP hD hS hl => ?_) (fun J1 hJ1 hF => ?_)
  · refine lv_iload_n hx hb dX12_bitsOf_47 rfl (lv_at hl 0 rfl) ?_
    exact wi_iret hx hb hr hlk hK hP hD hS dX12_bitsOf_48 ⟨hF, rfl⟩
  · refine lpE3_use hF (fun (y3 : Int32) (y4 : Int32) (y5 : Int32) => ∀ (H : Heap) (locs : List Loc) (ls : Array Slot), va_P D vwCl (wld cy ad dsM σ) H → va_D A (wld cy ad dsM σ) → va_S A s.heap H locs → lv_has ls 5 [(0, .ref (ad 0)), (1, .int a1), (2, .int y3), (3, .int y4), (4, .int y5)] → W p l e (rmO 1 21) s m args below meth c H locs 0 0 (MQ below (va_Qi (fun r u => post r ∧ σ = u) (cBk D cy ad dsM A) A) args s 0 0 A) (F0 m 7 ls [])) (fun rec6 hrec6 y3 y4 y5 hF H locs ls hP hD hS hl => ?_) H locs ls hP hD hS (lv_sub hl [3, 4, 2, 1, 0] rfl)
    refine lv_iload hx hb dX12_bitsOf_7 (lv_at hl 4 rfl) ?_
    refine lv_aload_n hx hb dX12_bitsOf_9 rfl (lv_at hl 0 rfl) ?_
    refine wi_geti hx hb hg hown hK hP 0 1 rfl rfl cb_12 (by decide) kw_559 dX12_bitsOf_10 ?_
    refine lv_icmp_ge (tgt := 47) hx hb dX12_bitsOf_13 (by decide) (fun c7 => ?_) (fun c7 => ?_)
    · have hF := brT hF c7
      exact hJ1 y3 H locs ls hF hP hD hS (lv_sub hl [2] rfl)
    · have hF := brF hF c7
      refine lv_aload_n hx hb dX12_bitsOf_16 rfl (lv_at hl 0 rfl) ?_
      refine wi_getr hx hb hg hown hK hP 0 3 1 rfl rfl cb_12 (by decide) kw_560 dX12_bitsOf_17 ?_
      refine lv_iload hx hb dX12_bitsOf_20 (lv_at hl 4 rfl) ?_
      obtain ⟨hin, hF⟩ := hF
      refine wi_iald hx hb hK hP 1 rfl hin dX12_bitsOf_22 (fun v8 ev8 => ?_)
      have hF := hF v8 ev8
      refine lv_iconst (v := (4 : Int32)) hx hb dX12_bitsOf_23 (by decide) ?_
      refine lv_icmp_le (tgt := 41) hx hb dX12_bitsOf_24 (by decide) (fun c9 => ?_) (fun c9 => ?_)
      · have hF := brT hF c9
        obtain ⟨x10, ex10⟩ : ∃ z : Int32, z = (y5 + (1 : Int32)) := ⟨_, rfl⟩
        have hF := hF x10 ex10
        refine lv_iinc (v := x10) (lv' := [(4, .int x10), (0, .ref (ad 0)), (1, .int a1), (2, .int y3), (3, .int y4)]) hx hb dX12_bitsOf_41 hl (k := 4) rfl (by rw [ex10]; rfl) (by decide) rfl (fun ls hl => ?_)
        refine lv_goto (tgt := 7) hx hb dX12_bitsOf_44 (by decide) ?_
        exact hrec6 y3 y4 x10 hF H locs ls hP hD hS (lv_sub hl [1, 2, 3, 4, 0] rfl)
      · have hF := brF hF c9
        refine lv_iload_n hx hb dX12_bitsOf_27 rfl (lv_at hl 2 rfl) ?_
        refine lv_iload_n hx hb dX12_bitsOf_28 rfl (lv_at hl 1 rfl) ?_
        refine lv_iload hx hb dX12_bitsOf_29 (lv_at hl 4 rfl) ?_
        refine wi_callSi (As := [.int a1, .int y5]) (c_X12_bitOf l D cy ad tL σ a1 y5 _ hF) sw_RX12_133 hx hb hml hown hg hK hP hD hS hA hLB rfl ⟨Nat.le_of_ble_eq_true rfl, Nat.le_of_ble_eq_true rfl⟩ hl.1 rfl (Nat.le_of_ble_eq_true rfl) dX12_bitsOf_31 (fun r11 σ12 hw H locs hP hD hS => ?_)
        obtain ⟨hF, rfl⟩ := hw
        refine lv_iload_n hx hb dX12_bitsOf_34 rfl (lv_at hl 3 rfl) ?_
        refine lv_ishl hx hb dX12_bitsOf_35 ?_
        refine lv_ior hx hb dX12_bitsOf_36 ?_
        refine lv_topi (fun x13 ex13 => ?_)
        have hF := hF x13 ex13
        refine lv_istore_n (lv' := [(2, .int x13), (0, .ref (ad 0)), (1, .int a1), (3, .int y4), (4, .int y5)]) hx hb dX12_bitsOf_37 rfl hl (by decide) rfl (fun ls hl => ?_)
        obtain ⟨x14, ex14⟩ : ∃ z : Int32, z = (y4 + (1 : Int32)) := ⟨_, rfl⟩
        have hF := hF x14 ex14
        refine lv_iinc (v := x14) (lv' := [(3, .int x14), (2, .int x13), (0, .ref (ad 0)), (1, .int a1), (4, .int y5)]) hx hb dX12_bitsOf_38 hl (k := 3) rfl (by rw [ex14]; rfl) (by decide) rfl (fun ls hl => ?_)
        obtain ⟨x15, ex15⟩ : ∃ z : Int32, z = (y5 + (1 : Int32)) := ⟨_, rfl⟩
        have hF := hF x15 ex15
        refine lv_iinc (v := x15) (lv' := [(4, .int x15), (3, .int x14), (2, .int x13), (0, .ref (ad 0)), (1, .int a1)]) hx hb dX12_bitsOf_41 hl (k := 4) rfl (by rw [ex15]; rfl) (by decide) rfl (fun ls hl => ?_)
        refine lv_goto (tgt := 7) hx hb dX12_bitsOf_44 (by decide) ?_
        exact hrec6 x13 x14 x15 hF H locs ls hP hD hS (lv_sub hl [3, 4, 2, 1, 0] rfl)
def w_X12_state (σ : St) (a1 : Int32) (a2 : Int32) (post : Int32 → St → Prop) : Prop := nm (upI σ 0 0 (0 : Int32)) (fun σ1 => w_X12_isState σ1 a1 (fun r2 => br (r2 = (0 : Int32)) (post (-1 : Int32) σ1) (w_X12_isIn ((a2 : Int32).toInt64) (0 : Int64) (6 : Int64) (fun r5 => br (r5 = (0 : Int32)) (post (-1 : Int32) σ1) (br (a2 = (0 : Int32)) (rd (σ1.1 16) 250 a1 (fun v9 => w_X12_bitsOf σ1 v9 (fun r10 => post r10 σ1))) (br (a2 = (1 : Int32)) (rd (σ1.1 18) 250 a1 (fun v13 => br ((0 : Int32) ≤ v13) (rd (σ1.1 18) 250 a1 (fun v15 => post v15 σ1)) (post (-2 : Int32) σ1))) (br (a2 = (2 : Int32)) (rd (σ1.1 19) 250 a1 (fun v17 => post v17 σ1)) (br (a2 = (3 : Int32)) (rd (σ1.1 20) 250 a1 (fun v19 => post v19 σ1)) (br (a2 = (4 : Int32)) (rd (σ1.1 21) 250 a1 (fun v21 => post v21 σ1)) (br (a2 = (5 : Int32)) (rd (σ1.1 22) 250 a1 (fun v23 => post v23 σ1)) (rd (σ1.1 23) 250 a1 (fun v24 => post v24 σ1))))))))))))
set_option maxHeartbeats 4000000 in
set_option maxRecDepth 100000 in
theorem c_X12_state (l : Launch) (D : va_G) (cy : Nat → ClassId) (ad : Nat → Nat) (tL : Nat) (σ : St) (a1 : Int32) (a2 : Int32) (post : Int32 → St → Prop) (hF : w_X12_state σ a1 a2 post) : Cti l yX12_state cX12_state 3 (some .int) 2 45 D cy ad tL dsM σ [.ref (ad 0), .int a1, .int a2] post := by
  refine cti_of (by decide) (Nat.le_of_ble_eq_true rfl) ?_
  intro p e s m args below meth c A hx hb hml hr hlk hg hown hA hK H locs hP hD hS hLB ls hl
  have hown : s.vm.findClass RX12 = some m.cls := hown
  have hl : lv_has ls 3 [(0, .ref (ad 0)), (1, .int a1), (2, .int a2)] := hl
  refine lv_aload_n hx hb dX12_state_0 rfl (lv_at hl 0 rfl) ?_
  refine lv_iconst (v := (0 : Int32)) hx hb dX12_state_1 (by decide) ?_
  refine wi_puti hx hb hg hown hK hP hD hS 0 0 rfl rfl cb_12 (by decide) kw_615 rfl rfl rfl dX12_state_2 (fun σ1 eσ1 H locs hP hD hS => ?_)
  have hF := hF σ1 eσ1
  refine lv_aload_n hx hb dX12_state_5 rfl (lv_at hl 0 rfl) ?_
  refine lv_iload_n hx hb dX12_state_6 rfl (lv_at hl 1 rfl) ?_
  refine wi_callVi (k := 0) (As := [.int a1]) (c_X12_isState l D cy ad tL σ1 a1 _ hF) vw_RX12_280 rfl cb_12 hx hb hml hown hg hK hP hD hS hA hLB rfl ⟨Nat.le_of_ble_eq_true rfl, Nat.le_of_ble_eq_true rfl⟩ hl.1 rfl (Nat.le_of_ble_eq_true rfl) dX12_state_7 (fun r2 σ3 hw H locs hP hD hS => ?_)
  obtain ⟨hF, rfl⟩ := hw
  refine lv_if_eq (tgt := 25) hx hb dX12_state_10 (by decide) (fun c4 => ?_) (fun c4 => ?_)
  · have hF := brT hF c4
    refine lv_iconst (v := (-1 : Int32)) hx hb dX12_state_25 (by decide) ?_
    exact wi_iret hx hb hr hlk hK hP hD hS dX12_state_26 hF
  · have hF := brF hF c4
    refine lv_iload_n hx hb dX12_state_13 rfl (lv_at hl 2 rfl) ?_
    refine lv_i2l hx hb dX12_state_14 rfl ?_
    refine lv_lconst (v := (0 : Int64)) hx hb dX12_state_15 (by decide) ?_
    refine lv_ldc2 (v := (6 : Int64)) hx hb hown (hg _ kw_751) dX12_state_16 ?_
    refine wi_callSi (As := [.long ((a2 : Int32).toInt64), .long (0 : Int64), .long (6 : Int64)]) (c_X12_isIn l D cy ad tL σ1 ((a2 : Int32).toInt64) (0 : Int64) (6 : Int64) _ hF) sw_RX12_156 hx hb hml hown hg hK hP hD hS hA hLB rfl ⟨Nat.le_of_ble_eq_true rfl, Nat.le_of_ble_eq_true rfl⟩ hl.1 rfl (Nat.le_of_ble_eq_true rfl) dX12_state_19 (fun r5 σ6 hw H locs hP hD hS => ?_)
    obtain ⟨hF, rfl⟩ := hw
    refine lv_if_ne (tgt := 27) hx hb dX12_state_22 (by decide) (fun c7 => ?_) (fun c7 => ?_)
    · have hF := brF hF c7
      refine lv_iload_n hx hb dX12_state_27 rfl (lv_at hl 2 rfl) ?_
      by_cases c8 : a2 = (0 : Int32)
      · have hF := brT hF c8
        refine lv_tableIn (off := 40) (tgt := 68) hx hb dX12_state_28 (by rw [c8]; decide) (by rw [c8]; decide) (by rw [c8]; rfl) (by decide) ?_
        refine lv_aload_n hx hb dX12_state_68 rfl (lv_at hl 0 rfl) ?_
        refine lv_aload_n hx hb dX12_state_69 rfl (lv_at hl 0 rfl) ?_
        refine wi_getr hx hb hg hown hK hP 0 30 16 rfl rfl cb_12 (by decide) kw_589 dX12_state_70 ?_
        refine lv_iload_n hx hb dX12_state_73 rfl (lv_at hl 1 rfl) ?_
        obtain ⟨hin, hF⟩ := hF
        refine wi_iald hx hb hK hP 16 rfl hin dX12_state_74 (fun v9 ev9 => ?_)
        have hF := hF v9 ev9
        refine wi_callVi (k := 0) (As := [.int v9]) (c_X12_bitsOf l D cy ad tL σ1 v9 _ hF) vw_RX12_285 rfl cb_12 hx hb hml hown hg hK hP hD hS hA hLB rfl ⟨Nat.le_of_ble_eq_true rfl, Nat.le_of_ble_eq_true rfl⟩ hl.1 rfl (Nat.le_of_ble_eq_true rfl) dX12_state_75 (fun r10 σ11 hw H locs hP hD hS => ?_)
        obtain ⟨hF, rfl⟩ := hw
        exact wi_iret hx hb hr hlk hK hP hD hS dX12_state_78 hF
      · have hF := brF hF c8
        by_cases c12 : a2 = (1 : Int32)
        · have hF := brT hF c12
          refine lv_tableIn (off := 51) (tgt := 79) hx hb dX12_state_28 (by rw [c12]; decide) (by rw [c12]; decide) (by rw [c12]; rfl) (by decide) ?_
          refine lv_aload_n hx hb dX12_state_79 rfl (lv_at hl 0 rfl) ?_
          refine wi_getr hx hb hg hown hK hP 0 32 18 rfl rfl cb_12 (by decide) kw_591 dX12_state_80 ?_
          refine lv_iload_n hx hb dX12_state_83 rfl (lv_at hl 1 rfl) ?_
          obtain ⟨hin, hF⟩ := hF
          refine wi_iald hx hb hK hP 18 rfl hin dX12_state_84 (fun v13 ev13 => ?_)
          have hF := hF v13 ev13
          refine lv_if_ge (tgt := 93) hx hb dX12_state_85 (by decide) (fun c14 => ?_) (fun c14 => ?_)
          · have hF := brT hF c14
            refine lv_aload_n hx hb dX12_state_93 rfl (lv_at hl 0 rfl) ?_
            refine wi_getr hx hb hg hown hK hP 0 32 18 rfl rfl cb_12 (by decide) kw_591 dX12_state_94 ?_
            refine lv_iload_n hx hb dX12_state_97 rfl (lv_at hl 1 rfl) ?_
            obtain ⟨hin, hF⟩ := hF
            refine wi_iald hx hb hK hP 18 rfl hin dX12_state_98 (fun v15 ev15 => ?_)
            have hF := hF v15 ev15
            exact wi_iret hx hb hr hlk hK hP hD hS dX12_state_99 hF
          · have hF := brF hF c14
            refine lv_bipush (v := (-2 : Int32)) hx hb dX12_state_88 (by decide) ?_
            refine lv_goto (tgt := 99) hx hb dX12_state_90 (by decide) ?_
            exact wi_iret hx hb hr hlk hK hP hD hS dX12_state_99 hF
        · have hF := brF hF c12
          by_cases c16 : a2 = (2 : Int32)
          · have hF := brT hF c16
            refine lv_tableIn (off := 72) (tgt := 100) hx hb dX12_state_28 (by rw [c16]; decide) (by rw [c16]; decide) (by rw [c16]; rfl) (by decide) ?_
            refine lv_aload_n hx hb dX12_state_100 rfl (lv_at hl 0 rfl) ?_
            refine wi_getr hx hb hg hown hK hP 0 33 19 rfl rfl cb_12 (by decide) kw_592 dX12_state_101 ?_
            refine lv_iload_n hx hb dX12_state_104 rfl (lv_at hl 1 rfl) ?_
            obtain ⟨hin, hF⟩ := hF
            refine wi_iald hx hb hK hP 19 rfl hin dX12_state_105 (fun v17 ev17 => ?_)
            have hF := hF v17 ev17
            exact wi_iret hx hb hr hlk hK hP hD hS dX12_state_106 hF
          · have hF := brF hF c16
            by_cases c18 : a2 = (3 : Int32)
            · have hF := brT hF c18
              refine lv_tableIn (off := 79) (tgt := 107) hx hb dX12_state_28 (by rw [c18]; decide) (by rw [c18]; decide) (by rw [c18]; rfl) (by decide) ?_
              refine lv_aload_n hx hb dX12_state_107 rfl (lv_at hl 0 rfl) ?_
              refine wi_getr hx hb hg hown hK hP 0 34 20 rfl rfl cb_12 (by decide) kw_593 dX12_state_108 ?_
              refine lv_iload_n hx hb dX12_state_111 rfl (lv_at hl 1 rfl) ?_
              obtain ⟨hin, hF⟩ := hF
              refine wi_iald hx hb hK hP 20 rfl hin dX12_state_112 (fun v19 ev19 => ?_)
              have hF := hF v19 ev19
              exact wi_iret hx hb hr hlk hK hP hD hS dX12_state_113 hF
            · have hF := brF hF c18
              by_cases c20 : a2 = (4 : Int32)
              · have hF := brT hF c20
                refine lv_tableIn (off := 86) (tgt := 114) hx hb dX12_state_28 (by rw [c20]; decide) (by rw [c20]; decide) (by rw [c20]; rfl) (by decide) ?_
                refine lv_aload_n hx hb dX12_state_114 rfl (lv_at hl 0 rfl) ?_
                refine wi_getr hx hb hg hown hK hP 0 35 21 rfl rfl cb_12 (by decide) kw_594 dX12_state_115 ?_
                refine lv_iload_n hx hb dX12_state_118 rfl (lv_at hl 1 rfl) ?_
                obtain ⟨hin, hF⟩ := hF
                refine wi_iald hx hb hK hP 21 rfl hin dX12_state_119 (fun v21 ev21 => ?_)
                have hF := hF v21 ev21
                exact wi_iret hx hb hr hlk hK hP hD hS dX12_state_120 hF
              · have hF := brF hF c20
                by_cases c22 : a2 = (5 : Int32)
                · have hF := brT hF c22
                  refine lv_tableIn (off := 93) (tgt := 121) hx hb dX12_state_28 (by rw [c22]; decide) (by rw [c22]; decide) (by rw [c22]; rfl) (by decide) ?_
                  refine lv_aload_n hx hb dX12_state_121 rfl (lv_at hl 0 rfl) ?_
                  refine wi_getr hx hb hg hown hK hP 0 36 22 rfl rfl cb_12 (by decide) kw_595 dX12_state_122 ?_
                  refine lv_iload_n hx hb dX12_state_125 rfl (lv_at hl 1 rfl) ?_
                  obtain ⟨hin, hF⟩ := hF
                  refine wi_iald hx hb hK hP 22 rfl hin dX12_state_126 (fun v23 ev23 => ?_)
                  have hF := hF v23 ev23
                  exact wi_iret hx hb hr hlk hK hP hD hS dX12_state_127 hF
                · have hF := brF hF c22
                  have nc8 := lv_neT (a := 0) c8 (by decide)
                  have nc12 := lv_neT (a := 1) c12 (by decide)
                  have nc16 := lv_neT (a := 2) c16 (by decide)
                  have nc18 := lv_neT (a := 3) c18 (by decide)
                  have nc20 := lv_neT (a := 4) c20 (by decide)
                  have nc22 := lv_neT (a := 5) c22 (by decide)
                  refine lv_tableOut (tgt := 128) hx hb dX12_state_28 (by omega) (by decide) ?_
                  refine lv_aload_n hx hb dX12_state_128 rfl (lv_at hl 0 rfl) ?_
                  refine wi_getr hx hb hg hown hK hP 0 37 23 rfl rfl cb_12 (by decide) kw_596 dX12_state_129 ?_
                  refine lv_iload_n hx hb dX12_state_132 rfl (lv_at hl 1 rfl) ?_
                  obtain ⟨hin, hF⟩ := hF
                  refine wi_iald hx hb hK hP 23 rfl hin dX12_state_133 (fun v24 ev24 => ?_)
                  have hF := hF v24 ev24
                  exact wi_iret hx hb hr hlk hK hP hD hS dX12_state_134 hF
    · have hF := brT hF c7
      refine lv_iconst (v := (-1 : Int32)) hx hb dX12_state_25 (by decide) ?_
      exact wi_iret hx hb hr hlk hK hP hD hS dX12_state_26 hF
def w_X12_shown (σ : St) (a1 : Int32) (a2 : Int32) (post : Int32 → St → Prop) : Prop := nm (upI σ 0 0 (0 : Int32)) (fun σ1 => w_X12_isState σ1 a1 (fun r2 => br (r2 = (0 : Int32)) (post (-1 : Int32) σ1) (w_X12_isCell σ1 a2 (fun r5 => br (r5 = (0 : Int32)) (post (-1 : Int32) σ1) (rd (σ1.1 16) 250 a1 (fun v8 => w_X12_bitOf v8 a2 (fun r9 => post r9 σ1)))))))
set_option maxHeartbeats 4000000 in
set_option maxRecDepth 100000 in
theorem c_X12_shown (l : Launch) (D : va_G) (cy : Nat → ClassId) (ad : Nat → Nat) (tL : Nat) (σ : St) (a1 : Int32) (a2 : Int32) (post : Int32 → St → Prop) (hF : w_X12_shown σ a1 a2 post) : Cti l yX12_shown cX12_shown 3 (some .int) 1 21 D cy ad tL dsM σ [.ref (ad 0), .int a1, .int a2] post := by
  refine cti_of (by decide) (Nat.le_of_ble_eq_true rfl) ?_
  intro p e s m args below meth c A hx hb hml hr hlk hg hown hA hK H locs hP hD hS hLB ls hl
  have hown : s.vm.findClass RX12 = some m.cls := hown
  have hl : lv_has ls 3 [(0, .ref (ad 0)), (1, .int a1), (2, .int a2)] := hl
  refine lv_aload_n hx hb dX12_shown_0 rfl (lv_at hl 0 rfl) ?_
  refine lv_iconst (v := (0 : Int32)) hx hb dX12_shown_1 (by decide) ?_
  refine wi_puti hx hb hg hown hK hP hD hS 0 0 rfl rfl cb_12 (by decide) kw_615 rfl rfl rfl dX12_shown_2 (fun σ1 eσ1 H locs hP hD hS => ?_)
  have hF := hF σ1 eσ1
  refine lv_aload_n hx hb dX12_shown_5 rfl (lv_at hl 0 rfl) ?_
  refine lv_iload_n hx hb dX12_shown_6 rfl (lv_at hl 1 rfl) ?_
  refine wi_callVi (k := 0) (As := [.int a1]) (c_X12_isState l D cy ad tL σ1 a1 _ hF) vw_RX12_280 rfl cb_12 hx hb hml hown hg hK hP hD hS hA hLB rfl ⟨Nat.le_of_ble_eq_true rfl, Nat.le_of_ble_eq_true rfl⟩ hl.1 rfl (Nat.le_of_ble_eq_true rfl) dX12_shown_7 (fun r2 σ3 hw H locs hP hD hS => ?_)
  obtain ⟨hF, rfl⟩ := hw
  refine lv_if_eq (tgt := 34) hx hb dX12_shown_10 (by decide) (fun c4 => ?_) (fun c4 => ?_)
  · have hF := brT hF c4
    refine lv_iconst (v := (-1 : Int32)) hx hb dX12_shown_34 (by decide) ?_
    exact wi_iret hx hb hr hlk hK hP hD hS dX12_shown_35 hF
  · have hF := brF hF c4
    refine lv_aload_n hx hb dX12_shown_13 rfl (lv_at hl 0 rfl) ?_
    refine lv_iload_n hx hb dX12_shown_14 rfl (lv_at hl 2 rfl) ?_
    refine wi_callVi (k := 0) (As := [.int a2]) (c_X12_isCell l D cy ad tL σ1 a2 _ hF) vw_RX12_129 rfl cb_12 hx hb hml hown hg hK hP hD hS hA hLB rfl ⟨Nat.le_of_ble_eq_true rfl, Nat.le_of_ble_eq_true rfl⟩ hl.1 rfl (Nat.le_of_ble_eq_true rfl) dX12_shown_15 (fun r5 σ6 hw H locs hP hD hS => ?_)
    obtain ⟨hF, rfl⟩ := hw
    refine lv_if_eq (tgt := 34) hx hb dX12_shown_18 (by decide) (fun c7 => ?_) (fun c7 => ?_)
    · have hF := brT hF c7
      refine lv_iconst (v := (-1 : Int32)) hx hb dX12_shown_34 (by decide) ?_
      exact wi_iret hx hb hr hlk hK hP hD hS dX12_shown_35 hF
    · have hF := brF hF c7
      refine lv_aload_n hx hb dX12_shown_21 rfl (lv_at hl 0 rfl) ?_
      refine wi_getr hx hb hg hown hK hP 0 30 16 rfl rfl cb_12 (by decide) kw_589 dX12_shown_22 ?_
      refine lv_iload_n hx hb dX12_shown_25 rfl (lv_at hl 1 rfl) ?_
      obtain ⟨hin, hF⟩ := hF
      refine wi_iald hx hb hK hP 16 rfl hin dX12_shown_26 (fun v8 ev8 => ?_)
      have hF := hF v8 ev8
      refine lv_iload_n hx hb dX12_shown_27 rfl (lv_at hl 2 rfl) ?_
      refine wi_callSi (As := [.int v8, .int a2]) (c_X12_bitOf l D cy ad tL σ1 v8 a2 _ hF) sw_RX12_133 hx hb hml hown hg hK hP hD hS hA hLB rfl ⟨Nat.le_of_ble_eq_true rfl, Nat.le_of_ble_eq_true rfl⟩ hl.1 rfl (Nat.le_of_ble_eq_true rfl) dX12_shown_28 (fun r9 σ10 hw H locs hP hD hS => ?_)
      obtain ⟨hF, rfl⟩ := hw
      refine lv_goto (tgt := 35) hx hb dX12_shown_31 (by decide) ?_
      exact wi_iret hx hb hr hlk hK hP hD hS dX12_shown_35 hF
def w_X12_never (σ : St) (a1 : Int32) (a2 : Int32) (post : Int32 → St → Prop) : Prop := nm (upI σ 0 0 (0 : Int32)) (fun σ1 => br (a1 < (0 : Int32)) (post (-1 : Int32) σ1) (br ((σ1.1 0 11) ≤ a1) (post (-1 : Int32) σ1) (w_X12_isIn ((a2 : Int32).toInt64) (0 : Int64) (4 : Int64) (fun r4 => br (r4 = (0 : Int32)) (post (-1 : Int32) σ1) (jn (α := Prop) (br ((σ1.1 0 25) = (0 : Int32)) (post (-3 : Int32) σ1) (post (-2 : Int32) σ1)) (fun J7 => br ((σ1.1 0 25) = (0 : Int32)) (J7) (rd (σ1.1 28) 8 a1 (fun v10 => br (v10 = (0 : Int32)) (J7) (rd (σ1.1 27) 40 (((5 : Int32) * a1) + a2) (fun v12 => post v12 σ1))))))))))
set_option maxHeartbeats 4000000 in
set_option maxRecDepth 100000 in
theorem c_X12_never (l : Launch) (D : va_G) (cy : Nat → ClassId) (ad : Nat → Nat) (tL : Nat) (σ : St) (a1 : Int32) (a2 : Int32) (post : Int32 → St → Prop) (hF : w_X12_never σ a1 a2 post) : Cti l yX12_never cX12_never 3 (some .int) 1 25 D cy ad tL dsM σ [.ref (ad 0), .int a1, .int a2] post := by
  refine cti_of (by decide) (Nat.le_of_ble_eq_true rfl) ?_
  intro p e s m args below meth c A hx hb hml hr hlk hg hown hA hK H locs hP hD hS hLB ls hl
  have hown : s.vm.findClass RX12 = some m.cls := hown
  have hl : lv_has ls 3 [(0, .ref (ad 0)), (1, .int a1), (2, .int a2)] := hl
  refine lv_aload_n hx hb dX12_never_0 rfl (lv_at hl 0 rfl) ?_
  refine lv_iconst (v := (0 : Int32)) hx hb dX12_never_1 (by decide) ?_
  refine wi_puti hx hb hg hown hK hP hD hS 0 0 rfl rfl cb_12 (by decide) kw_615 rfl rfl rfl dX12_never_2 (fun σ1 eσ1 H locs hP hD hS => ?_)
  have hF := hF σ1 eσ1
  refine lv_iload_n hx hb dX12_never_5 rfl (lv_at hl 1 rfl) ?_
  refine lv_if_lt (tgt := 29) hx hb dX12_never_6 (by decide) (fun c2 => ?_) (fun c2 => ?_)
  · have hF := brT hF c2
    refine lv_iconst (v := (-1 : Int32)) hx hb dX12_never_29 (by decide) ?_
    exact wi_iret hx hb hr hlk hK hP hD hS dX12_never_30 hF
  · have hF := brF hF c2
    refine lv_iload_n hx hb dX12_never_9 rfl (lv_at hl 1 rfl) ?_
    refine lv_aload_n hx hb dX12_never_10 rfl (lv_at hl 0 rfl) ?_
    refine wi_geti hx hb hg hown hK hP 0 11 rfl rfl cb_12 (by decide) kw_659 dX12_never_11 ?_
    refine lv_icmp_ge (tgt := 29) hx hb dX12_never_14 (by decide) (fun c3 => ?_) (fun c3 => ?_)
    · have hF := brT hF c3
      refine lv_iconst (v := (-1 : Int32)) hx hb dX12_never_29 (by decide) ?_
      exact wi_iret hx hb hr hlk hK hP hD hS dX12_never_30 hF
    · have hF := brF hF c3
      refine lv_iload_n hx hb dX12_never_17 rfl (lv_at hl 2 rfl) ?_
      refine lv_i2l hx hb dX12_never_18 rfl ?_
      refine lv_lconst (v := (0 : Int64)) hx hb dX12_never_19 (by decide) ?_
      refine lv_ldc2 (v := (4 : Int64)) hx hb hown (hg _ kw_647) dX12_never_20 ?_
      refine wi_callSi (As := [.long ((a2 : Int32).toInt64), .long (0 : Int64), .long (4 : Int64)]) (c_X12_isIn l D cy ad tL σ1 ((a2 : Int32).toInt64) (0 : Int64) (4 : Int64) _ hF) sw_RX12_156 hx hb hml hown hg hK hP hD hS hA hLB rfl ⟨Nat.le_of_ble_eq_true rfl, Nat.le_of_ble_eq_true rfl⟩ hl.1 rfl (Nat.le_of_ble_eq_true rfl) dX12_never_23 (fun r4 σ5 hw H locs hP hD hS => ?_)
      obtain ⟨hF, rfl⟩ := hw
      refine lv_if_ne (tgt := 31) hx hb dX12_never_26 (by decide) (fun c6 => ?_) (fun c6 => ?_)
      · have hF := brF hF c6
        refine lv_aload_n hx hb dX12_never_31 rfl (lv_at hl 0 rfl) ?_
        refine wi_geti hx hb hg hown hK hP 0 25 rfl rfl cb_12 (by decide) kw_624 dX12_never_32 ?_
        refine jn_use hF (fun K => ∀ (H : Heap) (locs : List Loc) (ls : Array Slot), K → va_P D vwCl (wld cy ad dsM σ1) H → va_D A (wld cy ad dsM σ1) → va_S A s.heap H locs → lv_has ls 3 [(0, .ref (ad 0))] → W p l e (rmO 1 25) s m args below meth c H locs 0 0 (MQ below (va_Qi post (cBk D cy ad dsM A) A) args s 0 0 A) (F0 m 60 ls [])) (fun H locs ls hF hP hD hS hl => ?_) (fun J7 hJ7 hF => ?_)
        · refine lv_aload_n hx hb dX12_never_60 rfl (lv_at hl 0 rfl) ?_
          refine wi_geti hx hb hg hown hK hP 0 25 rfl rfl cb_12 (by decide) kw_624 dX12_never_61 ?_
          refine lv_if_eq (tgt := 72) hx hb dX12_never_64 (by decide) (fun c8 => ?_) (fun c8 => ?_)
          · have hF := brT hF c8
            refine lv_bipush (v := (-3 : Int32)) hx hb dX12_never_72 (by decide) ?_
            exact wi_iret hx hb hr hlk hK hP hD hS dX12_never_74 hF
          · have hF := brF hF c8
            refine lv_bipush (v := (-2 : Int32)) hx hb dX12_never_67 (by decide) ?_
            refine lv_goto (tgt := 74) hx hb dX12_never_69 (by decide) ?_
            exact wi_iret hx hb hr hlk hK hP hD hS dX12_never_74 hF
        · refine lv_if_eq (tgt := 60) hx hb dX12_never_35 (by decide) (fun c9 => ?_) (fun c9 => ?_)
          · have hF := brT hF c9
            exact hJ7  H locs ls hF hP hD hS (lv_sub hl [0] rfl)
          · have hF := brF hF c9
            refine lv_aload_n hx hb dX12_never_38 rfl (lv_at hl 0 rfl) ?_
            refine wi_getr hx hb hg hown hK hP 0 43 28 rfl rfl cb_12 (by decide) kw_601 dX12_never_39 ?_
            refine lv_iload_n hx hb dX12_never_42 rfl (lv_at hl 1 rfl) ?_
            obtain ⟨hin, hF⟩ := hF
            refine wi_zald hx hb hK hP 28 rfl hin dX12_never_43 (fun v10 ev10 => ?_)
            have hF := hF v10 ev10
            refine lv_if_eq (tgt := 60) hx hb dX12_never_44 (by decide) (fun c11 => ?_) (fun c11 => ?_)
            · have hF := brT hF c11
              exact hJ7  H locs ls hF hP hD hS (lv_sub hl [0] rfl)
            · have hF := brF hF c11
              refine lv_aload_n hx hb dX12_never_47 rfl (lv_at hl 0 rfl) ?_
              refine wi_getr hx hb hg hown hK hP 0 42 27 rfl rfl cb_12 (by decide) kw_600 dX12_never_48 ?_
              refine lv_iconst (v := (5 : Int32)) hx hb dX12_never_51 (by decide) ?_
              refine lv_iload_n hx hb dX12_never_52 rfl (lv_at hl 1 rfl) ?_
              refine lv_imul hx hb dX12_never_53 ?_
              refine lv_iload_n hx hb dX12_never_54 rfl (lv_at hl 2 rfl) ?_
              refine lv_iadd hx hb dX12_never_55 ?_
              obtain ⟨hin, hF⟩ := hF
              refine wi_iald hx hb hK hP 27 rfl hin dX12_never_56 (fun v12 ev12 => ?_)
              have hF := hF v12 ev12
              refine lv_goto (tgt := 74) hx hb dX12_never_57 (by decide) ?_
              exact wi_iret hx hb hr hlk hK hP hD hS dX12_never_74 hF
      · have hF := brT hF c6
        refine lv_iconst (v := (-1 : Int32)) hx hb dX12_never_29 (by decide) ?_
        exact wi_iret hx hb hr hlk hK hP hD hS dX12_never_30 hF
def w_X12_follow_L47 (y12 : Int32) (σ13 : St) (J17 : Int32 → Prop) (rec26 : Int32 → Prop) (y25 : Int32) : Prop := rd (σ13.1 22) 250 y25 (fun v27 => br (v27 ≤ y12) (J17 y25) (rd (σ13.1 18) 250 y25 (fun v29 => rec26 v29)))
def w_X12_follow_L35 (a1 : Int32) (J9 : St → Prop) (rec14 : Int32 → St → Prop) (y12 : Int32) (σ13 : St) : Prop := rd (σ13.1 22) 250 a1 (fun v15 => br (v15 < y12) (J9 σ13) (jn (α := Int32 → Prop) (fun (y18 : Int32) => rd (σ13.1 19) 250 y18 (fun v19 => rd (σ13.1 20) 250 y18 (fun v20 => rd (σ13.1 21) 250 y18 (fun v21 => w_X12_go σ13 v19 v20 v21 (fun σ23 => nm (y12 + (1 : Int32)) (fun x24 => rec14 x24 σ23)))))) (fun J17 => lpE1 (w_X12_follow_L47 y12 σ13 J17) a1)))
def w_X12_follow (σ : St) (a1 : Int32) (post : Int32 → St → Prop) : Prop := nm (upI σ 0 0 (0 : Int32)) (fun σ1 => w_X12_isState σ1 a1 (fun r2 => br (r2 = (0 : Int32)) (post (-1 : Int32) σ1) (rd (σ1.1 22) 250 a1 (fun v5 => br (v5 ≤ (60 : Int32)) (w_X12_begin σ1 (fun σ8 => jn (α := St → Prop) (fun (σ10 : St) => rd (σ10.1 22) 250 a1 (fun v11 => post v11 σ10)) (fun J9 => lpE2 (w_X12_follow_L35 a1 J9) (1 : Int32) σ8))) (post (-3 : Int32) σ1)))))
set_option maxHeartbeats 4000000 in
set_option maxRecDepth 100000 in
theorem c_X12_follow (l : Launch) (D : va_G) (cy : Nat → ClassId) (ad : Nat → Nat) (tL : Nat) (σ : St) (a1 : Int32) (post : Int32 → St → Prop) (hF : w_X12_follow σ a1 post) : Cti l yX12_follow cX12_follow 4 (some .int) 6 142 D cy ad tL dsM σ [.ref (ad 0), .int a1] post := by
  refine cti_of (by decide) (Nat.le_of_ble_eq_true rfl) ?_
  intro p e s m args below meth c A hx hb hml hr hlk hg hown hA hK H locs hP hD hS hLB ls hl
  have hown : s.vm.findClass RX12 = some m.cls := hown
  have hl : lv_has ls 4 [(0, .ref (ad 0)), (1, .int a1)] := hl
  refine lv_aload_n hx hb dX12_follow_0 rfl (lv_at hl 0 rfl) ?_
  refine lv_iconst (v := (0 : Int32)) hx hb dX12_follow_1 (by decide) ?_
  refine wi_puti hx hb hg hown hK hP hD hS 0 0 rfl rfl cb_12 (by decide) kw_615 rfl rfl rfl dX12_follow_2 (fun σ1 eσ1 H locs hP hD hS => ?_)
  have hF := hF σ1 eσ1
  refine lv_aload_n hx hb dX12_follow_5 rfl (lv_at hl 0 rfl) ?_
  refine lv_iload_n hx hb dX12_follow_6 rfl (lv_at hl 1 rfl) ?_
  refine wi_callVi (k := 0) (As := [.int a1]) (c_X12_isState l D cy ad tL σ1 a1 _ hF) vw_RX12_280 rfl cb_12 hx hb hml hown hg hK hP hD hS hA hLB rfl ⟨Nat.le_of_ble_eq_true rfl, Nat.le_of_ble_eq_true rfl⟩ hl.1 rfl (Nat.le_of_ble_eq_true rfl) dX12_follow_7 (fun r2 σ3 hw H locs hP hD hS => ?_)
  obtain ⟨hF, rfl⟩ := hw
  refine lv_if_ne (tgt := 15) hx hb dX12_follow_10 (by decide) (fun c4 => ?_) (fun c4 => ?_)
  · have hF := brF hF c4
    refine lv_aload_n hx hb dX12_follow_15 rfl (lv_at hl 0 rfl) ?_
    refine wi_getr hx hb hg hown hK hP 0 36 22 rfl rfl cb_12 (by decide) kw_595 dX12_follow_16 ?_
    refine lv_iload_n hx hb dX12_follow_19 rfl (lv_at hl 1 rfl) ?_
    obtain ⟨hin, hF⟩ := hF
    refine wi_iald hx hb hK hP 22 rfl hin dX12_follow_20 (fun v5 ev5 => ?_)
    have hF := hF v5 ev5
    refine lv_bipush (v := (60 : Int32)) hx hb dX12_follow_21 (by decide) ?_
    refine lv_icmp_le (tgt := 29) hx hb dX12_follow_23 (by decide) (fun c6 => ?_) (fun c6 => ?_)
    · have hF := brT hF c6
      refine lv_aload_n hx hb dX12_follow_29 rfl (lv_at hl 0 rfl) ?_
      refine wi_callVv (k := 0) (As := []) (c_X12_begin l D cy ad tL σ1 _ hF) vw_RX12_119 rfl cb_12 hx hb hml hown hg hK hP hD hS hA hLB rfl ⟨Nat.le_of_ble_eq_true rfl, Nat.le_of_ble_eq_true rfl⟩ hl.1 rfl (Nat.le_of_ble_eq_true rfl) dX12_follow_30 (fun σ8 hw H locs hP hD hS => ?_)
      have hF := hw
      refine lv_iconst (v := (1 : Int32)) hx hb dX12_follow_33 (by decide) ?_
      refine lv_istore_n (lv' := [(2, .int (1 : Int32)), (0, .ref (ad 0)), (1, .int a1)]) hx hb dX12_follow_34 rfl hl (by decide) rfl (fun ls hl => ?_)
      refine jn_use hF (fun K => ∀ (σ10 : St) (H : Heap) (locs : List Loc) (ls : Array Slot), K σ10 → va_P D vwCl (wld cy ad dsM σ10) H → va_D A (wld cy ad dsM σ10) → va_S A s.heap H locs → lv_has ls 4 [(0, .ref (ad 0)), (1, .int a1)] → W p l e (rmO 6 142) s m args below meth c H locs 0 0 (MQ below (va_Qi post (cBk D cy ad dsM A) A) args s 0 0 A) (F0 m 95 ls [])) (fun σ10 H locs ls hF hP hD hS hl => ?_) (fun J9 hJ9 hF => ?_)
      · refine lv_aload_n hx hb dX12_follow_95 rfl (lv_at hl 0 rfl) ?_
        refine wi_getr hx hb hg hown hK hP 0 36 22 rfl rfl cb_12 (by decide) kw_595 dX12_follow_96 ?_
        refine lv_iload_n hx hb dX12_follow_99 rfl (lv_at hl 1 rfl) ?_
        obtain ⟨hin, hF⟩ := hF
        refine wi_iald hx hb hK hP 22 rfl hin dX12_follow_100 (fun v11 ev11 => ?_)
        have hF := hF v11 ev11
        exact wi_iret hx hb hr hlk hK hP hD hS dX12_follow_101 hF
      · refine lpE2_use hF (fun (y12 : Int32) (σ13 : St) => ∀ (H : Heap) (locs : List Loc) (ls : Array Slot), va_P D vwCl (wld cy ad dsM σ13) H → va_D A (wld cy ad dsM σ13) → va_S A s.heap H locs → lv_has ls 4 [(0, .ref (ad 0)), (1, .int a1), (2, .int y12)] → W p l e (rmO 6 142) s m args below meth c H locs 0 0 (MQ below (va_Qi post (cBk D cy ad dsM A) A) args s 0 0 A) (F0 m 35 ls [])) (fun rec14 hrec14 y12 σ13 hF H locs ls hP hD hS hl => ?_) H locs ls hP hD hS (lv_sub hl [1, 2, 0] rfl)
        refine lv_iload_n hx hb dX12_follow_35 rfl (lv_at hl 2 rfl) ?_
        refine lv_aload_n hx hb dX12_follow_36 rfl (lv_at hl 0 rfl) ?_
        refine wi_getr hx hb hg hown hK hP 0 36 22 rfl rfl cb_12 (by decide) kw_595 dX12_follow_37 ?_
        refine lv_iload_n hx hb dX12_follow_40 rfl (lv_at hl 1 rfl) ?_
        obtain ⟨hin, hF⟩ := hF
        refine wi_iald hx hb hK hP 22 rfl hin dX12_follow_41 (fun v15 ev15 => ?_)
        have hF := hF v15 ev15
        refine lv_icmp_gt (tgt := 95) hx hb dX12_follow_42 (by decide) (fun c16 => ?_) (fun c16 => ?_)
        · have hF := brT hF c16
          exact hJ9 σ13 H locs ls hF hP hD hS (lv_sub hl [0, 1] rfl)
        · have hF := brF hF c16
          refine lv_iload_n hx hb dX12_follow_45 rfl (lv_at hl 1 rfl) ?_
          refine lv_istore_n (lv' := [(3, .int a1), (0, .ref (ad 0)), (1, .int a1), (2, .int y12)]) hx hb dX12_follow_46 rfl hl (by decide) rfl (fun ls hl => ?_)
          refine jn_use hF (fun K => ∀ (y18 : Int32) (H : Heap) (locs : List Loc) (ls : Array Slot), K y18 → va_P D vwCl (wld cy ad dsM σ13) H → va_D A (wld cy ad dsM σ13) → va_S A s.heap H locs → lv_has ls 4 [(0, .ref (ad 0)), (1, .int a1), (2, .int y12), (3, .int y18)] → W p l e (rmO 6 142) s m args below meth c H locs 0 0 (MQ below (va_Qi post (cBk D cy ad dsM A) A) args s 0 0 A) (F0 m 67 ls [])) (fun y18 H locs ls hF hP hD hS hl => ?_) (fun J17 hJ17 hF => ?_)
          · refine lv_aload_n hx hb dX12_follow_67 rfl (lv_at hl 0 rfl) ?_
            refine lv_aload_n hx hb dX12_follow_68 rfl (lv_at hl 0 rfl) ?_
            refine wi_getr hx hb hg hown hK hP 0 33 19 rfl rfl cb_12 (by decide) kw_592 dX12_follow_69 ?_
            refine lv_iload_n hx hb dX12_follow_72 rfl (lv_at hl 3 rfl) ?_
            obtain ⟨hin, hF⟩ := hF
            refine wi_iald hx hb hK hP 19 rfl hin dX12_follow_73 (fun v19 ev19 => ?_)
            have hF := hF v19 ev19
            refine lv_aload_n hx hb dX12_follow_74 rfl (lv_at hl 0 rfl) ?_
            refine wi_getr hx hb hg hown hK hP 0 34 20 rfl rfl cb_12 (by decide) kw_593 dX12_follow_75 ?_
            refine lv_iload_n hx hb dX12_follow_78 rfl (lv_at hl 3 rfl) ?_
            obtain ⟨hin, hF⟩ := hF
            refine wi_iald hx hb hK hP 20 rfl hin dX12_follow_79 (fun v20 ev20 => ?_)
            have hF := hF v20 ev20
            refine lv_aload_n hx hb dX12_follow_80 rfl (lv_at hl 0 rfl) ?_
            refine wi_getr hx hb hg hown hK hP 0 35 21 rfl rfl cb_12 (by decide) kw_594 dX12_follow_81 ?_
            refine lv_iload_n hx hb dX12_follow_84 rfl (lv_at hl 3 rfl) ?_
            obtain ⟨hin, hF⟩ := hF
            refine wi_iald hx hb hK hP 21 rfl hin dX12_follow_85 (fun v21 ev21 => ?_)
            have hF := hF v21 ev21
            refine wi_callVv (k := 0) (As := [.int v19, .int v20, .int v21]) (c_X12_go l D cy ad tL σ13 v19 v20 v21 _ hF) vw_RX12_226 rfl cb_12 hx hb hml hown hg hK hP hD hS hA hLB rfl ⟨Nat.le_of_ble_eq_true rfl, Nat.le_of_ble_eq_true rfl⟩ hl.1 rfl (Nat.le_of_ble_eq_true rfl) dX12_follow_86 (fun σ23 hw H locs hP hD hS => ?_)
            have hF := hw
            obtain ⟨x24, ex24⟩ : ∃ z : Int32, z = (y12 + (1 : Int32)) := ⟨_, rfl⟩
            have hF := hF x24 ex24
            refine lv_iinc (v := x24) (lv' := [(2, .int x24), (0, .ref (ad 0)), (1, .int a1), (3, .int y18)]) hx hb dX12_follow_89 hl (k := 2) rfl (by rw [ex24]; rfl) (by decide) rfl (fun ls hl => ?_)
            refine lv_goto (tgt := 35) hx hb dX12_follow_92 (by decide) ?_
            exact hrec14 x24 σ23 hF H locs ls hP hD hS (lv_sub hl [1, 2, 0] rfl)
          · refine lpE1_use hF (fun (y25 : Int32) => ∀ (H : Heap) (locs : List Loc) (ls : Array Slot), va_P D vwCl (wld cy ad dsM σ13) H → va_D A (wld cy ad dsM σ13) → va_S A s.heap H locs → lv_has ls 4 [(0, .ref (ad 0)), (1, .int a1), (2, .int y12), (3, .int y25)] → W p l e (rmO 6 142) s m args below meth c H locs 0 0 (MQ below (va_Qi post (cBk D cy ad dsM A) A) args s 0 0 A) (F0 m 47 ls [])) (fun rec26 hrec26 y25 hF H locs ls hP hD hS hl => ?_) H locs ls hP hD hS (lv_sub hl [1, 2, 3, 0] rfl)
            refine lv_aload_n hx hb dX12_follow_47 rfl (lv_at hl 0 rfl) ?_
            refine wi_getr hx hb hg hown hK hP 0 36 22 rfl rfl cb_12 (by decide) kw_595 dX12_follow_48 ?_
            refine lv_iload_n hx hb dX12_follow_51 rfl (lv_at hl 3 rfl) ?_
            obtain ⟨hin, hF⟩ := hF
            refine wi_iald hx hb hK hP 22 rfl hin dX12_follow_52 (fun v27 ev27 => ?_)
            have hF := hF v27 ev27
            refine lv_iload_n hx hb dX12_follow_53 rfl (lv_at hl 2 rfl) ?_
            refine lv_icmp_le (tgt := 67) hx hb dX12_follow_54 (by decide) (fun c28 => ?_) (fun c28 => ?_)
            · have hF := brT hF c28
              exact hJ17 y25 H locs ls hF hP hD hS (lv_sub hl [0, 1, 2, 3] rfl)
            · have hF := brF hF c28
              refine lv_aload_n hx hb dX12_follow_57 rfl (lv_at hl 0 rfl) ?_
              refine wi_getr hx hb hg hown hK hP 0 32 18 rfl rfl cb_12 (by decide) kw_591 dX12_follow_58 ?_
              refine lv_iload_n hx hb dX12_follow_61 rfl (lv_at hl 3 rfl) ?_
              obtain ⟨hin, hF⟩ := hF
              refine wi_iald hx hb hK hP 18 rfl hin dX12_follow_62 (fun v29 ev29 => ?_)
              have hF := hF v29 ev29
              refine lv_istore_n (lv' := [(3, .int v29), (0, .ref (ad 0)), (1, .int a1), (2, .int y12)]) hx hb dX12_follow_63 rfl hl (by decide) rfl (fun ls hl => ?_)
              refine lv_goto (tgt := 47) hx hb dX12_follow_64 (by decide) ?_
              exact hrec26 v29 hF H locs ls hP hD hS (lv_sub hl [1, 2, 3, 0] rfl)
    · have hF := brF hF c6
      refine lv_bipush (v := (-3 : Int32)) hx hb dX12_follow_26 (by decide) ?_
      exact wi_iret hx hb hr hlk hK hP hD hS dX12_follow_28 hF
  · have hF := brT hF c4
    refine lv_iconst (v := (-1 : Int32)) hx hb dX12_follow_13 (by decide) ?_
    exact wi_iret hx hb hr hlk hK hP hD hS dX12_follow_14 hF
def w_X12_fewest_L58 (J16 : Int32 → St → Prop) (rec22 : Int32 → Int32 → St → Prop) (y19 : Int32) (y20 : Int32) (σ21 : St) : Prop := br ((σ21.1 0 38) ≤ y20) (J16 y19 σ21) (rd (σ21.1 24) 20000 y20 (fun v24 => rd (σ21.1 30) 250 v24 (fun v25 => rd (σ21.1 26) 20000 y20 (fun v26 => nm (v25 + v26) (fun x27 => rd (σ21.1 24) 20000 y20 (fun v28 => rd (σ21.1 23) 250 v28 (fun v29 => br (v29 < (0 : Int32)) (nm (y20 + (1 : Int32)) (fun x31 => rec22 y19 x31 σ21)) (rd (σ21.1 25) 20000 y20 (fun v32 => rd (σ21.1 30) 250 v32 (fun v33 => br (v33 ≤ x27) (nm (y20 + (1 : Int32)) (fun x35 => rec22 y19 x35 σ21)) (rd (σ21.1 25) 20000 y20 (fun v36 => ck v36 250 (nm (upI σ21 30 (v36).toNatClampNeg x27) (fun σ37 => nm (y20 + (1 : Int32)) (fun x38 => rec22 (1 : Int32) x38 σ37)))))))))))))))
def w_X12_fewest_L50 (J7 : St → Prop) (rec14 : Int32 → St → Prop) (y12 : Int32) (σ13 : St) : Prop := br (y12 = (0 : Int32)) (J7 σ13) (jn (α := Int32 → St → Prop) (fun (y17 : Int32) (σ18 : St) => rec14 y17 σ18) (fun J16 => lpE3 (w_X12_fewest_L58 J16) (0 : Int32) (0 : Int32) σ13))
def w_X12_fewest_L17 (J5 : St → Prop) (rec41 : Int32 → St → Prop) (y39 : Int32) (σ40 : St) : Prop := br ((σ40.1 0 27) ≤ y39) (J5 σ40) (jn (α := Int32 → Prop) (fun (y44 : Int32) => ck y39 250 (nm (upI σ40 30 (y39).toNatClampNeg y44) (fun σ45 => nm (y39 + (1 : Int32)) (fun x46 => rec41 x46 σ45)))) (fun J43 => br (y39 = (0 : Int32)) (J43 (0 : Int32)) (J43 (1000000 : Int32))))
def w_X12_fewest (σ : St) (a1 : Int32) (post : Int32 → St → Prop) : Prop := nm (upI σ 0 0 (0 : Int32)) (fun σ1 => w_X12_isState σ1 a1 (fun r2 => br (r2 = (0 : Int32)) (post (-1 : Int32) σ1) (jn (α := St → Prop) (fun (σ6 : St) => jn (α := St → Prop) (fun (σ8 : St) => rd (σ8.1 30) 250 a1 (fun v9 => br (v9 = (1000000 : Int32)) (post (-2 : Int32) σ8) (rd (σ8.1 30) 250 a1 (fun v11 => post v11 σ8)))) (fun J7 => lpE2 (w_X12_fewest_L50 J7) (1 : Int32) σ6)) (fun J5 => lpE2 (w_X12_fewest_L17 J5) (0 : Int32) σ1))))
set_option maxHeartbeats 4000000 in
set_option maxRecDepth 100000 in
theorem c_X12_fewest (l : Launch) (D : va_G) (cy : Nat → ClassId) (ad : Nat → Nat) (tL : Nat) (σ : St) (a1 : Int32) (post : Int32 → St → Prop) (hF : w_X12_fewest σ a1 post) : Cti l yX12_fewest cX12_fewest 5 (some .int) 1 21 D cy ad tL dsM σ [.ref (ad 0), .int a1] post := by
  refine cti_of (by decide) (Nat.le_of_ble_eq_true rfl) ?_
  intro p e s m args below meth c A hx hb hml hr hlk hg hown hA hK H locs hP hD hS hLB ls hl
  have hown : s.vm.findClass RX12 = some m.cls := hown
  have hl : lv_has ls 5 [(0, .ref (ad 0)), (1, .int a1)] := hl
  refine lv_aload_n hx hb dX12_fewest_0 rfl (lv_at hl 0 rfl) ?_
  refine lv_iconst (v := (0 : Int32)) hx hb dX12_fewest_1 (by decide) ?_
  refine wi_puti hx hb hg hown hK hP hD hS 0 0 rfl rfl cb_12 (by decide) kw_615 rfl rfl rfl dX12_fewest_2 (fun σ1 eσ1 H locs hP hD hS => ?_)
  have hF := hF σ1 eσ1
  refine lv_aload_n hx hb dX12_fewest_5 rfl (lv_at hl 0 rfl) ?_
  refine lv_iload_n hx hb dX12_fewest_6 rfl (lv_at hl 1 rfl) ?_
  refine wi_callVi (k := 0) (As := [.int a1]) (c_X12_isState l D cy ad tL σ1 a1 _ hF) vw_RX12_280 rfl cb_12 hx hb hml hown hg hK hP hD hS hA hLB rfl ⟨Nat.le_of_ble_eq_true rfl, Nat.le_of_ble_eq_true rfl⟩ hl.1 rfl (Nat.le_of_ble_eq_true rfl) dX12_fewest_7 (fun r2 σ3 hw H locs hP hD hS => ?_)
  obtain ⟨hF, rfl⟩ := hw
  refine lv_if_ne (tgt := 15) hx hb dX12_fewest_10 (by decide) (fun c4 => ?_) (fun c4 => ?_)
  · have hF := brF hF c4
    refine lv_iconst (v := (0 : Int32)) hx hb dX12_fewest_15 (by decide) ?_
    refine lv_istore_n (lv' := [(2, .int (0 : Int32)), (0, .ref (ad 0)), (1, .int a1)]) hx hb dX12_fewest_16 rfl hl (by decide) rfl (fun ls hl => ?_)
    refine jn_use hF (fun K => ∀ (σ6 : St) (H : Heap) (locs : List Loc) (ls : Array Slot), K σ6 → va_P D vwCl (wld cy ad dsM σ6) H → va_D A (wld cy ad dsM σ6) → va_S A s.heap H locs → lv_has ls 5 [(0, .ref (ad 0)), (1, .int a1)] → W p l e (rmO 1 21) s m args below meth c H locs 0 0 (MQ below (va_Qi post (cBk D cy ad dsM A) A) args s 0 0 A) (F0 m 48 ls [])) (fun σ6 H locs ls hF hP hD hS hl => ?_) (fun J5 hJ5 hF => ?_)
    · refine lv_iconst (v := (1 : Int32)) hx hb dX12_fewest_48 (by decide) ?_
      refine lv_istore_n (lv' := [(2, .int (1 : Int32)), (0, .ref (ad 0)), (1, .int a1)]) hx hb dX12_fewest_49 rfl hl (by decide) rfl (fun ls hl => ?_)
      refine jn_use hF (fun K => ∀ (σ8 : St) (H : Heap) (locs : List Loc) (ls : Array Slot), K σ8 → va_P D vwCl (wld cy ad dsM σ8) H → va_D A (wld cy ad dsM σ8) → va_S A s.heap H locs → lv_has ls 5 [(0, .ref (ad 0)), (1, .int a1)] → W p l e (rmO 1 21) s m args below meth c H locs 0 0 (MQ below (va_Qi post (cBk D cy ad dsM A) A) args s 0 0 A) (F0 m 140 ls [])) (fun σ8 H locs ls hF hP hD hS hl => ?_) (fun J7 hJ7 hF => ?_)
      · refine lv_aload_n hx hb dX12_fewest_140 rfl (lv_at hl 0 rfl) ?_
        refine wi_getr hx hb hg hown hK hP 0 45 30 rfl rfl cb_12 (by decide) kw_603 dX12_fewest_141 ?_
        refine lv_iload_n hx hb dX12_fewest_144 rfl (lv_at hl 1 rfl) ?_
        obtain ⟨hin, hF⟩ := hF
        refine wi_iald hx hb hK hP 30 rfl hin dX12_fewest_145 (fun v9 ev9 => ?_)
        have hF := hF v9 ev9
        refine lv_ldcw (v := (1000000 : Int32)) hx hb hown (hg _ kw_763) dX12_fewest_146 ?_
        refine lv_icmp_ne (tgt := 157) hx hb dX12_fewest_149 (by decide) (fun c10 => ?_) (fun c10 => ?_)
        · have hF := brF hF c10
          refine lv_aload_n hx hb dX12_fewest_157 rfl (lv_at hl 0 rfl) ?_
          refine wi_getr hx hb hg hown hK hP 0 45 30 rfl rfl cb_12 (by decide) kw_603 dX12_fewest_158 ?_
          refine lv_iload_n hx hb dX12_fewest_161 rfl (lv_at hl 1 rfl) ?_
          obtain ⟨hin, hF⟩ := hF
          refine wi_iald hx hb hK hP 30 rfl hin dX12_fewest_162 (fun v11 ev11 => ?_)
          have hF := hF v11 ev11
          exact wi_iret hx hb hr hlk hK hP hD hS dX12_fewest_163 hF
        · have hF := brT hF c10
          refine lv_bipush (v := (-2 : Int32)) hx hb dX12_fewest_152 (by decide) ?_
          refine lv_goto (tgt := 163) hx hb dX12_fewest_154 (by decide) ?_
          exact wi_iret hx hb hr hlk hK hP hD hS dX12_fewest_163 hF
      · refine lpE2_use hF (fun (y12 : Int32) (σ13 : St) => ∀ (H : Heap) (locs : List Loc) (ls : Array Slot), va_P D vwCl (wld cy ad dsM σ13) H → va_D A (wld cy ad dsM σ13) → va_S A s.heap H locs → lv_has ls 5 [(0, .ref (ad 0)), (1, .int a1), (2, .int y12)] → W p l e (rmO 1 21) s m args below meth c H locs 0 0 (MQ below (va_Qi post (cBk D cy ad dsM A) A) args s 0 0 A) (F0 m 50 ls [])) (fun rec14 hrec14 y12 σ13 hF H locs ls hP hD hS hl => ?_) H locs ls hP hD hS (lv_sub hl [1, 2, 0] rfl)
        refine lv_iload_n hx hb dX12_fewest_50 rfl (lv_at hl 2 rfl) ?_
        refine lv_if_eq (tgt := 140) hx hb dX12_fewest_51 (by decide) (fun c15 => ?_) (fun c15 => ?_)
        · have hF := brT hF c15
          exact hJ7 σ13 H locs ls hF hP hD hS (lv_sub hl [0, 1] rfl)
        · have hF := brF hF c15
          refine lv_iconst (v := (0 : Int32)) hx hb dX12_fewest_54 (by decide) ?_
          refine lv_istore_n (lv' := [(2, .int (0 : Int32)), (0, .ref (ad 0)), (1, .int a1)]) hx hb dX12_fewest_55 rfl hl (by decide) rfl (fun ls hl => ?_)
          refine lv_iconst (v := (0 : Int32)) hx hb dX12_fewest_56 (by decide) ?_
          refine lv_istore_n (lv' := [(3, .int (0 : Int32)), (2, .int (0 : Int32)), (0, .ref (ad 0)), (1, .int a1)]) hx hb dX12_fewest_57 rfl hl (by decide) rfl (fun ls hl => ?_)
          refine jn_use hF (fun K => ∀ (y17 : Int32) (σ18 : St) (H : Heap) (locs : List Loc) (ls : Array Slot), K y17 σ18 → va_P D vwCl (wld cy ad dsM σ18) H → va_D A (wld cy ad dsM σ18) → va_S A s.heap H locs → lv_has ls 5 [(0, .ref (ad 0)), (1, .int a1), (2, .int y17)] → W p l e (rmO 1 21) s m args below meth c H locs 0 0 (MQ below (va_Qi post (cBk D cy ad dsM A) A) args s 0 0 A) (F0 m 137 ls [])) (fun y17 σ18 H locs ls hF hP hD hS hl => ?_) (fun J16 hJ16 hF => ?_)
          · refine lv_goto (tgt := 50) hx hb dX12_fewest_137 (by decide) ?_
            exact hrec14 y17 σ18 hF H locs ls hP hD hS (lv_sub hl [0, 1, 2] rfl)
          · refine lpE3_use hF (fun (y19 : Int32) (y20 : Int32) (σ21 : St) => ∀ (H : Heap) (locs : List Loc) (ls : Array Slot), va_P D vwCl (wld cy ad dsM σ21) H → va_D A (wld cy ad dsM σ21) → va_S A s.heap H locs → lv_has ls 5 [(0, .ref (ad 0)), (1, .int a1), (2, .int y19), (3, .int y20)] → W p l e (rmO 1 21) s m args below meth c H locs 0 0 (MQ below (va_Qi post (cBk D cy ad dsM A) A) args s 0 0 A) (F0 m 58 ls [])) (fun rec22 hrec22 y19 y20 σ21 hF H locs ls hP hD hS hl => ?_) H locs ls hP hD hS (lv_sub hl [2, 3, 1, 0] rfl)
            refine lv_iload_n hx hb dX12_fewest_58 rfl (lv_at hl 3 rfl) ?_
            refine lv_aload_n hx hb dX12_fewest_59 rfl (lv_at hl 0 rfl) ?_
            refine wi_geti hx hb hg hown hK hP 0 38 rfl rfl cb_12 (by decide) kw_629 dX12_fewest_60 ?_
            refine lv_icmp_ge (tgt := 137) hx hb dX12_fewest_63 (by decide) (fun c23 => ?_) (fun c23 => ?_)
            · have hF := brT hF c23
              exact hJ16 y19 σ21 H locs ls hF hP hD hS (lv_sub hl [0, 1, 2] rfl)
            · have hF := brF hF c23
              refine lv_aload_n hx hb dX12_fewest_66 rfl (lv_at hl 0 rfl) ?_
              refine wi_getr hx hb hg hown hK hP 0 45 30 rfl rfl cb_12 (by decide) kw_603 dX12_fewest_67 ?_
              refine lv_aload_n hx hb dX12_fewest_70 rfl (lv_at hl 0 rfl) ?_
              refine wi_getr hx hb hg hown hK hP 0 39 24 rfl rfl cb_12 (by decide) kw_597 dX12_fewest_71 ?_
              refine lv_iload_n hx hb dX12_fewest_74 rfl (lv_at hl 3 rfl) ?_
              obtain ⟨hin, hF⟩ := hF
              refine wi_iald hx hb hK hP 24 rfl hin dX12_fewest_75 (fun v24 ev24 => ?_)
              have hF := hF v24 ev24
              obtain ⟨hin, hF⟩ := hF
              refine wi_iald hx hb hK hP 30 rfl hin dX12_fewest_76 (fun v25 ev25 => ?_)
              have hF := hF v25 ev25
              refine lv_aload_n hx hb dX12_fewest_77 rfl (lv_at hl 0 rfl) ?_
              refine wi_getr hx hb hg hown hK hP 0 41 26 rfl rfl cb_12 (by decide) kw_599 dX12_fewest_78 ?_
              refine lv_iload_n hx hb dX12_fewest_81 rfl (lv_at hl 3 rfl) ?_
              obtain ⟨hin, hF⟩ := hF
              refine wi_iald hx hb hK hP 26 rfl hin dX12_fewest_82 (fun v26 ev26 => ?_)
              have hF := hF v26 ev26
              refine lv_iadd hx hb dX12_fewest_83 ?_
              refine lv_topi (fun x27 ex27 => ?_)
              have hF := hF x27 ex27
              refine lv_istore (lv' := [(4, .int x27), (0, .ref (ad 0)), (1, .int a1), (2, .int y19), (3, .int y20)]) hx hb dX12_fewest_84 hl (by decide) rfl (fun ls hl => ?_)
              refine lv_aload_n hx hb dX12_fewest_86 rfl (lv_at hl 1 rfl) ?_
              refine wi_getr hx hb hg hown hK hP 0 37 23 rfl rfl cb_12 (by decide) kw_596 dX12_fewest_87 ?_
              refine lv_aload_n hx hb dX12_fewest_90 rfl (lv_at hl 1 rfl) ?_
              refine wi_getr hx hb hg hown hK hP 0 39 24 rfl rfl cb_12 (by decide) kw_597 dX12_fewest_91 ?_
              refine lv_iload_n hx hb dX12_fewest_94 rfl (lv_at hl 4 rfl) ?_
              obtain ⟨hin, hF⟩ := hF
              refine wi_iald hx hb hK hP 24 rfl hin dX12_fewest_95 (fun v28 ev28 => ?_)
              have hF := hF v28 ev28
              obtain ⟨hin, hF⟩ := hF
              refine wi_iald hx hb hK hP 23 rfl hin dX12_fewest_96 (fun v29 ev29 => ?_)
              have hF := hF v29 ev29
              refine lv_if_lt (tgt := 131) hx hb dX12_fewest_97 (by decide) (fun c30 => ?_) (fun c30 => ?_)
              · have hF := brT hF c30
                obtain ⟨x31, ex31⟩ : ∃ z : Int32, z = (y20 + (1 : Int32)) := ⟨_, rfl⟩
                have hF := hF x31 ex31
                refine lv_iinc (v := x31) (lv' := [(3, .int x31), (4, .int x27), (0, .ref (ad 0)), (1, .int a1), (2, .int y19)]) hx hb dX12_fewest_131 hl (k := 4) rfl (by rw [ex31]; rfl) (by decide) rfl (fun ls hl => ?_)
                refine lv_goto (tgt := 58) hx hb dX12_fewest_134 (by decide) ?_
                exact hrec22 y19 x31 σ21 hF H locs ls hP hD hS (lv_sub hl [2, 3, 4, 0] rfl)
              · have hF := brF hF c30
                refine lv_iload hx hb dX12_fewest_100 (lv_at hl 0 rfl) ?_
                refine lv_aload_n hx hb dX12_fewest_102 rfl (lv_at hl 1 rfl) ?_
                refine wi_getr hx hb hg hown hK hP 0 45 30 rfl rfl cb_12 (by decide) kw_603 dX12_fewest_103 ?_
                refine lv_aload_n hx hb dX12_fewest_106 rfl (lv_at hl 1 rfl) ?_
                refine wi_getr hx hb hg hown hK hP 0 40 25 rfl rfl cb_12 (by decide) kw_598 dX12_fewest_107 ?_
                refine lv_iload_n hx hb dX12_fewest_110 rfl (lv_at hl 4 rfl) ?_
                obtain ⟨hin, hF⟩ := hF
                refine wi_iald hx hb hK hP 25 rfl hin dX12_fewest_111 (fun v32 ev32 => ?_)
                have hF := hF v32 ev32
                obtain ⟨hin, hF⟩ := hF
                refine wi_iald hx hb hK hP 30 rfl hin dX12_fewest_112 (fun v33 ev33 => ?_)
                have hF := hF v33 ev33
                refine lv_icmp_ge (tgt := 131) hx hb dX12_fewest_113 (by decide) (fun c34 => ?_) (fun c34 => ?_)
                · have hF := brT hF c34
                  obtain ⟨x35, ex35⟩ : ∃ z : Int32, z = (y20 + (1 : Int32)) := ⟨_, rfl⟩
                  have hF := hF x35 ex35
                  refine lv_iinc (v := x35) (lv' := [(3, .int x35), (4, .int x27), (0, .ref (ad 0)), (1, .int a1), (2, .int y19)]) hx hb dX12_fewest_131 hl (k := 4) rfl (by rw [ex35]; rfl) (by decide) rfl (fun ls hl => ?_)
                  refine lv_goto (tgt := 58) hx hb dX12_fewest_134 (by decide) ?_
                  exact hrec22 y19 x35 σ21 hF H locs ls hP hD hS (lv_sub hl [2, 3, 4, 0] rfl)
                · have hF := brF hF c34
                  refine lv_aload_n hx hb dX12_fewest_116 rfl (lv_at hl 1 rfl) ?_
                  refine wi_getr hx hb hg hown hK hP 0 45 30 rfl rfl cb_12 (by decide) kw_603 dX12_fewest_117 ?_
                  refine lv_aload_n hx hb dX12_fewest_120 rfl (lv_at hl 1 rfl) ?_
                  refine wi_getr hx hb hg hown hK hP 0 40 25 rfl rfl cb_12 (by decide) kw_598 dX12_fewest_121 ?_
                  refine lv_iload_n hx hb dX12_fewest_124 rfl (lv_at hl 4 rfl) ?_
                  obtain ⟨hin, hF⟩ := hF
                  refine wi_iald hx hb hK hP 25 rfl hin dX12_fewest_125 (fun v36 ev36 => ?_)
                  have hF := hF v36 ev36
                  refine lv_iload hx hb dX12_fewest_126 (lv_at hl 0 rfl) ?_
                  obtain ⟨hin, hF⟩ := hF
                  refine wi_iast hx hb hK hP hD hS 30 rfl hin dX12_fewest_128 (fun σ37 eσ37 H locs hP hD hS => ?_)
                  have hF := hF σ37 eσ37
                  refine lv_iconst (v := (1 : Int32)) hx hb dX12_fewest_129 (by decide) ?_
                  refine lv_istore_n (lv' := [(2, .int (1 : Int32)), (4, .int x27), (0, .ref (ad 0)), (1, .int a1), (3, .int y20)]) hx hb dX12_fewest_130 rfl hl (by decide) rfl (fun ls hl => ?_)
                  obtain ⟨x38, ex38⟩ : ∃ z : Int32, z = (y20 + (1 : Int32)) := ⟨_, rfl⟩
                  have hF := hF x38 ex38
                  refine lv_iinc (v := x38) (lv' := [(3, .int x38), (2, .int (1 : Int32)), (4, .int x27), (0, .ref (ad 0)), (1, .int a1)]) hx hb dX12_fewest_131 hl (k := 4) rfl (by rw [ex38]; rfl) (by decide) rfl (fun ls hl => ?_)
                  refine lv_goto (tgt := 58) hx hb dX12_fewest_134 (by decide) ?_
                  exact hrec22 (1 : Int32) x38 σ37 hF H locs ls hP hD hS (lv_sub hl [3, 4, 1, 0] rfl)
    · refine lpE2_use hF (fun (y39 : Int32) (σ40 : St) => ∀ (H : Heap) (locs : List Loc) (ls : Array Slot), va_P D vwCl (wld cy ad dsM σ40) H → va_D A (wld cy ad dsM σ40) → va_S A s.heap H locs → lv_has ls 5 [(0, .ref (ad 0)), (1, .int a1), (2, .int y39)] → W p l e (rmO 1 21) s m args below meth c H locs 0 0 (MQ below (va_Qi post (cBk D cy ad dsM A) A) args s 0 0 A) (F0 m 17 ls [])) (fun rec41 hrec41 y39 σ40 hF H locs ls hP hD hS hl => ?_) H locs ls hP hD hS (lv_sub hl [1, 2, 0] rfl)
      refine lv_iload_n hx hb dX12_fewest_17 rfl (lv_at hl 2 rfl) ?_
      refine lv_aload_n hx hb dX12_fewest_18 rfl (lv_at hl 0 rfl) ?_
      refine wi_geti hx hb hg hown hK hP 0 27 rfl rfl cb_12 (by decide) kw_626 dX12_fewest_19 ?_
      refine lv_icmp_ge (tgt := 48) hx hb dX12_fewest_22 (by decide) (fun c42 => ?_) (fun c42 => ?_)
      · have hF := brT hF c42
        exact hJ5 σ40 H locs ls hF hP hD hS (lv_sub hl [0, 1] rfl)
      · have hF := brF hF c42
        refine lv_aload_n hx hb dX12_fewest_25 rfl (lv_at hl 0 rfl) ?_
        refine wi_getr hx hb hg hown hK hP 0 45 30 rfl rfl cb_12 (by decide) kw_603 dX12_fewest_26 ?_
        refine lv_iload_n hx hb dX12_fewest_29 rfl (lv_at hl 2 rfl) ?_
        refine lv_iload_n hx hb dX12_fewest_30 rfl (lv_at hl 2 rfl) ?_
        refine jn_use hF (fun K => ∀ (y44 : Int32) (H : Heap) (locs : List Loc) (ls : Array Slot), K y44 → va_P D vwCl (wld cy ad dsM σ40) H → va_D A (wld cy ad dsM σ40) → va_S A s.heap H locs → lv_has ls 5 [(0, .ref (ad 0)), (1, .int a1), (2, .int y39)] → W p l e (rmO 1 21) s m args below meth c H locs 0 0 (MQ below (va_Qi post (cBk D cy ad dsM A) A) args s 0 0 A) (F0 m 41 ls [.int y44, .int y39, .ref (ad 30)])) (fun y44 H locs ls hF hP hD hS hl => ?_) (fun J43 hJ43 hF => ?_)
        · obtain ⟨hin, hF⟩ := hF
          refine wi_iast hx hb hK hP hD hS 30 rfl hin dX12_fewest_41 (fun σ45 eσ45 H locs hP hD hS => ?_)
          have hF := hF σ45 eσ45
          obtain ⟨x46, ex46⟩ : ∃ z : Int32, z = (y39 + (1 : Int32)) := ⟨_, rfl⟩
          have hF := hF x46 ex46
          refine lv_iinc (v := x46) (lv' := [(2, .int x46), (0, .ref (ad 0)), (1, .int a1)]) hx hb dX12_fewest_42 hl (k := 2) rfl (by rw [ex46]; rfl) (by decide) rfl (fun ls hl => ?_)
          refine lv_goto (tgt := 17) hx hb dX12_fewest_45 (by decide) ?_
          exact hrec41 x46 σ45 hF H locs ls hP hD hS (lv_sub hl [1, 2, 0] rfl)
        · refine lv_if_ne (tgt := 38) hx hb dX12_fewest_31 (by decide) (fun c47 => ?_) (fun c47 => ?_)
          · have hF := brF hF c47
            refine lv_ldcw (v := (1000000 : Int32)) hx hb hown (hg _ kw_763) dX12_fewest_38 ?_
            exact hJ43 (1000000 : Int32) H locs ls hF hP hD hS (lv_sub hl [0, 1, 2] rfl)
          · have hF := brT hF c47
            refine lv_iconst (v := (0 : Int32)) hx hb dX12_fewest_34 (by decide) ?_
            refine lv_goto (tgt := 41) hx hb dX12_fewest_35 (by decide) ?_
            exact hJ43 (0 : Int32) H locs ls hF hP hD hS (lv_sub hl [0, 1, 2] rfl)
  · have hF := brT hF c4
    refine lv_iconst (v := (-1 : Int32)) hx hb dX12_fewest_13 (by decide) ?_
    exact wi_iret hx hb hr hlk hK hP hD hS dX12_fewest_14 hF
