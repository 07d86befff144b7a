def w_X11_moment (σ : St) (a1 : Int32) (a2 : Int32) (a3 : Int32) (post : Int32 → St → Prop) : Prop := br (a1 < (1 : Int32)) (post (-1 : Int32) σ) (br ((16 : Int32) ≤ a1) (post (-1 : Int32) σ) (br (a2 < (0 : Int32)) (post (-1 : Int32) σ) (br ((0 : Int32) ≤ a3) (w_X7_go σ a1 a2 a3 (fun r5 σ6 => post r5 σ6)) (post (-1 : Int32) σ))))
set_option maxHeartbeats 4000000 in
set_option maxRecDepth 100000 in
theorem c_X11_moment (l : Launch) (D : va_G) (cy : Nat → ClassId) (ad : Nat → Nat) (tL : Nat) (σ : St) (a1 : Int32) (a2 : Int32) (a3 : Int32) (post : Int32 → St → Prop) (hF : w_X11_moment σ a1 a2 a3 post) : Cti l yX11_moment cX11_moment 4 (some .int) 4 106 D cy ad tL dsC σ [.ref (ad 0), .int a1, .int a2, .int a3] post := by
  refine cti_of (by decide) (Nat.le_of_ble_eq_true rfl) ?_
  intro p e s m args below meth c A hx hb hml hr hlk hg hown hA hK H locs hP hD hS hLB ls hl
  have hown : s.vm.findClass RX11 = some m.cls := hown
  have hl : lv_has ls 4 [(0, .ref (ad 0)), (1, .int a1), (2, .int a2), (3, .int a3)] := hl
  refine lv_iload_n hx hb dX11_moment_0 rfl (lv_at hl 1 rfl) ?_
  refine lv_iconst (v := (1 : Int32)) hx hb dX11_moment_1 (by decide) ?_
  refine lv_icmp_lt (tgt := 19) hx hb dX11_moment_2 (by decide) (fun c1 => ?_) (fun c1 => ?_)
  · have hF := brT hF c1
    refine lv_iconst (v := (-1 : Int32)) hx hb dX11_moment_19 (by decide) ?_
    exact wi_iret hx hb hr hlk hK hP hD hS dX11_moment_20 hF
  · have hF := brF hF c1
    refine lv_iload_n hx hb dX11_moment_5 rfl (lv_at hl 1 rfl) ?_
    refine lv_bipush (v := (16 : Int32)) hx hb dX11_moment_6 (by decide) ?_
    refine lv_icmp_ge (tgt := 19) hx hb dX11_moment_8 (by decide) (fun c2 => ?_) (fun c2 => ?_)
    · have hF := brT hF c2
      refine lv_iconst (v := (-1 : Int32)) hx hb dX11_moment_19 (by decide) ?_
      exact wi_iret hx hb hr hlk hK hP hD hS dX11_moment_20 hF
    · have hF := brF hF c2
      refine lv_iload_n hx hb dX11_moment_11 rfl (lv_at hl 2 rfl) ?_
      refine lv_if_lt (tgt := 19) hx hb dX11_moment_12 (by decide) (fun c3 => ?_) (fun c3 => ?_)
      · have hF := brT hF c3
        refine lv_iconst (v := (-1 : Int32)) hx hb dX11_moment_19 (by decide) ?_
        exact wi_iret hx hb hr hlk hK hP hD hS dX11_moment_20 hF
      · have hF := brF hF c3
        refine lv_iload_n hx hb dX11_moment_15 rfl (lv_at hl 3 rfl) ?_
        refine lv_if_ge (tgt := 21) hx hb dX11_moment_16 (by decide) (fun c4 => ?_) (fun c4 => ?_)
        · have hF := brT hF c4
          refine lv_aload_n hx hb dX11_moment_21 rfl (lv_at hl 0 rfl) ?_
          refine wi_getr hx hb hg hown hK hP 0 3 5 rfl rfl cb_11 (by decide) kw_360 dX11_moment_22 ?_
          refine lv_iload_n hx hb dX11_moment_25 rfl (lv_at hl 1 rfl) ?_
          refine lv_iload_n hx hb dX11_moment_26 rfl (lv_at hl 2 rfl) ?_
          refine lv_iload_n hx hb dX11_moment_27 rfl (lv_at hl 3 rfl) ?_
          refine wi_callVi (k := 5) (As := [.int a1, .int a2, .int a3]) (c_X7_go l D cy ad tL σ a1 a2 a3 _ hF) vw_RX11_120 rfl cb_7 hx hb hml hown hg hK hP hD hS hA hLB rfl ⟨Nat.le_of_ble_eq_true rfl, Nat.le_of_ble_eq_true rfl⟩ hl.1 rfl (Nat.le_of_ble_eq_true rfl) dX11_moment_28 (fun r5 σ6 hw H locs hP hD hS => ?_)
          have hF := hw
          exact wi_iret hx hb hr hlk hK hP hD hS dX11_moment_31 hF
        · have hF := brF hF c4
          refine lv_iconst (v := (-1 : Int32)) hx hb dX11_moment_19 (by decide) ?_
          exact wi_iret hx hb hr hlk hK hP hD hS dX11_moment_20 hF
def w_X11_value (σ : St) (a1 : Int32) (post : Int32 → Prop) : Prop := w_X4_isCell σ a1 (fun r1 => br (r1 = (0 : Int32)) (post (-1 : Int32)) (w_X7_bitsNow σ (fun r4 => w_X4_valueOf σ a1 r4 (fun r6 => post r6))))
set_option maxHeartbeats 4000000 in
set_option maxRecDepth 100000 in
theorem c_X11_value (l : Launch) (D : va_G) (cy : Nat → ClassId) (ad : Nat → Nat) (tL : Nat) (σ : St) (a1 : Int32) (post : Int32 → Prop) (hF : w_X11_value σ a1 post) : Cti l yX11_value cX11_value 2 (some .int) 1 22 D cy ad tL dsC σ [.ref (ad 0), .int a1] (fun r u => post r ∧ σ = u) := by
  refine cti_of (by decide) (Nat.le_of_ble_eq_true rfl) ?_
  intro p e s m args below meth c A hx hb hml hr hlk hg hown hA hK H locs hP hD hS hLB ls hl
  have hown : s.vm.findClass RX11 = some m.cls := hown
  have hl : lv_has ls 2 [(0, .ref (ad 0)), (1, .int a1)] := hl
  refine lv_aload_n hx hb dX11_value_0 rfl (lv_at hl 0 rfl) ?_
  refine wi_getr hx hb hg hown hK hP 0 0 1 rfl rfl cb_11 (by decide) kw_349 dX11_value_1 ?_
  refine lv_iload_n hx hb dX11_value_4 rfl (lv_at hl 1 rfl) ?_
  refine wi_callVi (k := 1) (As := [.int a1]) (c_X4_isCell l D cy ad tL σ a1 _ hF) vw_RX11_67 rfl cb_4 hx hb hml hown hg hK hP hD hS hA hLB rfl ⟨Nat.le_of_ble_eq_true rfl, Nat.le_of_ble_eq_true rfl⟩ hl.1 rfl (Nat.le_of_ble_eq_true rfl) dX11_value_5 (fun r1 σ2 hw H locs hP hD hS => ?_)
  obtain ⟨hF, rfl⟩ := hw
  refine lv_if_ne (tgt := 13) hx hb dX11_value_8 (by decide) (fun c3 => ?_) (fun c3 => ?_)
  · have hF := brF hF c3
    refine lv_aload_n hx hb dX11_value_13 rfl (lv_at hl 0 rfl) ?_
    refine wi_getr hx hb hg hown hK hP 0 0 1 rfl rfl cb_11 (by decide) kw_349 dX11_value_14 ?_
    refine lv_iload_n hx hb dX11_value_17 rfl (lv_at hl 1 rfl) ?_
    refine lv_aload_n hx hb dX11_value_18 rfl (lv_at hl 0 rfl) ?_
    refine wi_getr hx hb hg hown hK hP 0 3 5 rfl rfl cb_11 (by decide) kw_360 dX11_value_19 ?_
    refine wi_callVi (k := 5) (As := []) (c_X7_bitsNow l D cy ad tL σ _ hF) vw_RX11_123 rfl cb_7 hx hb hml hown hg hK hP hD hS hA hLB rfl ⟨Nat.le_of_ble_eq_true rfl, Nat.le_of_ble_eq_true rfl⟩ hl.1 rfl (Nat.le_of_ble_eq_true rfl) dX11_value_22 (fun r4 σ5 hw H locs hP hD hS => ?_)
    obtain ⟨hF, rfl⟩ := hw
    refine wi_callVi (k := 1) (As := [.int a1, .int r4]) (c_X4_valueOf l D cy ad tL σ a1 r4 _ hF) vw_RX11_127 rfl cb_4 hx hb hml hown hg hK hP hD hS hA hLB rfl ⟨Nat.le_of_ble_eq_true rfl, Nat.le_of_ble_eq_true rfl⟩ hl.1 rfl (Nat.le_of_ble_eq_true rfl) dX11_value_25 (fun r6 σ7 hw H locs hP hD hS => ?_)
    obtain ⟨hF, rfl⟩ := hw
    exact wi_iret hx hb hr hlk hK hP hD hS dX11_value_28 ⟨hF, rfl⟩
  · have hF := brT hF c3
    refine lv_iconst (v := (-1 : Int32)) hx hb dX11_value_11 (by decide) ?_
    exact wi_iret hx hb hr hlk hK hP hD hS dX11_value_12 ⟨hF, rfl⟩
def w_X11_either_L4 (σ : St) (post : Int32 → Prop) (J1 : Prop) (rec4 : Int32 → Int32 → Prop) (y2 : Int32) (y3 : Int32) : Prop := br ((σ.1 1 1) ≤ y3) (J1) (br ((((σ.1 5 4) >>> (y3 &&& 31)) &&& (1 : Int32)) = (1 : Int32)) (br (y2 = (0 : Int32)) (rd (σ.1 14) 10 y3 (fun v11 => post v11)) (nm (y2 + (-1 : Int32)) (fun x9 => nm (y3 + (1 : Int32)) (fun x10 => rec4 x9 x10)))) (nm (y3 + (1 : Int32)) (fun x7 => rec4 y2 x7)))
def w_X11_either (σ : St) (a1 : Int32) (post : Int32 → Prop) : Prop := jn (α := Prop) (post (-1 : Int32)) (fun J1 => lpE2 (w_X11_either_L4 σ post J1) a1 (0 : Int32))
set_option maxHeartbeats 4000000 in
set_option maxRecDepth 100000 in
theorem c_X11_either (l : Launch) (D : va_G) (cy : Nat → ClassId) (ad : Nat → Nat) (tL : Nat) (σ : St) (a1 : Int32) (post : Int32 → Prop) (hF : w_X11_either σ a1 post) : Cti l yX11_either cX11_either 4 (some .int) 0 0 D cy ad tL dsC σ [.ref (ad 0), .int a1] (fun r u => post r ∧ σ = u) := by
  refine cti_of (by decide) (Nat.le_of_ble_eq_true rfl) ?_
  intro p e s m args below meth c A hx hb hml hr hlk hg hown hA hK H locs hP hD hS hLB ls hl
  have hown : s.vm.findClass RX11 = some m.cls := hown
  have hl : lv_has ls 4 [(0, .ref (ad 0)), (1, .int a1)] := hl
  refine lv_iload_n hx hb dX11_either_0 rfl (lv_at hl 1 rfl) ?_
  refine lv_istore_n (lv' := [(2, .int a1), (0, .ref (ad 0)), (1, .int a1)]) hx hb dX11_either_1 rfl hl (by decide) rfl (fun ls hl => ?_)
  refine lv_iconst (v := (0 : Int32)) hx hb dX11_either_2 (by decide) ?_
  refine lv_istore_n (lv' := [(3, .int (0 : Int32)), (2, .int a1), (0, .ref (ad 0)), (1, .int a1)]) hx hb dX11_either_3 rfl hl (by decide) rfl (fun ls hl => ?_)
  refine jn_use hF (fun K => ∀ (H : Heap) (locs : List Loc) (ls : Array Slot), K → va_P D vwCl (wld cy ad dsC σ) H → va_D A (wld cy ad dsC σ) → va_S A s.heap H locs → lv_has ls 4 [] → W p l e (rmO 0 0) s m args below meth c H locs 0 0 (MQ below (va_Qi (fun r u => post r ∧ σ = u) (cBk D cy ad dsC A) A) args s 0 0 A) (F0 m 53 ls [])) (fun H locs ls hF hP hD hS hl => ?_) (fun J1 hJ1 hF => ?_)
  · refine lv_iconst (v := (-1 : Int32)) hx hb dX11_either_53 (by decide) ?_
    exact wi_iret hx hb hr hlk hK hP hD hS dX11_either_54 ⟨hF, rfl⟩
  · refine lpE2_use hF (fun (y2 : Int32) (y3 : Int32) => ∀ (H : Heap) (locs : List Loc) (ls : Array Slot), va_P D vwCl (wld cy ad dsC σ) H → va_D A (wld cy ad dsC σ) → va_S A s.heap H locs → lv_has ls 4 [(0, .ref (ad 0)), (2, .int y2), (3, .int y3)] → W p l e (rmO 0 0) s m args below meth c H locs 0 0 (MQ below (va_Qi (fun r u => post r ∧ σ = u) (cBk D cy ad dsC A) A) args s 0 0 A) (F0 m 4 ls [])) (fun rec4 hrec4 y2 y3 hF H locs ls hP hD hS hl => ?_) H locs ls hP hD hS (lv_sub hl [2, 1, 0] rfl)
    refine lv_iload_n hx hb dX11_either_4 rfl (lv_at hl 2 rfl) ?_
    refine lv_aload_n hx hb dX11_either_5 rfl (lv_at hl 0 rfl) ?_
    refine wi_getr hx hb hg hown hK hP 0 0 1 rfl rfl cb_11 (by decide) kw_349 dX11_either_6 ?_
    refine wi_geti hx hb hg hown hK hP 1 1 rfl rfl cb_4 (by decide) kw_434 dX11_either_9 ?_
    refine lv_icmp_ge (tgt := 53) hx hb dX11_either_12 (by decide) (fun c5 => ?_) (fun c5 => ?_)
    · have hF := brT hF c5
      exact hJ1  H locs ls hF hP hD hS (lv_sub hl [] rfl)
    · have hF := brF hF c5
      refine lv_aload_n hx hb dX11_either_15 rfl (lv_at hl 0 rfl) ?_
      refine wi_getr hx hb hg hown hK hP 0 3 5 rfl rfl cb_11 (by decide) kw_360 dX11_either_16 ?_
      refine wi_geti hx hb hg hown hK hP 5 4 rfl rfl cb_7 (by decide) kw_435 dX11_either_19 ?_
      refine lv_iload_n hx hb dX11_either_22 rfl (lv_at hl 2 rfl) ?_
      refine lv_ishr hx hb dX11_either_23 ?_
      refine lv_iconst (v := (1 : Int32)) hx hb dX11_either_24 (by decide) ?_
      refine lv_iand hx hb dX11_either_25 ?_
      refine lv_iconst (v := (1 : Int32)) hx hb dX11_either_26 (by decide) ?_
      refine lv_icmp_ne (tgt := 47) hx hb dX11_either_27 (by decide) (fun c6 => ?_) (fun c6 => ?_)
      · have hF := brF hF c6
        obtain ⟨x7, ex7⟩ : ∃ z : Int32, z = (y3 + (1 : Int32)) := ⟨_, rfl⟩
        have hF := hF x7 ex7
        refine lv_iinc (v := x7) (lv' := [(3, .int x7), (0, .ref (ad 0)), (2, .int y2)]) hx hb dX11_either_47 hl (k := 2) rfl (by rw [ex7]; rfl) (by decide) rfl (fun ls hl => ?_)
        refine lv_goto (tgt := 4) hx hb dX11_either_50 (by decide) ?_
        exact hrec4 y2 x7 hF H locs ls hP hD hS (lv_sub hl [1, 2, 0] rfl)
      · have hF := brT hF c6
        refine lv_iload_n hx hb dX11_either_30 rfl (lv_at hl 1 rfl) ?_
        refine lv_if_ne (tgt := 44) hx hb dX11_either_31 (by decide) (fun c8 => ?_) (fun c8 => ?_)
        · have hF := brF hF c8
          obtain ⟨x9, ex9⟩ : ∃ z : Int32, z = (y2 + (-1 : Int32)) := ⟨_, rfl⟩
          have hF := hF x9 ex9
          refine lv_iinc (v := x9) (lv' := [(2, .int x9), (0, .ref (ad 0)), (3, .int y3)]) hx hb dX11_either_44 hl (k := 1) rfl (by rw [ex9]; rfl) (by decide) rfl (fun ls hl => ?_)
          obtain ⟨x10, ex10⟩ : ∃ z : Int32, z = (y3 + (1 : Int32)) := ⟨_, rfl⟩
          have hF := hF x10 ex10
          refine lv_iinc (v := x10) (lv' := [(3, .int x10), (2, .int x9), (0, .ref (ad 0))]) hx hb dX11_either_47 hl (k := 2) rfl (by rw [ex10]; rfl) (by decide) rfl (fun ls hl => ?_)
          refine lv_goto (tgt := 4) hx hb dX11_either_50 (by decide) ?_
          exact hrec4 x9 x10 hF H locs ls hP hD hS (lv_sub hl [2, 1, 0] rfl)
        · have hF := brT hF c8
          refine lv_aload_n hx hb dX11_either_34 rfl (lv_at hl 0 rfl) ?_
          refine wi_getr hx hb hg hown hK hP 0 0 1 rfl rfl cb_11 (by decide) kw_349 dX11_either_35 ?_
          refine wi_getr hx hb hg hown hK hP 1 11 14 rfl rfl cb_4 (by decide) kw_436 dX11_either_38 ?_
          refine lv_iload_n hx hb dX11_either_41 rfl (lv_at hl 2 rfl) ?_
          obtain ⟨hin, hF⟩ := hF
          refine wi_iald hx hb hK hP 14 rfl hin dX11_either_42 (fun v11 ev11 => ?_)
          have hF := hF v11 ev11
          exact wi_iret hx hb hr hlk hK hP hD hS dX11_either_43 ⟨hF, rfl⟩
def w_X11_ticks (σ : St) (a1 : Int32) (a2 : Int32) (post : Int32 → Prop) : Prop := w_X11_isClock a1 (fun r1 => br (r1 = (0 : Int32)) (post (-1 : Int32)) (w_X11_isClock a2 (fun r4 => br (r4 = (0 : Int32)) (post (-1 : Int32)) (br (a1 = a2) (post (-1 : Int32)) (w_X0_ticksOf (σ.2 5 5) a1 a2 (fun r8 => post r8))))))
set_option maxHeartbeats 4000000 in
set_option maxRecDepth 100000 in
theorem c_X11_ticks (l : Launch) (D : va_G) (cy : Nat → ClassId) (ad : Nat → Nat) (tL : Nat) (σ : St) (a1 : Int32) (a2 : Int32) (post : Int32 → Prop) (hF : w_X11_ticks σ a1 a2 post) : Cti l yX11_ticks cX11_ticks 3 (some .int) 1 23 D cy ad tL dsC σ [.ref (ad 0), .int a1, .int a2] (fun r u => post r ∧ σ = u) := by
  refine cti_of (by decide) (Nat.le_of_ble_eq_true rfl) ?_
  intro p e s m args below meth c A hx hb hml hr hlk hg hown hA hK H locs hP hD hS hLB ls hl
  have hown : s.vm.findClass RX11 = some m.cls := hown
  have hl : lv_has ls 3 [(0, .ref (ad 0)), (1, .int a1), (2, .int a2)] := hl
  refine lv_iload_n hx hb dX11_ticks_0 rfl (lv_at hl 1 rfl) ?_
  refine wi_callSi (As := [.int a1]) (c_X11_isClock l D cy ad tL σ a1 _ hF) sw_RX11_59 hx hb hml hown hg hK hP hD hS hA hLB rfl ⟨Nat.le_of_ble_eq_true rfl, Nat.le_of_ble_eq_true rfl⟩ hl.1 rfl (Nat.le_of_ble_eq_true rfl) dX11_ticks_1 (fun r1 σ2 hw H locs hP hD hS => ?_)
  obtain ⟨hF, rfl⟩ := hw
  refine lv_if_eq (tgt := 19) hx hb dX11_ticks_4 (by decide) (fun c3 => ?_) (fun c3 => ?_)
  · have hF := brT hF c3
    refine lv_iconst (v := (-1 : Int32)) hx hb dX11_ticks_19 (by decide) ?_
    exact wi_iret hx hb hr hlk hK hP hD hS dX11_ticks_20 ⟨hF, rfl⟩
  · have hF := brF hF c3
    refine lv_iload_n hx hb dX11_ticks_7 rfl (lv_at hl 2 rfl) ?_
    refine wi_callSi (As := [.int a2]) (c_X11_isClock l D cy ad tL σ a2 _ hF) sw_RX11_59 hx hb hml hown hg hK hP hD hS hA hLB rfl ⟨Nat.le_of_ble_eq_true rfl, Nat.le_of_ble_eq_true rfl⟩ hl.1 rfl (Nat.le_of_ble_eq_true rfl) dX11_ticks_8 (fun r4 σ5 hw H locs hP hD hS => ?_)
    obtain ⟨hF, rfl⟩ := hw
    refine lv_if_eq (tgt := 19) hx hb dX11_ticks_11 (by decide) (fun c6 => ?_) (fun c6 => ?_)
    · have hF := brT hF c6
      refine lv_iconst (v := (-1 : Int32)) hx hb dX11_ticks_19 (by decide) ?_
      exact wi_iret hx hb hr hlk hK hP hD hS dX11_ticks_20 ⟨hF, rfl⟩
    · have hF := brF hF c6
      refine lv_iload_n hx hb dX11_ticks_14 rfl (lv_at hl 1 rfl) ?_
      refine lv_iload_n hx hb dX11_ticks_15 rfl (lv_at hl 2 rfl) ?_
      refine lv_icmp_ne (tgt := 21) hx hb dX11_ticks_16 (by decide) (fun c7 => ?_) (fun c7 => ?_)
      · have hF := brF hF c7
        refine lv_aload_n hx hb dX11_ticks_21 rfl (lv_at hl 0 rfl) ?_
        refine wi_getr hx hb hg hown hK hP 0 3 5 rfl rfl cb_11 (by decide) kw_360 dX11_ticks_22 ?_
        refine wi_getl hx hb hg hown hK hP 5 5 rfl rfl cb_7 (by decide) kw_438 dX11_ticks_25 ?_
        refine lv_iload_n hx hb dX11_ticks_28 rfl (lv_at hl 1 rfl) ?_
        refine lv_iload_n hx hb dX11_ticks_29 rfl (lv_at hl 2 rfl) ?_
        refine wi_callSi (As := [.long (σ.2 5 5), .int a1, .int a2]) (c_X0_ticksOf l D cy ad tL σ (σ.2 5 5) a1 a2 _ hF) sw_RX11_143 hx hb hml hown hg hK hP hD hS hA hLB rfl ⟨Nat.le_of_ble_eq_true rfl, Nat.le_of_ble_eq_true rfl⟩ hl.1 rfl (Nat.le_of_ble_eq_true rfl) dX11_ticks_30 (fun r8 σ9 hw H locs hP hD hS => ?_)
        obtain ⟨hF, rfl⟩ := hw
        exact wi_iret hx hb hr hlk hK hP hD hS dX11_ticks_33 ⟨hF, rfl⟩
      · have hF := brT hF c7
        refine lv_iconst (v := (-1 : Int32)) hx hb dX11_ticks_19 (by decide) ?_
        exact wi_iret hx hb hr hlk hK hP hD hS dX11_ticks_20 ⟨hF, rfl⟩
def w_X11_broken_L15 (a1 : Int32) (σ : St) (post : Int32 → Prop) (J4 : Prop) (rec6 : Int32 → Prop) (y5 : Int32) : Prop := br ((σ.1 5 3) < y5) (J4) (jn (α := Int32 → Prop) (fun (y9 : Int32) => rd (σ.1 23) 61 y9 (fun v10 => rd (σ.1 23) 61 y5 (fun v11 => w_X5_holds σ a1 v10 v11 (fun r12 => br (r12 = (0 : Int32)) (post y5) (nm (y5 + (1 : Int32)) (fun x15 => rec6 x15)))))) (fun J8 => br (y5 = (0 : Int32)) (J8 (0 : Int32)) (J8 (y5 - (1 : Int32)))))
def w_X11_broken (σ : St) (a1 : Int32) (post : Int32 → Prop) : Prop := w_X5_has σ a1 (fun r1 => br (r1 = (0 : Int32)) (post (-1 : Int32)) (jn (α := Prop) (post (-2 : Int32)) (fun J4 => lpE1 (w_X11_broken_L15 a1 σ post J4) (0 : Int32))))
set_option maxHeartbeats 4000000 in
set_option maxRecDepth 100000 in
theorem c_X11_broken (l : Launch) (D : va_G) (cy : Nat → ClassId) (ad : Nat → Nat) (tL : Nat) (σ : St) (a1 : Int32) (post : Int32 → Prop) (hF : w_X11_broken σ a1 post) : Cti l yX11_broken cX11_broken 4 (some .int) 2 45 D cy ad tL dsC σ [.ref (ad 0), .int a1] (fun r u => post r ∧ σ = u) := by
  refine cti_of (by decide) (Nat.le_of_ble_eq_true rfl) ?_
  intro p e s m args below meth c A hx hb hml hr hlk hg hown hA hK H locs hP hD hS hLB ls hl
  have hown : s.vm.findClass RX11 = some m.cls := hown
  have hl : lv_has ls 4 [(0, .ref (ad 0)), (1, .int a1)] := hl
  refine lv_aload_n hx hb dX11_broken_0 rfl (lv_at hl 0 rfl) ?_
  refine wi_getr hx hb hg hown hK hP 0 2 3 rfl rfl cb_11 (by decide) kw_355 dX11_broken_1 ?_
  refine lv_iload_n hx hb dX11_broken_4 rfl (lv_at hl 1 rfl) ?_
  refine wi_callVi (k := 3) (As := [.int a1]) (c_X5_has l D cy ad tL σ a1 _ hF) vw_RX11_147 rfl cb_5 hx hb hml hown hg hK hP hD hS hA hLB rfl ⟨Nat.le_of_ble_eq_true rfl, Nat.le_of_ble_eq_true rfl⟩ hl.1 rfl (Nat.le_of_ble_eq_true rfl) dX11_broken_5 (fun r1 σ2 hw H locs hP hD hS => ?_)
  obtain ⟨hF, rfl⟩ := hw
  refine lv_if_ne (tgt := 13) hx hb dX11_broken_8 (by decide) (fun c3 => ?_) (fun c3 => ?_)
  · have hF := brF hF c3
    refine lv_iconst (v := (0 : Int32)) hx hb dX11_broken_13 (by decide) ?_
    refine lv_istore_n (lv' := [(2, .int (0 : Int32)), (0, .ref (ad 0)), (1, .int a1)]) hx hb dX11_broken_14 rfl hl (by decide) rfl (fun ls hl => ?_)
    refine jn_use hF (fun K => ∀ (H : Heap) (locs : List Loc) (ls : Array Slot), K → va_P D vwCl (wld cy ad dsC σ) H → va_D A (wld cy ad dsC σ) → va_S A s.heap H locs → lv_has ls 4 [] → W p l e (rmO 2 45) s m args below meth c H locs 0 0 (MQ below (va_Qi (fun r u => post r ∧ σ = u) (cBk D cy ad dsC A) A) args s 0 0 A) (F0 m 75 ls [])) (fun H locs ls hF hP hD hS hl => ?_) (fun J4 hJ4 hF => ?_)
    · refine lv_bipush (v := (-2 : Int32)) hx hb dX11_broken_75 (by decide) ?_
      exact wi_iret hx hb hr hlk hK hP hD hS dX11_broken_77 ⟨hF, rfl⟩
    · refine lpE1_use hF (fun (y5 : Int32) => ∀ (H : Heap) (locs : List Loc) (ls : Array Slot), va_P D vwCl (wld cy ad dsC σ) H → va_D A (wld cy ad dsC σ) → va_S A s.heap H locs → lv_has ls 4 [(0, .ref (ad 0)), (1, .int a1), (2, .int y5)] → W p l e (rmO 2 45) s m args below meth c H locs 0 0 (MQ below (va_Qi (fun r u => post r ∧ σ = u) (cBk D cy ad dsC A) A) args s 0 0 A) (F0 m 15 ls [])) (fun rec6 hrec6 y5 hF H locs ls hP hD hS hl => ?_) H locs ls hP hD hS (lv_sub hl [1, 2, 0] rfl)
      refine lv_iload_n hx hb dX11_broken_15 rfl (lv_at hl 2 rfl) ?_
      refine lv_aload_n hx hb dX11_broken_16 rfl (lv_at hl 0 rfl) ?_
      refine wi_getr hx hb hg hown hK hP 0 3 5 rfl rfl cb_11 (by decide) kw_360 dX11_broken_17 ?_
      refine wi_geti hx hb hg hown hK hP 5 3 rfl rfl cb_7 (by decide) kw_425 dX11_broken_20 ?_
      refine lv_icmp_gt (tgt := 75) hx hb dX11_broken_23 (by decide) (fun c7 => ?_) (fun c7 => ?_)
      · have hF := brT hF c7
        exact hJ4  H locs ls hF hP hD hS (lv_sub hl [] rfl)
      · have hF := brF hF c7
        refine lv_iload_n hx hb dX11_broken_26 rfl (lv_at hl 2 rfl) ?_
        refine jn_use hF (fun K => ∀ (y9 : Int32) (H : Heap) (locs : List Loc) (ls : Array Slot), K y9 → va_P D vwCl (wld cy ad dsC σ) H → va_D A (wld cy ad dsC σ) → va_S A s.heap H locs → lv_has ls 4 [(0, .ref (ad 0)), (1, .int a1), (2, .int y5)] → W p l e (rmO 2 45) s m args below meth c H locs 0 0 (MQ below (va_Qi (fun r u => post r ∧ σ = u) (cBk D cy ad dsC A) A) args s 0 0 A) (F0 m 37 ls [.int y9])) (fun y9 H locs ls hF hP hD hS hl => ?_) (fun J8 hJ8 hF => ?_)
        · refine lv_istore_n (lv' := [(3, .int y9), (0, .ref (ad 0)), (1, .int a1), (2, .int y5)]) hx hb dX11_broken_37 rfl hl (by decide) rfl (fun ls hl => ?_)
          refine lv_aload_n hx hb dX11_broken_38 rfl (lv_at hl 1 rfl) ?_
          refine wi_getr hx hb hg hown hK hP 0 2 3 rfl rfl cb_11 (by decide) kw_355 dX11_broken_39 ?_
          refine lv_iload_n hx hb dX11_broken_42 rfl (lv_at hl 2 rfl) ?_
          refine lv_aload_n hx hb dX11_broken_43 rfl (lv_at hl 1 rfl) ?_
          refine wi_getr hx hb hg hown hK hP 0 3 5 rfl rfl cb_11 (by decide) kw_360 dX11_broken_44 ?_
          refine wi_getr hx hb hg hown hK hP 5 6 23 rfl rfl cb_7 (by decide) kw_440 dX11_broken_47 ?_
          refine lv_iload_n hx hb dX11_broken_50 rfl (lv_at hl 0 rfl) ?_
          obtain ⟨hin, hF⟩ := hF
          refine wi_iald hx hb hK hP 23 rfl hin dX11_broken_51 (fun v10 ev10 => ?_)
          have hF := hF v10 ev10
          refine lv_aload_n hx hb dX11_broken_52 rfl (lv_at hl 1 rfl) ?_
          refine wi_getr hx hb hg hown hK hP 0 3 5 rfl rfl cb_11 (by decide) kw_360 dX11_broken_53 ?_
          refine wi_getr hx hb hg hown hK hP 5 6 23 rfl rfl cb_7 (by decide) kw_440 dX11_broken_56 ?_
          refine lv_iload_n hx hb dX11_broken_59 rfl (lv_at hl 3 rfl) ?_
          obtain ⟨hin, hF⟩ := hF
          refine wi_iald hx hb hK hP 23 rfl hin dX11_broken_60 (fun v11 ev11 => ?_)
          have hF := hF v11 ev11
          refine wi_callVi (k := 3) (As := [.int a1, .int v10, .int v11]) (c_X5_holds l D cy ad tL σ a1 v10 v11 _ hF) vw_RX11_152 rfl cb_5 hx hb hml hown hg hK hP hD hS hA hLB rfl ⟨Nat.le_of_ble_eq_true rfl, Nat.le_of_ble_eq_true rfl⟩ hl.1 rfl (Nat.le_of_ble_eq_true rfl) dX11_broken_61 (fun r12 σ13 hw H locs hP hD hS => ?_)
          obtain ⟨hF, rfl⟩ := hw
          refine lv_if_ne (tgt := 69) hx hb dX11_broken_64 (by decide) (fun c14 => ?_) (fun c14 => ?_)
          · have hF := brF hF c14
            obtain ⟨x15, ex15⟩ : ∃ z : Int32, z = (y5 + (1 : Int32)) := ⟨_, rfl⟩
            have hF := hF x15 ex15
            refine lv_iinc (v := x15) (lv' := [(2, .int x15), (3, .int y9), (0, .ref (ad 0)), (1, .int a1)]) hx hb dX11_broken_69 hl (k := 3) rfl (by rw [ex15]; rfl) (by decide) rfl (fun ls hl => ?_)
            refine lv_goto (tgt := 15) hx hb dX11_broken_72 (by decide) ?_
            exact hrec6 x15 hF H locs ls hP hD hS (lv_sub hl [2, 3, 0] rfl)
          · have hF := brT hF c14
            refine lv_iload_n hx hb dX11_broken_67 rfl (lv_at hl 3 rfl) ?_
            exact wi_iret hx hb hr hlk hK hP hD hS dX11_broken_68 ⟨hF, rfl⟩
        · refine lv_if_ne (tgt := 34) hx hb dX11_broken_27 (by decide) (fun c16 => ?_) (fun c16 => ?_)
          · have hF := brF hF c16
            refine lv_iload_n hx hb dX11_broken_34 rfl (lv_at hl 2 rfl) ?_
            refine lv_iconst (v := (1 : Int32)) hx hb dX11_broken_35 (by decide) ?_
            refine lv_isub hx hb dX11_broken_36 ?_
            exact hJ8 (y5 - (1 : Int32)) H locs ls hF hP hD hS (lv_sub hl [0, 1, 2] rfl)
          · have hF := brT hF c16
            refine lv_iconst (v := (0 : Int32)) hx hb dX11_broken_30 (by decide) ?_
            refine lv_goto (tgt := 37) hx hb dX11_broken_31 (by decide) ?_
            exact hJ8 (0 : Int32) H locs ls hF hP hD hS (lv_sub hl [0, 1, 2] rfl)
  · have hF := brT hF c3
    refine lv_iconst (v := (-1 : Int32)) hx hb dX11_broken_11 (by decide) ?_
    exact wi_iret hx hb hr hlk hK hP hD hS dX11_broken_12 ⟨hF, rfl⟩
def w_X11_walk_L32 (J2 : St → Prop) (rec10 : Int32 → St → Prop) (y8 : Int32) (σ9 : St) : Prop := br ((250 : Int32) ≤ y8) (J2 σ9) (w_X9_goesOn σ9 y8 (fun r12 => br (r12 = (0 : Int32)) (J2 σ9) (w_X9_lookAt σ9 y8 (fun σ16 => nm (y8 + (1 : Int32)) (fun x17 => rec10 x17 σ16)))))
def w_X11_walk (σ : St) (post : Int32 → St → Prop) : Prop := br ((σ.1 1 1) = (0 : Int32)) (post (-3 : Int32) σ) (jn (α := St → Prop) (fun (σ3 : St) => br ((σ3.1 6 8) = (0 : Int32)) (post (σ3.1 6 5) σ3) (post ((-2 : Int32) - (σ3.1 6 5)) σ3)) (fun J2 => br ((σ.1 6 5) = (0 : Int32)) (w_X9_begin σ (fun σ7 => lpE2 (w_X11_walk_L32 J2) (0 : Int32) σ7)) (J2 σ)))
set_option maxHeartbeats 4000000 in
set_option maxRecDepth 100000 in
theorem c_X11_walk (l : Launch) (D : va_G) (cy : Nat → ClassId) (ad : Nat → Nat) (tL : Nat) (σ : St) (post : Int32 → St → Prop) (hF : w_X11_walk σ post) : Cti l yX11_walk cX11_walk 2 (some .int) 6 156 D cy ad tL dsC σ [.ref (ad 0)] post := by
  refine cti_of (by decide) (Nat.le_of_ble_eq_true rfl) ?_
  intro p e s m args below meth c A hx hb hml hr hlk hg hown hA hK H locs hP hD hS hLB ls hl
  have hown : s.vm.findClass RX11 = some m.cls := hown
  have hl : lv_has ls 2 [(0, .ref (ad 0))] := hl
  refine lv_aload_n hx hb dX11_walk_0 rfl (lv_at hl 0 rfl) ?_
  refine wi_getr hx hb hg hown hK hP 0 0 1 rfl rfl cb_11 (by decide) kw_349 dX11_walk_1 ?_
  refine wi_geti hx hb hg hown hK hP 1 1 rfl rfl cb_4 (by decide) kw_434 dX11_walk_4 ?_
  refine lv_if_ne (tgt := 13) hx hb dX11_walk_7 (by decide) (fun c1 => ?_) (fun c1 => ?_)
  · have hF := brF hF c1
    refine lv_aload_n hx hb dX11_walk_13 rfl (lv_at hl 0 rfl) ?_
    refine wi_getr hx hb hg hown hK hP 0 4 6 rfl rfl cb_11 (by decide) kw_363 dX11_walk_14 ?_
    refine wi_geti hx hb hg hown hK hP 6 5 rfl rfl cb_9 (by decide) kw_446 dX11_walk_17 ?_
    refine jn_use hF (fun K => ∀ (σ3 : St) (H : Heap) (locs : List Loc) (ls : Array Slot), K σ3 → va_P D vwCl (wld cy ad dsC σ3) H → va_D A (wld cy ad dsC σ3) → va_S A s.heap H locs → lv_has ls 2 [(0, .ref (ad 0))] → W p l e (rmO 6 156) s m args below meth c H locs 0 0 (MQ below (va_Qi post (cBk D cy ad dsC A) A) args s 0 0 A) (F0 m 64 ls [])) (fun σ3 H locs ls hF hP hD hS hl => ?_) (fun J2 hJ2 hF => ?_)
    · refine lv_aload_n hx hb dX11_walk_64 rfl (lv_at hl 0 rfl) ?_
      refine wi_getr hx hb hg hown hK hP 0 4 6 rfl rfl cb_11 (by decide) kw_363 dX11_walk_65 ?_
      refine wi_geti hx hb hg hown hK hP 6 8 rfl rfl cb_9 (by decide) kw_447 dX11_walk_68 ?_
      refine lv_if_eq (tgt := 87) hx hb dX11_walk_71 (by decide) (fun c4 => ?_) (fun c4 => ?_)
      · have hF := brT hF c4
        refine lv_aload_n hx hb dX11_walk_87 rfl (lv_at hl 0 rfl) ?_
        refine wi_getr hx hb hg hown hK hP 0 4 6 rfl rfl cb_11 (by decide) kw_363 dX11_walk_88 ?_
        refine wi_geti hx hb hg hown hK hP 6 5 rfl rfl cb_9 (by decide) kw_446 dX11_walk_91 ?_
        exact wi_iret hx hb hr hlk hK hP hD hS dX11_walk_94 hF
      · have hF := brF hF c4
        refine lv_bipush (v := (-2 : Int32)) hx hb dX11_walk_74 (by decide) ?_
        refine lv_aload_n hx hb dX11_walk_76 rfl (lv_at hl 0 rfl) ?_
        refine wi_getr hx hb hg hown hK hP 0 4 6 rfl rfl cb_11 (by decide) kw_363 dX11_walk_77 ?_
        refine wi_geti hx hb hg hown hK hP 6 5 rfl rfl cb_9 (by decide) kw_446 dX11_walk_80 ?_
        refine lv_isub hx hb dX11_walk_83 ?_
        refine lv_goto (tgt := 94) hx hb dX11_walk_84 (by decide) ?_
        exact wi_iret hx hb hr hlk hK hP hD hS dX11_walk_94 hF
    · refine lv_if_ne (tgt := 64) hx hb dX11_walk_20 (by decide) (fun c5 => ?_) (fun c5 => ?_)
      · have hF := brF hF c5
        exact hJ2 σ H locs ls hF hP hD hS (lv_sub hl [0] rfl)
      · have hF := brT hF c5
        refine lv_aload_n hx hb dX11_walk_23 rfl (lv_at hl 0 rfl) ?_
        refine wi_getr hx hb hg hown hK hP 0 4 6 rfl rfl cb_11 (by decide) kw_363 dX11_walk_24 ?_
        refine wi_callVv (k := 6) (As := []) (c_X9_begin l D cy ad tL σ _ hF) vw_RX11_159 rfl cb_9 hx hb hml hown hg hK hP hD hS hA hLB rfl ⟨Nat.le_of_ble_eq_true rfl, Nat.le_of_ble_eq_true rfl⟩ hl.1 rfl (Nat.le_of_ble_eq_true rfl) dX11_walk_27 (fun σ7 hw H locs hP hD hS => ?_)
        have hF := hw
        refine lv_iconst (v := (0 : Int32)) hx hb dX11_walk_30 (by decide) ?_
        refine lv_istore_n (lv' := [(1, .int (0 : Int32)), (0, .ref (ad 0))]) hx hb dX11_walk_31 rfl hl (by decide) rfl (fun ls hl => ?_)
        refine lpE2_use hF (fun (y8 : Int32) (σ9 : St) => ∀ (H : Heap) (locs : List Loc) (ls : Array Slot), va_P D vwCl (wld cy ad dsC σ9) H → va_D A (wld cy ad dsC σ9) → va_S A s.heap H locs → lv_has ls 2 [(0, .ref (ad 0)), (1, .int y8)] → W p l e (rmO 6 156) s m args below meth c H locs 0 0 (MQ below (va_Qi post (cBk D cy ad dsC A) A) args s 0 0 A) (F0 m 32 ls [])) (fun rec10 hrec10 y8 σ9 hF H locs ls hP hD hS hl => ?_) H locs ls hP hD hS (lv_sub hl [1, 0] rfl)
        refine lv_iload_n hx hb dX11_walk_32 rfl (lv_at hl 1 rfl) ?_
        refine lv_sipush (v := (250 : Int32)) hx hb dX11_walk_33 (by decide) ?_
        refine lv_icmp_ge (tgt := 64) hx hb dX11_walk_36 (by decide) (fun c11 => ?_) (fun c11 => ?_)
        · have hF := brT hF c11
          exact hJ2 σ9 H locs ls hF hP hD hS (lv_sub hl [0] rfl)
        · have hF := brF hF c11
          refine lv_aload_n hx hb dX11_walk_39 rfl (lv_at hl 0 rfl) ?_
          refine wi_getr hx hb hg hown hK hP 0 4 6 rfl rfl cb_11 (by decide) kw_363 dX11_walk_40 ?_
          refine lv_iload_n hx hb dX11_walk_43 rfl (lv_at hl 1 rfl) ?_
          refine wi_callVi (k := 6) (As := [.int y8]) (c_X9_goesOn l D cy ad tL σ9 y8 _ hF) vw_RX11_160 rfl cb_9 hx hb hml hown hg hK hP hD hS hA hLB rfl ⟨Nat.le_of_ble_eq_true rfl, Nat.le_of_ble_eq_true rfl⟩ hl.1 rfl (Nat.le_of_ble_eq_true rfl) dX11_walk_44 (fun r12 σ13 hw H locs hP hD hS => ?_)
          obtain ⟨hF, rfl⟩ := hw
          refine lv_if_eq (tgt := 64) hx hb dX11_walk_47 (by decide) (fun c14 => ?_) (fun c14 => ?_)
          · have hF := brT hF c14
            exact hJ2 σ9 H locs ls hF hP hD hS (lv_sub hl [0] rfl)
          · have hF := brF hF c14
            refine lv_aload_n hx hb dX11_walk_50 rfl (lv_at hl 0 rfl) ?_
            refine wi_getr hx hb hg hown hK hP 0 4 6 rfl rfl cb_11 (by decide) kw_363 dX11_walk_51 ?_
            refine lv_iload_n hx hb dX11_walk_54 rfl (lv_at hl 1 rfl) ?_
            refine wi_callVv (k := 6) (As := [.int y8]) (c_X9_lookAt l D cy ad tL σ9 y8 _ hF) vw_RX11_163 rfl cb_9 hx hb hml hown hg hK hP hD hS hA hLB rfl ⟨Nat.le_of_ble_eq_true rfl, Nat.le_of_ble_eq_true rfl⟩ hl.1 rfl (Nat.le_of_ble_eq_true rfl) dX11_walk_55 (fun σ16 hw H locs hP hD hS => ?_)
            have hF := hw
            obtain ⟨x17, ex17⟩ : ∃ z : Int32, z = (y8 + (1 : Int32)) := ⟨_, rfl⟩
            have hF := hF x17 ex17
            refine lv_iinc (v := x17) (lv' := [(1, .int x17), (0, .ref (ad 0))]) hx hb dX11_walk_58 hl (k := 1) rfl (by rw [ex17]; rfl) (by decide) rfl (fun ls hl => ?_)
            refine lv_goto (tgt := 32) hx hb dX11_walk_61 (by decide) ?_
            exact hrec10 x17 σ16 hF H locs ls hP hD hS (lv_sub hl [1, 0] rfl)
  · have hF := brT hF c1
    refine lv_bipush (v := (-3 : Int32)) hx hb dX11_walk_10 (by decide) ?_
    exact wi_iret hx hb hr hlk hK hP hD hS dX11_walk_12 hF
def w_X11_state (σ : St) (a1 : Int32) (a2 : Int32) (post : Int32 → Prop) : Prop := w_X9_hasState σ a1 (fun r1 => br (r1 = (0 : Int32)) (post (-1 : Int32)) (br (a2 < (0 : Int32)) (post (-1 : Int32)) (br (a2 ≤ (6 : Int32)) (br (a2 = (0 : Int32)) (rd (σ.1 25) 250 a1 (fun v7 => post v7)) (br (a2 = (5 : Int32)) (rd (σ.1 27) 250 a1 (fun v9 => post v9)) (br (a2 = (6 : Int32)) (rd (σ.1 28) 250 a1 (fun v11 => post v11)) (rd (σ.1 29) 1250 (((a1 * (5 : Int32)) + a2) - (1 : Int32)) (fun v12 => post v12))))) (post (-1 : Int32)))))
set_option maxHeartbeats 4000000 in
set_option maxRecDepth 100000 in
theorem c_X11_state (l : Launch) (D : va_G) (cy : Nat → ClassId) (ad : Nat → Nat) (tL : Nat) (σ : St) (a1 : Int32) (a2 : Int32) (post : Int32 → Prop) (hF : w_X11_state σ a1 a2 post) : Cti l yX11_state cX11_state 3 (some .int) 1 21 D cy ad tL dsC σ [.ref (ad 0), .int a1, .int a2] (fun r u => post r ∧ σ = u) := by
  refine cti_of (by decide) (Nat.le_of_ble_eq_true rfl) ?_
  intro p e s m args below meth c A hx hb hml hr hlk hg hown hA hK H locs hP hD hS hLB ls hl
  have hown : s.vm.findClass RX11 = some m.cls := hown
  have hl : lv_has ls 3 [(0, .ref (ad 0)), (1, .int a1), (2, .int a2)] := hl
  refine lv_aload_n hx hb dX11_state_0 rfl (lv_at hl 0 rfl) ?_
  refine wi_getr hx hb hg hown hK hP 0 4 6 rfl rfl cb_11 (by decide) kw_363 dX11_state_1 ?_
  refine lv_iload_n hx hb dX11_state_4 rfl (lv_at hl 1 rfl) ?_
  refine wi_callVi (k := 6) (As := [.int a1]) (c_X9_hasState l D cy ad tL σ a1 _ hF) vw_RX11_171 rfl cb_9 hx hb hml hown hg hK hP hD hS hA hLB rfl ⟨Nat.le_of_ble_eq_true rfl, Nat.le_of_ble_eq_true rfl⟩ hl.1 rfl (Nat.le_of_ble_eq_true rfl) dX11_state_5 (fun r1 σ2 hw H locs hP hD hS => ?_)
  obtain ⟨hF, rfl⟩ := hw
  refine lv_if_eq (tgt := 21) hx hb dX11_state_8 (by decide) (fun c3 => ?_) (fun c3 => ?_)
  · have hF := brT hF c3
    refine lv_iconst (v := (-1 : Int32)) hx hb dX11_state_21 (by decide) ?_
    exact wi_iret hx hb hr hlk hK hP hD hS dX11_state_22 ⟨hF, rfl⟩
  · have hF := brF hF c3
    refine lv_iload_n hx hb dX11_state_11 rfl (lv_at hl 2 rfl) ?_
    refine lv_if_lt (tgt := 21) hx hb dX11_state_12 (by decide) (fun c4 => ?_) (fun c4 => ?_)
    · have hF := brT hF c4
      refine lv_iconst (v := (-1 : Int32)) hx hb dX11_state_21 (by decide) ?_
      exact wi_iret hx hb hr hlk hK hP hD hS dX11_state_22 ⟨hF, rfl⟩
    · have hF := brF hF c4
      refine lv_iload_n hx hb dX11_state_15 rfl (lv_at hl 2 rfl) ?_
      refine lv_bipush (v := (6 : Int32)) hx hb dX11_state_16 (by decide) ?_
      refine lv_icmp_le (tgt := 23) hx hb dX11_state_18 (by decide) (fun c5 => ?_) (fun c5 => ?_)
      · have hF := brT hF c5
        refine lv_iload_n hx hb dX11_state_23 rfl (lv_at hl 2 rfl) ?_
        by_cases c6 : a2 = (0 : Int32)
        · have hF := brT hF c6
          refine lv_lookup (off := 36) (tgt := 60) hx hb dX11_state_24 (by decide) (by rw [c6]; decide) (by decide) ?_
          refine lv_aload_n hx hb dX11_state_60 rfl (lv_at hl 0 rfl) ?_
          refine wi_getr hx hb hg hown hK hP 0 4 6 rfl rfl cb_11 (by decide) kw_363 dX11_state_61 ?_
          refine wi_getr hx hb hg hown hK hP 6 9 25 rfl rfl cb_9 (by decide) kw_459 dX11_state_64 ?_
          refine lv_iload_n hx hb dX11_state_67 rfl (lv_at hl 1 rfl) ?_
          obtain ⟨hin, hF⟩ := hF
          refine wi_iald hx hb hK hP 25 rfl hin dX11_state_68 (fun v7 ev7 => ?_)
          have hF := hF v7 ev7
          exact wi_iret hx hb hr hlk hK hP hD hS dX11_state_69 ⟨hF, rfl⟩
        · have hF := brF hF c6
          by_cases c8 : a2 = (5 : Int32)
          · have hF := brT hF c8
            refine lv_lookup (off := 46) (tgt := 70) hx hb dX11_state_24 (by decide) (by rw [c8]; decide) (by decide) ?_
            refine lv_aload_n hx hb dX11_state_70 rfl (lv_at hl 0 rfl) ?_
            refine wi_getr hx hb hg hown hK hP 0 4 6 rfl rfl cb_11 (by decide) kw_363 dX11_state_71 ?_
            refine wi_getr hx hb hg hown hK hP 6 11 27 rfl rfl cb_9 (by decide) kw_460 dX11_state_74 ?_
            refine lv_iload_n hx hb dX11_state_77 rfl (lv_at hl 1 rfl) ?_
            obtain ⟨hin, hF⟩ := hF
            refine wi_iald hx hb hK hP 27 rfl hin dX11_state_78 (fun v9 ev9 => ?_)
            have hF := hF v9 ev9
            exact wi_iret hx hb hr hlk hK hP hD hS dX11_state_79 ⟨hF, rfl⟩
          · have hF := brF hF c8
            by_cases c10 : a2 = (6 : Int32)
            · have hF := brT hF c10
              refine lv_lookup (off := 56) (tgt := 80) hx hb dX11_state_24 (by decide) (by rw [c10]; decide) (by decide) ?_
              refine lv_aload_n hx hb dX11_state_80 rfl (lv_at hl 0 rfl) ?_
              refine wi_getr hx hb hg hown hK hP 0 4 6 rfl rfl cb_11 (by decide) kw_363 dX11_state_81 ?_
              refine wi_getr hx hb hg hown hK hP 6 12 28 rfl rfl cb_9 (by decide) kw_461 dX11_state_84 ?_
              refine lv_iload_n hx hb dX11_state_87 rfl (lv_at hl 1 rfl) ?_
              obtain ⟨hin, hF⟩ := hF
              refine wi_iald hx hb hK hP 28 rfl hin dX11_state_88 (fun v11 ev11 => ?_)
              have hF := hF v11 ev11
              exact wi_iret hx hb hr hlk hK hP hD hS dX11_state_89 ⟨hF, rfl⟩
            · have hF := brF hF c10
              refine lv_lookup (off := 66) (tgt := 90) hx hb dX11_state_24 (by decide) ((lv_osw c6 (by decide)).trans ((lv_osw c8 (by decide)).trans ((lv_osw c10 (by decide)).trans (rfl)))) (by decide) ?_
              refine lv_aload_n hx hb dX11_state_90 rfl (lv_at hl 0 rfl) ?_
              refine wi_getr hx hb hg hown hK hP 0 4 6 rfl rfl cb_11 (by decide) kw_363 dX11_state_91 ?_
              refine wi_getr hx hb hg hown hK hP 6 13 29 rfl rfl cb_9 (by decide) kw_462 dX11_state_94 ?_
              refine lv_iload_n hx hb dX11_state_97 rfl (lv_at hl 1 rfl) ?_
              refine lv_iconst (v := (5 : Int32)) hx hb dX11_state_98 (by decide) ?_
              refine lv_imul hx hb dX11_state_99 ?_
              refine lv_iload_n hx hb dX11_state_100 rfl (lv_at hl 2 rfl) ?_
              refine lv_iadd hx hb dX11_state_101 ?_
              refine lv_iconst (v := (1 : Int32)) hx hb dX11_state_102 (by decide) ?_
              refine lv_isub hx hb dX11_state_103 ?_
              obtain ⟨hin, hF⟩ := hF
              refine wi_iald hx hb hK hP 29 rfl hin dX11_state_104 (fun v12 ev12 => ?_)
              have hF := hF v12 ev12
              exact wi_iret hx hb hr hlk hK hP hD hS dX11_state_105 ⟨hF, rfl⟩
      · have hF := brF hF c5
        refine lv_iconst (v := (-1 : Int32)) hx hb dX11_state_21 (by decide) ?_
        exact wi_iret hx hb hr hlk hK hP hD hS dX11_state_22 ⟨hF, rfl⟩
def w_X11_shown (σ : St) (a1 : Int32) (a2 : Int32) (post : Int32 → Prop) : Prop := w_X9_hasState σ a1 (fun r1 => br (r1 = (0 : Int32)) (post (-1 : Int32)) (w_X4_isCell σ a2 (fun r4 => br (r4 = (0 : Int32)) (post (-1 : Int32)) (rd (σ.1 25) 250 a1 (fun v7 => w_X4_valueOf σ a2 v7 (fun r8 => post r8))))))
set_option maxHeartbeats 4000000 in
set_option maxRecDepth 100000 in
theorem c_X11_shown (l : Launch) (D : va_G) (cy : Nat → ClassId) (ad : Nat → Nat) (tL : Nat) (σ : St) (a1 : Int32) (a2 : Int32) (post : Int32 → Prop) (hF : w_X11_shown σ a1 a2 post) : Cti l yX11_shown cX11_shown 3 (some .int) 1 22 D cy ad tL dsC σ [.ref (ad 0), .int a1, .int a2] (fun r u => post r ∧ σ = u) := by
  refine cti_of (by decide) (Nat.le_of_ble_eq_true rfl) ?_
  intro p e s m args below meth c A hx hb hml hr hlk hg hown hA hK H locs hP hD hS hLB ls hl
  have hown : s.vm.findClass RX11 = some m.cls := hown
  have hl : lv_has ls 3 [(0, .ref (ad 0)), (1, .int a1), (2, .int a2)] := hl
  refine lv_aload_n hx hb dX11_shown_0 rfl (lv_at hl 0 rfl) ?_
  refine wi_getr hx hb hg hown hK hP 0 4 6 rfl rfl cb_11 (by decide) kw_363 dX11_shown_1 ?_
  refine lv_iload_n hx hb dX11_shown_4 rfl (lv_at hl 1 rfl) ?_
  refine wi_callVi (k := 6) (As := [.int a1]) (c_X9_hasState l D cy ad tL σ a1 _ hF) vw_RX11_171 rfl cb_9 hx hb hml hown hg hK hP hD hS hA hLB rfl ⟨Nat.le_of_ble_eq_true rfl, Nat.le_of_ble_eq_true rfl⟩ hl.1 rfl (Nat.le_of_ble_eq_true rfl) dX11_shown_5 (fun r1 σ2 hw H locs hP hD hS => ?_)
  obtain ⟨hF, rfl⟩ := hw
  refine lv_if_eq (tgt := 22) hx hb dX11_shown_8 (by decide) (fun c3 => ?_) (fun c3 => ?_)
  · have hF := brT hF c3
    refine lv_iconst (v := (-1 : Int32)) hx hb dX11_shown_22 (by decide) ?_
    exact wi_iret hx hb hr hlk hK hP hD hS dX11_shown_23 ⟨hF, rfl⟩
  · have hF := brF hF c3
    refine lv_aload_n hx hb dX11_shown_11 rfl (lv_at hl 0 rfl) ?_
    refine wi_getr hx hb hg hown hK hP 0 0 1 rfl rfl cb_11 (by decide) kw_349 dX11_shown_12 ?_
    refine lv_iload_n hx hb dX11_shown_15 rfl (lv_at hl 2 rfl) ?_
    refine wi_callVi (k := 1) (As := [.int a2]) (c_X4_isCell l D cy ad tL σ a2 _ hF) vw_RX11_67 rfl cb_4 hx hb hml hown hg hK hP hD hS hA hLB rfl ⟨Nat.le_of_ble_eq_true rfl, Nat.le_of_ble_eq_true rfl⟩ hl.1 rfl (Nat.le_of_ble_eq_true rfl) dX11_shown_16 (fun r4 σ5 hw H locs hP hD hS => ?_)
    obtain ⟨hF, rfl⟩ := hw
    refine lv_if_ne (tgt := 24) hx hb dX11_shown_19 (by decide) (fun c6 => ?_) (fun c6 => ?_)
    · have hF := brF hF c6
      refine lv_aload_n hx hb dX11_shown_24 rfl (lv_at hl 0 rfl) ?_
      refine wi_getr hx hb hg hown hK hP 0 0 1 rfl rfl cb_11 (by decide) kw_349 dX11_shown_25 ?_
      refine lv_iload_n hx hb dX11_shown_28 rfl (lv_at hl 2 rfl) ?_
      refine lv_aload_n hx hb dX11_shown_29 rfl (lv_at hl 0 rfl) ?_
      refine wi_getr hx hb hg hown hK hP 0 4 6 rfl rfl cb_11 (by decide) kw_363 dX11_shown_30 ?_
      refine wi_getr hx hb hg hown hK hP 6 9 25 rfl rfl cb_9 (by decide) kw_459 dX11_shown_33 ?_
      refine lv_iload_n hx hb dX11_shown_36 rfl (lv_at hl 1 rfl) ?_
      obtain ⟨hin, hF⟩ := hF
      refine wi_iald hx hb hK hP 25 rfl hin dX11_shown_37 (fun v7 ev7 => ?_)
      have hF := hF v7 ev7
      refine wi_callVi (k := 1) (As := [.int a2, .int v7]) (c_X4_valueOf l D cy ad tL σ a2 v7 _ hF) vw_RX11_127 rfl cb_4 hx hb hml hown hg hK hP hD hS hA hLB rfl ⟨Nat.le_of_ble_eq_true rfl, Nat.le_of_ble_eq_true rfl⟩ hl.1 rfl (Nat.le_of_ble_eq_true rfl) dX11_shown_38 (fun r8 σ9 hw H locs hP hD hS => ?_)
      obtain ⟨hF, rfl⟩ := hw
      exact wi_iret hx hb hr hlk hK hP hD hS dX11_shown_41 ⟨hF, rfl⟩
    · have hF := brT hF c6
      refine lv_iconst (v := (-1 : Int32)) hx hb dX11_shown_22 (by decide) ?_
      exact wi_iret hx hb hr hlk hK hP hD hS dX11_shown_23 ⟨hF, rfl⟩
def w_X11_never (σ : St) (a1 : Int32) (a2 : Int32) (post : Int32 → Prop) : Prop := w_X5_has σ a1 (fun r1 => br (r1 = (0 : Int32)) (post (-1 : Int32)) (br (a2 < (0 : Int32)) (post (-1 : Int32)) (br (a2 < (5 : Int32)) (br ((σ.1 6 5) = (0 : Int32)) (post (-3 : Int32)) (w_X9_breaks σ a1 (fun r7 => br (r7 = (0 : Int32)) (post (-2 : Int32)) (rd (σ.1 30) 40 ((a1 * (5 : Int32)) + a2) (fun v10 => post v10))))) (post (-1 : Int32)))))
set_option maxHeartbeats 4000000 in
set_option maxRecDepth 100000 in
theorem c_X11_never (l : Launch) (D : va_G) (cy : Nat → ClassId) (ad : Nat → Nat) (tL : Nat) (σ : St) (a1 : Int32) (a2 : Int32) (post : Int32 → Prop) (hF : w_X11_never σ a1 a2 post) : Cti l yX11_never cX11_never 3 (some .int) 1 21 D cy ad tL dsC σ [.ref (ad 0), .int a1, .int a2] (fun r u => post r ∧ σ = u) := by
  refine cti_of (by decide) (Nat.le_of_ble_eq_true rfl) ?_
  intro p e s m args below meth c A hx hb hml hr hlk hg hown hA hK H locs hP hD hS hLB ls hl
  have hown : s.vm.findClass RX11 = some m.cls := hown
  have hl : lv_has ls 3 [(0, .ref (ad 0)), (1, .int a1), (2, .int a2)] := hl
  refine lv_aload_n hx hb dX11_never_0 rfl (lv_at hl 0 rfl) ?_
  refine wi_getr hx hb hg hown hK hP 0 2 3 rfl rfl cb_11 (by decide) kw_355 dX11_never_1 ?_
  refine lv_iload_n hx hb dX11_never_4 rfl (lv_at hl 1 rfl) ?_
  refine wi_callVi (k := 3) (As := [.int a1]) (c_X5_has l D cy ad tL σ a1 _ hF) vw_RX11_147 rfl cb_5 hx hb hml hown hg hK hP hD hS hA hLB rfl ⟨Nat.le_of_ble_eq_true rfl, Nat.le_of_ble_eq_true rfl⟩ hl.1 rfl (Nat.le_of_ble_eq_true rfl) dX11_never_5 (fun r1 σ2 hw H locs hP hD hS => ?_)
  obtain ⟨hF, rfl⟩ := hw
  refine lv_if_eq (tgt := 20) hx hb dX11_never_8 (by decide) (fun c3 => ?_) (fun c3 => ?_)
  · have hF := brT hF c3
    refine lv_iconst (v := (-1 : Int32)) hx hb dX11_never_20 (by decide) ?_
    exact wi_iret hx hb hr hlk hK hP hD hS dX11_never_21 ⟨hF, rfl⟩
  · have hF := brF hF c3
    refine lv_iload_n hx hb dX11_never_11 rfl (lv_at hl 2 rfl) ?_
    refine lv_if_lt (tgt := 20) hx hb dX11_never_12 (by decide) (fun c4 => ?_) (fun c4 => ?_)
    · have hF := brT hF c4
      refine lv_iconst (v := (-1 : Int32)) hx hb dX11_never_20 (by decide) ?_
      exact wi_iret hx hb hr hlk hK hP hD hS dX11_never_21 ⟨hF, rfl⟩
    · have hF := brF hF c4
      refine lv_iload_n hx hb dX11_never_15 rfl (lv_at hl 2 rfl) ?_
      refine lv_iconst (v := (5 : Int32)) hx hb dX11_never_16 (by decide) ?_
      refine lv_icmp_lt (tgt := 22) hx hb dX11_never_17 (by decide) (fun c5 => ?_) (fun c5 => ?_)
      · have hF := brT hF c5
        refine lv_aload_n hx hb dX11_never_22 rfl (lv_at hl 0 rfl) ?_
        refine wi_getr hx hb hg hown hK hP 0 4 6 rfl rfl cb_11 (by decide) kw_363 dX11_never_23 ?_
        refine wi_geti hx hb hg hown hK hP 6 5 rfl rfl cb_9 (by decide) kw_446 dX11_never_26 ?_
        refine lv_if_ne (tgt := 35) hx hb dX11_never_29 (by decide) (fun c6 => ?_) (fun c6 => ?_)
        · have hF := brF hF c6
          refine lv_aload_n hx hb dX11_never_35 rfl (lv_at hl 0 rfl) ?_
          refine wi_getr hx hb hg hown hK hP 0 4 6 rfl rfl cb_11 (by decide) kw_363 dX11_never_36 ?_
          refine lv_iload_n hx hb dX11_never_39 rfl (lv_at hl 1 rfl) ?_
          refine wi_callVi (k := 6) (As := [.int a1]) (c_X9_breaks l D cy ad tL σ a1 _ hF) vw_RX11_184 rfl cb_9 hx hb hml hown hg hK hP hD hS hA hLB rfl ⟨Nat.le_of_ble_eq_true rfl, Nat.le_of_ble_eq_true rfl⟩ hl.1 rfl (Nat.le_of_ble_eq_true rfl) dX11_never_40 (fun r7 σ8 hw H locs hP hD hS => ?_)
          obtain ⟨hF, rfl⟩ := hw
          refine lv_if_ne (tgt := 49) hx hb dX11_never_43 (by decide) (fun c9 => ?_) (fun c9 => ?_)
          · have hF := brF hF c9
            refine lv_aload_n hx hb dX11_never_49 rfl (lv_at hl 0 rfl) ?_
            refine wi_getr hx hb hg hown hK hP 0 4 6 rfl rfl cb_11 (by decide) kw_363 dX11_never_50 ?_
            refine wi_getr hx hb hg hown hK hP 6 14 30 rfl rfl cb_9 (by decide) kw_468 dX11_never_53 ?_
            refine lv_iload_n hx hb dX11_never_56 rfl (lv_at hl 1 rfl) ?_
            refine lv_iconst (v := (5 : Int32)) hx hb dX11_never_57 (by decide) ?_
            refine lv_imul hx hb dX11_never_58 ?_
            refine lv_iload_n hx hb dX11_never_59 rfl (lv_at hl 2 rfl) ?_
            refine lv_iadd hx hb dX11_never_60 ?_
            obtain ⟨hin, hF⟩ := hF
            refine wi_iald hx hb hK hP 30 rfl hin dX11_never_61 (fun v10 ev10 => ?_)
            have hF := hF v10 ev10
            exact wi_iret hx hb hr hlk hK hP hD hS dX11_never_62 ⟨hF, rfl⟩
          · have hF := brT hF c9
            refine lv_bipush (v := (-2 : Int32)) hx hb dX11_never_46 (by decide) ?_
            exact wi_iret hx hb hr hlk hK hP hD hS dX11_never_48 ⟨hF, rfl⟩
        · have hF := brT hF c6
          refine lv_bipush (v := (-3 : Int32)) hx hb dX11_never_32 (by decide) ?_
          exact wi_iret hx hb hr hlk hK hP hD hS dX11_never_34 ⟨hF, rfl⟩
      · have hF := brF hF c5
        refine lv_iconst (v := (-1 : Int32)) hx hb dX11_never_20 (by decide) ?_
        exact wi_iret hx hb hr hlk hK hP hD hS dX11_never_21 ⟨hF, rfl⟩
def w_X11_follow (σ : St) (a1 : Int32) (post : Int32 → St → Prop) : Prop := w_X9_hasState σ a1 (fun r1 => br (r1 = (0 : Int32)) (post (-1 : Int32) σ) (rd (σ.1 27) 250 a1 (fun v4 => br (v4 ≤ (60 : Int32)) (w_X7_begin σ (fun σ7 => w_X9_lead σ7 a1 (fun σ9 => post (σ9.1 5 3) σ9))) (post (-3 : Int32) σ))))
set_option maxHeartbeats 4000000 in
set_option maxRecDepth 100000 in
theorem c_X11_follow (l : Launch) (D : va_G) (cy : Nat → ClassId) (ad : Nat → Nat) (tL : Nat) (σ : St) (a1 : Int32) (post : Int32 → St → Prop) (hF : w_X11_follow σ a1 post) : Cti l yX11_follow cX11_follow 2 (some .int) 5 132 D cy ad tL dsC σ [.ref (ad 0), .int a1] post := by
  refine cti_of (by decide) (Nat.le_of_ble_eq_true rfl) ?_
  intro p e s m args below meth c A hx hb hml hr hlk hg hown hA hK H locs hP hD hS hLB ls hl
  have hown : s.vm.findClass RX11 = some m.cls := hown
  have hl : lv_has ls 2 [(0, .ref (ad 0)), (1, .int a1)] := hl
  refine lv_aload_n hx hb dX11_follow_0 rfl (lv_at hl 0 rfl) ?_
  refine wi_getr hx hb hg hown hK hP 0 4 6 rfl rfl cb_11 (by decide) kw_363 dX11_follow_1 ?_
  refine lv_iload_n hx hb dX11_follow_4 rfl (lv_at hl 1 rfl) ?_
  refine wi_callVi (k := 6) (As := [.int a1]) (c_X9_hasState l D cy ad tL σ a1 _ hF) vw_RX11_171 rfl cb_9 hx hb hml hown hg hK hP hD hS hA hLB rfl ⟨Nat.le_of_ble_eq_true rfl, Nat.le_of_ble_eq_true rfl⟩ hl.1 rfl (Nat.le_of_ble_eq_true rfl) dX11_follow_5 (fun r1 σ2 hw H locs hP hD hS => ?_)
  obtain ⟨hF, rfl⟩ := hw
  refine lv_if_ne (tgt := 13) hx hb dX11_follow_8 (by decide) (fun c3 => ?_) (fun c3 => ?_)
  · have hF := brF hF c3
    refine lv_aload_n hx hb dX11_follow_13 rfl (lv_at hl 0 rfl) ?_
    refine wi_getr hx hb hg hown hK hP 0 4 6 rfl rfl cb_11 (by decide) kw_363 dX11_follow_14 ?_
    refine wi_getr hx hb hg hown hK hP 6 11 27 rfl rfl cb_9 (by decide) kw_460 dX11_follow_17 ?_
    refine lv_iload_n hx hb dX11_follow_20 rfl (lv_at hl 1 rfl) ?_
    obtain ⟨hin, hF⟩ := hF
    refine wi_iald hx hb hK hP 27 rfl hin dX11_follow_21 (fun v4 ev4 => ?_)
    have hF := hF v4 ev4
    refine lv_bipush (v := (60 : Int32)) hx hb dX11_follow_22 (by decide) ?_
    refine lv_icmp_le (tgt := 30) hx hb dX11_follow_24 (by decide) (fun c5 => ?_) (fun c5 => ?_)
    · have hF := brT hF c5
      refine lv_aload_n hx hb dX11_follow_30 rfl (lv_at hl 0 rfl) ?_
      refine wi_getr hx hb hg hown hK hP 0 3 5 rfl rfl cb_11 (by decide) kw_360 dX11_follow_31 ?_
      refine wi_callVv (k := 5) (As := []) (c_X7_begin l D cy ad tL σ _ hF) vw_RX11_117 rfl cb_7 hx hb hml hown hg hK hP hD hS hA hLB rfl ⟨Nat.le_of_ble_eq_true rfl, Nat.le_of_ble_eq_true rfl⟩ hl.1 rfl (Nat.le_of_ble_eq_true rfl) dX11_follow_34 (fun σ7 hw H locs hP hD hS => ?_)
      have hF := hw
      refine lv_aload_n hx hb dX11_follow_37 rfl (lv_at hl 0 rfl) ?_
      refine wi_getr hx hb hg hown hK hP 0 4 6 rfl rfl cb_11 (by decide) kw_363 dX11_follow_38 ?_
      refine lv_iload_n hx hb dX11_follow_41 rfl (lv_at hl 1 rfl) ?_
      refine lv_aload_n hx hb dX11_follow_42 rfl (lv_at hl 0 rfl) ?_
      refine wi_getr hx hb hg hown hK hP 0 3 5 rfl rfl cb_11 (by decide) kw_360 dX11_follow_43 ?_
      refine wi_callVv (k := 6) (As := [.int a1, .ref (ad 5)]) (c_X9_lead l D cy ad tL σ7 a1 _ hF) vw_RX11_190 rfl cb_9 hx hb hml hown hg hK hP hD hS hA hLB rfl ⟨Nat.le_of_ble_eq_true rfl, Nat.le_of_ble_eq_true rfl⟩ hl.1 rfl (Nat.le_of_ble_eq_true rfl) dX11_follow_46 (fun σ9 hw H locs hP hD hS => ?_)
      have hF := hw
      refine lv_aload_n hx hb dX11_follow_49 rfl (lv_at hl 0 rfl) ?_
      refine wi_getr hx hb hg hown hK hP 0 3 5 rfl rfl cb_11 (by decide) kw_360 dX11_follow_50 ?_
      refine wi_geti hx hb hg hown hK hP 5 3 rfl rfl cb_7 (by decide) kw_425 dX11_follow_53 ?_
      exact wi_iret hx hb hr hlk hK hP hD hS dX11_follow_56 hF
    · have hF := brF hF c5
      refine lv_bipush (v := (-3 : Int32)) hx hb dX11_follow_27 (by decide) ?_
      exact wi_iret hx hb hr hlk hK hP hD hS dX11_follow_29 hF
  · have hF := brT hF c3
    refine lv_iconst (v := (-1 : Int32)) hx hb dX11_follow_11 (by decide) ?_
    exact wi_iret hx hb hr hlk hK hP hD hS dX11_follow_12 hF
def w_X11_fewest (σ : St) (a1 : Int32) (post : Int32 → St → Prop) : Prop := w_X9_hasState σ a1 (fun r1 => br (r1 = (0 : Int32)) (post (-1 : Int32) σ) (w_X10_fewestTo σ a1 (σ.1 6 5) (σ.1 6 6) (fun r4 σ5 => post r4 σ5)))
set_option maxHeartbeats 4000000 in
set_option maxRecDepth 100000 in
theorem c_X11_fewest (l : Launch) (D : va_G) (cy : Nat → ClassId) (ad : Nat → Nat) (tL : Nat) (σ : St) (a1 : Int32) (post : Int32 → St → Prop) (hF : w_X11_fewest σ a1 post) : Cti l yX11_fewest cX11_fewest 2 (some .int) 3 73 D cy ad tL dsC σ [.ref (ad 0), .int a1] post := by
  refine cti_of (by decide) (Nat.le_of_ble_eq_true rfl) ?_
  intro p e s m args below meth c A hx hb hml hr hlk hg hown hA hK H locs hP hD hS hLB ls hl
  have hown : s.vm.findClass RX11 = some m.cls := hown
  have hl : lv_has ls 2 [(0, .ref (ad 0)), (1, .int a1)] := hl
  refine lv_aload_n hx hb dX11_fewest_0 rfl (lv_at hl 0 rfl) ?_
  refine wi_getr hx hb hg hown hK hP 0 4 6 rfl rfl cb_11 (by decide) kw_363 dX11_fewest_1 ?_
  refine lv_iload_n hx hb dX11_fewest_4 rfl (lv_at hl 1 rfl) ?_
  refine wi_callVi (k := 6) (As := [.int a1]) (c_X9_hasState l D cy ad tL σ a1 _ hF) vw_RX11_171 rfl cb_9 hx hb hml hown hg hK hP hD hS hA hLB rfl ⟨Nat.le_of_ble_eq_true rfl, Nat.le_of_ble_eq_true rfl⟩ hl.1 rfl (Nat.le_of_ble_eq_true rfl) dX11_fewest_5 (fun r1 σ2 hw H locs hP hD hS => ?_)
  obtain ⟨hF, rfl⟩ := hw
  refine lv_if_ne (tgt := 13) hx hb dX11_fewest_8 (by decide) (fun c3 => ?_) (fun c3 => ?_)
  · have hF := brF hF c3
    refine lv_aload_n hx hb dX11_fewest_13 rfl (lv_at hl 0 rfl) ?_
    refine wi_getr hx hb hg hown hK hP 0 4 6 rfl rfl cb_11 (by decide) kw_363 dX11_fewest_14 ?_
    refine wi_getr hx hb hg hown hK hP 6 4 7 rfl rfl cb_9 (by decide) kw_474 dX11_fewest_17 ?_
    refine lv_iload_n hx hb dX11_fewest_20 rfl (lv_at hl 1 rfl) ?_
    refine lv_aload_n hx hb dX11_fewest_21 rfl (lv_at hl 0 rfl) ?_
    refine wi_getr hx hb hg hown hK hP 0 4 6 rfl rfl cb_11 (by decide) kw_363 dX11_fewest_22 ?_
    refine wi_geti hx hb hg hown hK hP 6 5 rfl rfl cb_9 (by decide) kw_446 dX11_fewest_25 ?_
    refine lv_aload_n hx hb dX11_fewest_28 rfl (lv_at hl 0 rfl) ?_
    refine wi_getr hx hb hg hown hK hP 0 4 6 rfl rfl cb_11 (by decide) kw_363 dX11_fewest_29 ?_
    refine wi_geti hx hb hg hown hK hP 6 6 rfl rfl cb_9 (by decide) kw_475 dX11_fewest_32 ?_
    refine wi_callVi (k := 7) (As := [.int a1, .int (σ.1 6 5), .int (σ.1 6 6)]) (c_X10_fewestTo l D cy ad tL σ a1 (σ.1 6 5) (σ.1 6 6) _ hF) vw_RX11_201 rfl cb_10 hx hb hml hown hg hK hP hD hS hA hLB rfl ⟨Nat.le_of_ble_eq_true rfl, Nat.le_of_ble_eq_true rfl⟩ hl.1 rfl (Nat.le_of_ble_eq_true rfl) dX11_fewest_35 (fun r4 σ5 hw H locs hP hD hS => ?_)
    have hF := hw
    exact wi_iret hx hb hr hlk hK hP hD hS dX11_fewest_38 hF
  · have hF := brT hF c3
    refine lv_iconst (v := (-1 : Int32)) hx hb dX11_fewest_11 (by decide) ?_
    exact wi_iret hx hb hr hlk hK hP hD hS dX11_fewest_12 hF
def w_X11_crossings (σ : St) (post : Int32 → Prop) : Prop := w_X1_size σ (fun r1 => post r1)
set_option maxHeartbeats 4000000 in
set_option maxRecDepth 100000 in
theorem c_X11_crossings (l : Launch) (D : va_G) (cy : Nat → ClassId) (ad : Nat → Nat) (tL : Nat) (σ : St) (post : Int32 → Prop) (hF : w_X11_crossings σ post) : Cti l yX11_crossings cX11_crossings 1 (some .int) 4 85 D cy ad tL dsC σ [.ref (ad 0)] (fun r u => post r ∧ σ = u) := by
  refine cti_of (by decide) (Nat.le_of_ble_eq_true rfl) ?_
  intro p e s m args below meth c A hx hb hml hr hlk hg hown hA hK H locs hP hD hS hLB ls hl
  have hown : s.vm.findClass RX11 = some m.cls := hown
  have hl : lv_has ls 1 [(0, .ref (ad 0))] := hl
  refine lv_aload_n hx hb dX11_crossings_0 rfl (lv_at hl 0 rfl) ?_
  refine wi_getr hx hb hg hown hK hP 0 0 1 rfl rfl cb_11 (by decide) kw_349 dX11_crossings_1 ?_
  refine wi_callSi (As := [.ref (ad 1)]) (c_X1_size l D cy ad tL σ _ hF) sw_RX11_206 hx hb hml hown hg hK hP hD hS hA hLB rfl ⟨Nat.le_of_ble_eq_true rfl, Nat.le_of_ble_eq_true rfl⟩ hl.1 rfl (Nat.le_of_ble_eq_true rfl) dX11_crossings_4 (fun r1 σ2 hw H locs hP hD hS => ?_)
  obtain ⟨hF, rfl⟩ := hw
  exact wi_iret hx hb hr hlk hK hP hD hS dX11_crossings_7 ⟨hF, rfl⟩
def w_X11_crossing (σ : St) (a1 : Int32) (a2 : Int32) (post : Int32 → Prop) : Prop := w_X1_keeperOf σ a1 (fun r1 => br ((0 : Int32) ≤ r1) (br (a2 = (0 : Int32)) (post r1) (br (a2 = (1 : Int32)) (w_X1_kindOf σ r1 (fun r6 => post r6)) (br (a2 = (2 : Int32)) (w_X1_meets σ r1 (fun r9 => br (r9 = (0 : Int32)) (post (0 : Int32)) (post (1 : Int32)))) (br (a2 = (3 : Int32)) (w_X1_isBad σ r1 (fun r13 => br (r13 = (0 : Int32)) (post (0 : Int32)) (post (1 : Int32)))) (br (a2 = (4 : Int32)) (w_X4_foreignBits σ r1 (fun r17 => w_X4_asCells σ r17 (fun r19 => post r19))) (post (-1 : Int32))))))) (post (-1 : Int32)))
set_option maxHeartbeats 4000000 in
set_option maxRecDepth 100000 in
theorem c_X11_crossing (l : Launch) (D : va_G) (cy : Nat → ClassId) (ad : Nat → Nat) (tL : Nat) (σ : St) (a1 : Int32) (a2 : Int32) (post : Int32 → Prop) (hF : w_X11_crossing σ a1 a2 post) : Cti l yX11_crossing cX11_crossing 4 (some .int) 7 153 D cy ad tL dsC σ [.ref (ad 0), .int a1, .int a2] (fun r u => post r ∧ σ = u) := by
  refine cti_of (by decide) (Nat.le_of_ble_eq_true rfl) ?_
  intro p e s m args below meth c A hx hb hml hr hlk hg hown hA hK H locs hP hD hS hLB ls hl
  have hown : s.vm.findClass RX11 = some m.cls := hown
  have hl : lv_has ls 4 [(0, .ref (ad 0)), (1, .int a1), (2, .int a2)] := hl
  refine lv_aload_n hx hb dX11_crossing_0 rfl (lv_at hl 0 rfl) ?_
  refine wi_getr hx hb hg hown hK hP 0 0 1 rfl rfl cb_11 (by decide) kw_349 dX11_crossing_1 ?_
  refine lv_iload_n hx hb dX11_crossing_4 rfl (lv_at hl 1 rfl) ?_
  refine wi_callSi (As := [.ref (ad 1), .int a1]) (c_X1_keeperOf l D cy ad tL σ a1 _ hF) sw_RX11_211 hx hb hml hown hg hK hP hD hS hA hLB rfl ⟨Nat.le_of_ble_eq_true rfl, Nat.le_of_ble_eq_true rfl⟩ hl.1 rfl (Nat.le_of_ble_eq_true rfl) dX11_crossing_5 (fun r1 σ2 hw H locs hP hD hS => ?_)
  obtain ⟨hF, rfl⟩ := hw
  refine lv_istore_n (lv' := [(3, .int r1), (0, .ref (ad 0)), (1, .int a1), (2, .int a2)]) hx hb dX11_crossing_8 rfl hl (by decide) rfl (fun ls hl => ?_)
  refine lv_iload_n hx hb dX11_crossing_9 rfl (lv_at hl 0 rfl) ?_
  refine lv_if_ge (tgt := 15) hx hb dX11_crossing_10 (by decide) (fun c3 => ?_) (fun c3 => ?_)
  · have hF := brT hF c3
    refine lv_iload_n hx hb dX11_crossing_15 rfl (lv_at hl 3 rfl) ?_
    by_cases c4 : a2 = (0 : Int32)
    · have hF := brT hF c4
      refine lv_tableIn (off := 36) (tgt := 52) hx hb dX11_crossing_16 (by rw [c4]; decide) (by rw [c4]; decide) (by rw [c4]; rfl) (by decide) ?_
      refine lv_iload_n hx hb dX11_crossing_52 rfl (lv_at hl 0 rfl) ?_
      exact wi_iret hx hb hr hlk hK hP hD hS dX11_crossing_53 ⟨hF, rfl⟩
    · have hF := brF hF c4
      by_cases c5 : a2 = (1 : Int32)
      · have hF := brT hF c5
        refine lv_tableIn (off := 38) (tgt := 54) hx hb dX11_crossing_16 (by rw [c5]; decide) (by rw [c5]; decide) (by rw [c5]; rfl) (by decide) ?_
        refine lv_aload_n hx hb dX11_crossing_54 rfl (lv_at hl 1 rfl) ?_
        refine wi_getr hx hb hg hown hK hP 0 0 1 rfl rfl cb_11 (by decide) kw_349 dX11_crossing_55 ?_
        refine lv_iload_n hx hb dX11_crossing_58 rfl (lv_at hl 0 rfl) ?_
        refine wi_callSi (As := [.ref (ad 1), .int r1]) (c_X1_kindOf l D cy ad tL σ r1 _ hF) sw_RX11_215 hx hb hml hown hg hK hP hD hS hA hLB rfl ⟨Nat.le_of_ble_eq_true rfl, Nat.le_of_ble_eq_true rfl⟩ hl.1 rfl (Nat.le_of_ble_eq_true rfl) dX11_crossing_59 (fun r6 σ7 hw H locs hP hD hS => ?_)
        obtain ⟨hF, rfl⟩ := hw
        exact wi_iret hx hb hr hlk hK hP hD hS dX11_crossing_62 ⟨hF, rfl⟩
      · have hF := brF hF c5
        by_cases c8 : a2 = (2 : Int32)
        · have hF := brT hF c8
          refine lv_tableIn (off := 47) (tgt := 63) hx hb dX11_crossing_16 (by rw [c8]; decide) (by rw [c8]; decide) (by rw [c8]; rfl) (by decide) ?_
          refine lv_aload_n hx hb dX11_crossing_63 rfl (lv_at hl 1 rfl) ?_
          refine wi_getr hx hb hg hown hK hP 0 0 1 rfl rfl cb_11 (by decide) kw_349 dX11_crossing_64 ?_
          refine lv_iload_n hx hb dX11_crossing_67 rfl (lv_at hl 0 rfl) ?_
          refine wi_callSi (As := [.ref (ad 1), .int r1]) (c_X1_meets l D cy ad tL σ r1 _ hF) sw_RX11_218 hx hb hml hown hg hK hP hD hS hA hLB rfl ⟨Nat.le_of_ble_eq_true rfl, Nat.le_of_ble_eq_true rfl⟩ hl.1 rfl (Nat.le_of_ble_eq_true rfl) dX11_crossing_68 (fun r9 σ10 hw H locs hP hD hS => ?_)
          obtain ⟨hF, rfl⟩ := hw
          refine lv_if_eq (tgt := 78) hx hb dX11_crossing_71 (by decide) (fun c11 => ?_) (fun c11 => ?_)
          · have hF := brT hF c11
            refine lv_iconst (v := (0 : Int32)) hx hb dX11_crossing_78 (by decide) ?_
            exact wi_iret hx hb hr hlk hK hP hD hS dX11_crossing_79 ⟨hF, rfl⟩
          · have hF := brF hF c11
            refine lv_iconst (v := (1 : Int32)) hx hb dX11_crossing_74 (by decide) ?_
            refine lv_goto (tgt := 79) hx hb dX11_crossing_75 (by decide) ?_
            exact wi_iret hx hb hr hlk hK hP hD hS dX11_crossing_79 ⟨hF, rfl⟩
        · have hF := brF hF c8
          by_cases c12 : a2 = (3 : Int32)
          · have hF := brT hF c12
            refine lv_tableIn (off := 64) (tgt := 80) hx hb dX11_crossing_16 (by rw [c12]; decide) (by rw [c12]; decide) (by rw [c12]; rfl) (by decide) ?_
            refine lv_aload_n hx hb dX11_crossing_80 rfl (lv_at hl 1 rfl) ?_
            refine wi_getr hx hb hg hown hK hP 0 0 1 rfl rfl cb_11 (by decide) kw_349 dX11_crossing_81 ?_
            refine lv_iload_n hx hb dX11_crossing_84 rfl (lv_at hl 0 rfl) ?_
            refine wi_callSi (As := [.ref (ad 1), .int r1]) (c_X1_isBad l D cy ad tL σ r1 _ hF) sw_RX11_222 hx hb hml hown hg hK hP hD hS hA hLB rfl ⟨Nat.le_of_ble_eq_true rfl, Nat.le_of_ble_eq_true rfl⟩ hl.1 rfl (Nat.le_of_ble_eq_true rfl) dX11_crossing_85 (fun r13 σ14 hw H locs hP hD hS => ?_)
            obtain ⟨hF, rfl⟩ := hw
            refine lv_if_eq (tgt := 95) hx hb dX11_crossing_88 (by decide) (fun c15 => ?_) (fun c15 => ?_)
            · have hF := brT hF c15
              refine lv_iconst (v := (0 : Int32)) hx hb dX11_crossing_95 (by decide) ?_
              exact wi_iret hx hb hr hlk hK hP hD hS dX11_crossing_96 ⟨hF, rfl⟩
            · have hF := brF hF c15
              refine lv_iconst (v := (1 : Int32)) hx hb dX11_crossing_91 (by decide) ?_
              refine lv_goto (tgt := 96) hx hb dX11_crossing_92 (by decide) ?_
              exact wi_iret hx hb hr hlk hK hP hD hS dX11_crossing_96 ⟨hF, rfl⟩
          · have hF := brF hF c12
            by_cases c16 : a2 = (4 : Int32)
            · have hF := brT hF c16
              refine lv_tableIn (off := 81) (tgt := 97) hx hb dX11_crossing_16 (by rw [c16]; decide) (by rw [c16]; decide) (by rw [c16]; rfl) (by decide) ?_
              refine lv_aload_n hx hb dX11_crossing_97 rfl (lv_at hl 1 rfl) ?_
              refine wi_getr hx hb hg hown hK hP 0 0 1 rfl rfl cb_11 (by decide) kw_349 dX11_crossing_98 ?_
              refine lv_aload_n hx hb dX11_crossing_101 rfl (lv_at hl 1 rfl) ?_
              refine wi_getr hx hb hg hown hK hP 0 0 1 rfl rfl cb_11 (by decide) kw_349 dX11_crossing_102 ?_
              refine lv_iload_n hx hb dX11_crossing_105 rfl (lv_at hl 0 rfl) ?_
              refine wi_callVi (k := 1) (As := [.int r1]) (c_X4_foreignBits l D cy ad tL σ r1 _ hF) vw_RX11_225 rfl cb_4 hx hb hml hown hg hK hP hD hS hA hLB rfl ⟨Nat.le_of_ble_eq_true rfl, Nat.le_of_ble_eq_true rfl⟩ hl.1 rfl (Nat.le_of_ble_eq_true rfl) dX11_crossing_106 (fun r17 σ18 hw H locs hP hD hS => ?_)
              obtain ⟨hF, rfl⟩ := hw
              refine wi_callVi (k := 1) (As := [.int r17]) (c_X4_asCells l D cy ad tL σ r17 _ hF) vw_RX11_229 rfl cb_4 hx hb hml hown hg hK hP hD hS hA hLB rfl ⟨Nat.le_of_ble_eq_true rfl, Nat.le_of_ble_eq_true rfl⟩ hl.1 rfl (Nat.le_of_ble_eq_true rfl) dX11_crossing_109 (fun r19 σ20 hw H locs hP hD hS => ?_)
              obtain ⟨hF, rfl⟩ := hw
              exact wi_iret hx hb hr hlk hK hP hD hS dX11_crossing_112 ⟨hF, rfl⟩
            · have hF := brF hF c16
              have nc4 := lv_neT (a := 0) c4 (by decide)
              have nc5 := lv_neT (a := 1) c5 (by decide)
              have nc8 := lv_neT (a := 2) c8 (by decide)
              have nc12 := lv_neT (a := 3) c12 (by decide)
              have nc16 := lv_neT (a := 4) c16 (by decide)
              refine lv_tableOut (tgt := 113) hx hb dX11_crossing_16 (by omega) (by decide) ?_
              refine lv_iconst (v := (-1 : Int32)) hx hb dX11_crossing_113 (by decide) ?_
              exact wi_iret hx hb hr hlk hK hP hD hS dX11_crossing_114 ⟨hF, rfl⟩
  · have hF := brF hF c3
    refine lv_iconst (v := (-1 : Int32)) hx hb dX11_crossing_13 (by decide) ?_
    exact wi_iret hx hb hr hlk hK hP hD hS dX11_crossing_14 ⟨hF, rfl⟩
def w_X11_mend (σ : St) (a1 : Int32) (post : Int32 → St → Prop) : Prop := w_X1_keeperOf σ a1 (fun r1 => br ((0 : Int32) ≤ r1) (w_X4_takesNoBit σ (fun r4 => br (r4 = (0 : Int32)) (w_X1_kindOf σ r1 (fun r7 => br (r7 = (3 : Int32)) (w_X4_addBehind σ r1 (fun r10 σ11 => w_X11_beginAnew σ11 (fun σ13 => post r10 σ13))) (post (-3 : Int32) σ))) (post (-2 : Int32) σ))) (post (-1 : Int32) σ))
set_option maxHeartbeats 4000000 in
set_option maxRecDepth 100000 in
theorem c_X11_mend (l : Launch) (D : va_G) (cy : Nat → ClassId) (ad : Nat → Nat) (tL : Nat) (σ : St) (a1 : Int32) (post : Int32 → St → Prop) (hF : w_X11_mend σ a1 post) : Cti l yX11_mend cX11_mend 4 (some .int) 6 132 D cy ad tL dsC σ [.ref (ad 0), .int a1] post := by
  refine cti_of (by decide) (Nat.le_of_ble_eq_true rfl) ?_
  intro p e s m args below meth c A hx hb hml hr hlk hg hown hA hK H locs hP hD hS hLB ls hl
  have hown : s.vm.findClass RX11 = some m.cls := hown
  have hl : lv_has ls 4 [(0, .ref (ad 0)), (1, .int a1)] := hl
  refine lv_aload_n hx hb dX11_mend_0 rfl (lv_at hl 0 rfl) ?_
  refine wi_getr hx hb hg hown hK hP 0 0 1 rfl rfl cb_11 (by decide) kw_349 dX11_mend_1 ?_
  refine lv_iload_n hx hb dX11_mend_4 rfl (lv_at hl 1 rfl) ?_
  refine wi_callSi (As := [.ref (ad 1), .int a1]) (c_X1_keeperOf l D cy ad tL σ a1 _ hF) sw_RX11_211 hx hb hml hown hg hK hP hD hS hA hLB rfl ⟨Nat.le_of_ble_eq_true rfl, Nat.le_of_ble_eq_true rfl⟩ hl.1 rfl (Nat.le_of_ble_eq_true rfl) dX11_mend_5 (fun r1 σ2 hw H locs hP hD hS => ?_)
  obtain ⟨hF, rfl⟩ := hw
  refine lv_istore_n (lv' := [(2, .int r1), (0, .ref (ad 0)), (1, .int a1)]) hx hb dX11_mend_8 rfl hl (by decide) rfl (fun ls hl => ?_)
  refine lv_iload_n hx hb dX11_mend_9 rfl (lv_at hl 0 rfl) ?_
  refine lv_if_ge (tgt := 15) hx hb dX11_mend_10 (by decide) (fun c3 => ?_) (fun c3 => ?_)
  · have hF := brT hF c3
    refine lv_aload_n hx hb dX11_mend_15 rfl (lv_at hl 1 rfl) ?_
    refine wi_getr hx hb hg hown hK hP 0 0 1 rfl rfl cb_11 (by decide) kw_349 dX11_mend_16 ?_
    refine wi_callVi (k := 1) (As := []) (c_X4_takesNoBit l D cy ad tL σ _ hF) vw_RX11_232 rfl cb_4 hx hb hml hown hg hK hP hD hS hA hLB rfl ⟨Nat.le_of_ble_eq_true rfl, Nat.le_of_ble_eq_true rfl⟩ hl.1 rfl (Nat.le_of_ble_eq_true rfl) dX11_mend_19 (fun r4 σ5 hw H locs hP hD hS => ?_)
    obtain ⟨hF, rfl⟩ := hw
    refine lv_if_eq (tgt := 28) hx hb dX11_mend_22 (by decide) (fun c6 => ?_) (fun c6 => ?_)
    · have hF := brT hF c6
      refine lv_aload_n hx hb dX11_mend_28 rfl (lv_at hl 1 rfl) ?_
      refine wi_getr hx hb hg hown hK hP 0 0 1 rfl rfl cb_11 (by decide) kw_349 dX11_mend_29 ?_
      refine lv_iload_n hx hb dX11_mend_32 rfl (lv_at hl 0 rfl) ?_
      refine wi_callSi (As := [.ref (ad 1), .int r1]) (c_X1_kindOf l D cy ad tL σ r1 _ hF) sw_RX11_215 hx hb hml hown hg hK hP hD hS hA hLB rfl ⟨Nat.le_of_ble_eq_true rfl, Nat.le_of_ble_eq_true rfl⟩ hl.1 rfl (Nat.le_of_ble_eq_true rfl) dX11_mend_33 (fun r7 σ8 hw H locs hP hD hS => ?_)
      obtain ⟨hF, rfl⟩ := hw
      refine lv_iconst (v := (3 : Int32)) hx hb dX11_mend_36 (by decide) ?_
      refine lv_icmp_eq (tgt := 43) hx hb dX11_mend_37 (by decide) (fun c9 => ?_) (fun c9 => ?_)
      · have hF := brT hF c9
        refine lv_aload_n hx hb dX11_mend_43 rfl (lv_at hl 1 rfl) ?_
        refine wi_getr hx hb hg hown hK hP 0 0 1 rfl rfl cb_11 (by decide) kw_349 dX11_mend_44 ?_
        refine lv_iload_n hx hb dX11_mend_47 rfl (lv_at hl 0 rfl) ?_
        refine wi_callVi (k := 1) (As := [.int r1]) (c_X4_addBehind l D cy ad tL σ r1 _ hF) vw_RX11_236 rfl cb_4 hx hb hml hown hg hK hP hD hS hA hLB rfl ⟨Nat.le_of_ble_eq_true rfl, Nat.le_of_ble_eq_true rfl⟩ hl.1 rfl (Nat.le_of_ble_eq_true rfl) dX11_mend_48 (fun r10 σ11 hw H locs hP hD hS => ?_)
        have hF := hw
        refine lv_istore_n (lv' := [(3, .int r10), (2, .int r1), (0, .ref (ad 0)), (1, .int a1)]) hx hb dX11_mend_51 rfl hl (by decide) rfl (fun ls hl => ?_)
        refine lv_aload_n hx hb dX11_mend_52 rfl (lv_at hl 2 rfl) ?_
        refine wi_callVv (k := 0) (As := []) (c_X11_beginAnew l D cy ad tL σ11 _ hF) vw_RX11_78 rfl cb_11 hx hb hml hown hg hK hP hD hS hA hLB rfl ⟨Nat.le_of_ble_eq_true rfl, Nat.le_of_ble_eq_true rfl⟩ hl.1 rfl (Nat.le_of_ble_eq_true rfl) dX11_mend_53 (fun σ13 hw H locs hP hD hS => ?_)
        have hF := hw
        refine lv_iload_n hx hb dX11_mend_56 rfl (lv_at hl 0 rfl) ?_
        exact wi_iret hx hb hr hlk hK hP hD hS dX11_mend_57 hF
      · have hF := brF hF c9
        refine lv_bipush (v := (-3 : Int32)) hx hb dX11_mend_40 (by decide) ?_
        exact wi_iret hx hb hr hlk hK hP hD hS dX11_mend_42 hF
    · have hF := brF hF c6
      refine lv_bipush (v := (-2 : Int32)) hx hb dX11_mend_25 (by decide) ?_
      exact wi_iret hx hb hr hlk hK hP hD hS dX11_mend_27 hF
  · have hF := brF hF c3
    refine lv_iconst (v := (-1 : Int32)) hx hb dX11_mend_13 (by decide) ?_
    exact wi_iret hx hb hr hlk hK hP hD hS dX11_mend_14 hF
def w_X11_count (σ : St) (a1 : Int32) (post : Int32 → Prop) : Prop := br (a1 = (0 : Int32)) (post (σ.1 1 0)) (br (a1 = (1 : Int32)) (post (σ.1 1 1)) (br (a1 = (2 : Int32)) (post ((σ.1 1 0) - (σ.1 1 1))) (br (a1 = (3 : Int32)) (post (σ.1 3 1)) (br (a1 = (4 : Int32)) (post (σ.1 5 3)) (br (a1 = (5 : Int32)) (post (σ.1 6 5)) (br (a1 = (6 : Int32)) (post (σ.1 6 6)) (br (a1 = (7 : Int32)) (post (σ.1 6 7)) (post (-1 : Int32)))))))))
set_option maxHeartbeats 4000000 in
set_option maxRecDepth 100000 in
theorem c_X11_count (l : Launch) (D : va_G) (cy : Nat → ClassId) (ad : Nat → Nat) (tL : Nat) (σ : St) (a1 : Int32) (post : Int32 → Prop) (hF : w_X11_count σ a1 post) : Cti l yX11_count cX11_count 2 (some .int) 0 0 D cy ad tL dsC σ [.ref (ad 0), .int a1] (fun r u => post r ∧ σ = u) := by
  refine cti_of (by decide) (Nat.le_of_ble_eq_true rfl) ?_
  intro p e s m args below meth c A hx hb hml hr hlk hg hown hA hK H locs hP hD hS hLB ls hl
  have hown : s.vm.findClass RX11 = some m.cls := hown
  have hl : lv_has ls 2 [(0, .ref (ad 0)), (1, .int a1)] := hl
  refine lv_iload_n hx hb dX11_count_0 rfl (lv_at hl 1 rfl) ?_
  by_cases c1 : a1 = (0 : Int32)
  · have hF := brT hF c1
    refine lv_tableIn (off := 47) (tgt := 48) hx hb dX11_count_1 (by rw [c1]; decide) (by rw [c1]; decide) (by rw [c1]; rfl) (by decide) ?_
    refine lv_aload_n hx hb dX11_count_48 rfl (lv_at hl 0 rfl) ?_
    refine wi_getr hx hb hg hown hK hP 0 0 1 rfl rfl cb_11 (by decide) kw_349 dX11_count_49 ?_
    refine wi_geti hx hb hg hown hK hP 1 0 rfl rfl cb_4 (by decide) kw_399 dX11_count_52 ?_
    exact wi_iret hx hb hr hlk hK hP hD hS dX11_count_55 ⟨hF, rfl⟩
  · have hF := brF hF c1
    by_cases c2 : a1 = (1 : Int32)
    · have hF := brT hF c2
      refine lv_tableIn (off := 55) (tgt := 56) hx hb dX11_count_1 (by rw [c2]; decide) (by rw [c2]; decide) (by rw [c2]; rfl) (by decide) ?_
      refine lv_aload_n hx hb dX11_count_56 rfl (lv_at hl 0 rfl) ?_
      refine wi_getr hx hb hg hown hK hP 0 0 1 rfl rfl cb_11 (by decide) kw_349 dX11_count_57 ?_
      refine wi_geti hx hb hg hown hK hP 1 1 rfl rfl cb_4 (by decide) kw_434 dX11_count_60 ?_
      exact wi_iret hx hb hr hlk hK hP hD hS dX11_count_63 ⟨hF, rfl⟩
    · have hF := brF hF c2
      by_cases c3 : a1 = (2 : Int32)
      · have hF := brT hF c3
        refine lv_tableIn (off := 63) (tgt := 64) hx hb dX11_count_1 (by rw [c3]; decide) (by rw [c3]; decide) (by rw [c3]; rfl) (by decide) ?_
        refine lv_aload_n hx hb dX11_count_64 rfl (lv_at hl 0 rfl) ?_
        refine wi_getr hx hb hg hown hK hP 0 0 1 rfl rfl cb_11 (by decide) kw_349 dX11_count_65 ?_
        refine wi_geti hx hb hg hown hK hP 1 0 rfl rfl cb_4 (by decide) kw_399 dX11_count_68 ?_
        refine lv_aload_n hx hb dX11_count_71 rfl (lv_at hl 0 rfl) ?_
        refine wi_getr hx hb hg hown hK hP 0 0 1 rfl rfl cb_11 (by decide) kw_349 dX11_count_72 ?_
        refine wi_geti hx hb hg hown hK hP 1 1 rfl rfl cb_4 (by decide) kw_434 dX11_count_75 ?_
        refine lv_isub hx hb dX11_count_78 ?_
        exact wi_iret hx hb hr hlk hK hP hD hS dX11_count_79 ⟨hF, rfl⟩
      · have hF := brF hF c3
        by_cases c4 : a1 = (3 : Int32)
        · have hF := brT hF c4
          refine lv_tableIn (off := 79) (tgt := 80) hx hb dX11_count_1 (by rw [c4]; decide) (by rw [c4]; decide) (by rw [c4]; rfl) (by decide) ?_
          refine lv_aload_n hx hb dX11_count_80 rfl (lv_at hl 0 rfl) ?_
          refine wi_getr hx hb hg hown hK hP 0 2 3 rfl rfl cb_11 (by decide) kw_355 dX11_count_81 ?_
          refine wi_geti hx hb hg hown hK hP 3 1 rfl rfl cb_5 (by decide) kw_419 dX11_count_84 ?_
          exact wi_iret hx hb hr hlk hK hP hD hS dX11_count_87 ⟨hF, rfl⟩
        · have hF := brF hF c4
          by_cases c5 : a1 = (4 : Int32)
          · have hF := brT hF c5
            refine lv_tableIn (off := 87) (tgt := 88) hx hb dX11_count_1 (by rw [c5]; decide) (by rw [c5]; decide) (by rw [c5]; rfl) (by decide) ?_
            refine lv_aload_n hx hb dX11_count_88 rfl (lv_at hl 0 rfl) ?_
            refine wi_getr hx hb hg hown hK hP 0 3 5 rfl rfl cb_11 (by decide) kw_360 dX11_count_89 ?_
            refine wi_geti hx hb hg hown hK hP 5 3 rfl rfl cb_7 (by decide) kw_425 dX11_count_92 ?_
            exact wi_iret hx hb hr hlk hK hP hD hS dX11_count_95 ⟨hF, rfl⟩
          · have hF := brF hF c5
            by_cases c6 : a1 = (5 : Int32)
            · have hF := brT hF c6
              refine lv_tableIn (off := 95) (tgt := 96) hx hb dX11_count_1 (by rw [c6]; decide) (by rw [c6]; decide) (by rw [c6]; rfl) (by decide) ?_
              refine lv_aload_n hx hb dX11_count_96 rfl (lv_at hl 0 rfl) ?_
              refine wi_getr hx hb hg hown hK hP 0 4 6 rfl rfl cb_11 (by decide) kw_363 dX11_count_97 ?_
              refine wi_geti hx hb hg hown hK hP 6 5 rfl rfl cb_9 (by decide) kw_446 dX11_count_100 ?_
              exact wi_iret hx hb hr hlk hK hP hD hS dX11_count_103 ⟨hF, rfl⟩
            · have hF := brF hF c6
              by_cases c7 : a1 = (6 : Int32)
              · have hF := brT hF c7
                refine lv_tableIn (off := 103) (tgt := 104) hx hb dX11_count_1 (by rw [c7]; decide) (by rw [c7]; decide) (by rw [c7]; rfl) (by decide) ?_
                refine lv_aload_n hx hb dX11_count_104 rfl (lv_at hl 0 rfl) ?_
                refine wi_getr hx hb hg hown hK hP 0 4 6 rfl rfl cb_11 (by decide) kw_363 dX11_count_105 ?_
                refine wi_geti hx hb hg hown hK hP 6 6 rfl rfl cb_9 (by decide) kw_475 dX11_count_108 ?_
                exact wi_iret hx hb hr hlk hK hP hD hS dX11_count_111 ⟨hF, rfl⟩
              · have hF := brF hF c7
                by_cases c8 : a1 = (7 : Int32)
                · have hF := brT hF c8
                  refine lv_tableIn (off := 111) (tgt := 112) hx hb dX11_count_1 (by rw [c8]; decide) (by rw [c8]; decide) (by rw [c8]; rfl) (by decide) ?_
                  refine lv_aload_n hx hb dX11_count_112 rfl (lv_at hl 0 rfl) ?_
                  refine wi_getr hx hb hg hown hK hP 0 4 6 rfl rfl cb_11 (by decide) kw_363 dX11_count_113 ?_
                  refine wi_geti hx hb hg hown hK hP 6 7 rfl rfl cb_9 (by decide) kw_499 dX11_count_116 ?_
                  exact wi_iret hx hb hr hlk hK hP hD hS dX11_count_119 ⟨hF, rfl⟩
                · have hF := brF hF c8
                  have nc1 := lv_neT (a := 0) c1 (by decide)
                  have nc2 := lv_neT (a := 1) c2 (by decide)
                  have nc3 := lv_neT (a := 2) c3 (by decide)
                  have nc4 := lv_neT (a := 3) c4 (by decide)
                  have nc5 := lv_neT (a := 4) c5 (by decide)
                  have nc6 := lv_neT (a := 5) c6 (by decide)
                  have nc7 := lv_neT (a := 6) c7 (by decide)
                  have nc8 := lv_neT (a := 7) c8 (by decide)
                  refine lv_tableOut (tgt := 120) hx hb dX11_count_1 (by omega) (by decide) ?_
                  refine lv_iconst (v := (-1 : Int32)) hx hb dX11_count_120 (by decide) ?_
                  exact wi_iret hx hb hr hlk hK hP hD hS dX11_count_121 ⟨hF, rfl⟩
