def w_X12_countBits_L4 (a1 : Int32) (J1 : Int32 → Prop) (rec5 : Int32 → Int32 → Prop) (y3 : Int32) (y4 : Int32) : Prop := br ((24 : Int32) ≤ y4) (J1 y3) (nm (y3 + ((a1 >>> (y4 &&& 31)) &&& (1 : Int32))) (fun x7 => nm (y4 + (1 : Int32)) (fun x8 => rec5 x7 x8)))
def w_X12_countBits (a1 : Int32) (post : Int32 → Prop) : Prop := jn (α := Int32 → Prop) (fun (y2 : Int32) => post y2) (fun J1 => lpE2 (w_X12_countBits_L4 a1 J1) (0 : Int32) (0 : Int32))
set_option maxHeartbeats 4000000 in
set_option maxRecDepth 100000 in
theorem c_X12_countBits (l : Launch) (D : va_G) (cy : Nat → ClassId) (ad : Nat → Nat) (tL : Nat) (σ : St) (a1 : Int32) (post : Int32 → Prop) (hF : w_X12_countBits a1 post) : Cti l yX12_countBits cX12_countBits 4 (some .int) 0 0 D cy ad tL dsM σ [.ref (ad 0), .int a1] (fun r u => post r ∧ σ = u) := by
  refine cti_of (by decide) (Nat.le_of_ble_eq_true rfl) ?_
  intro p e s m args below meth c A hx hb hml hr hlk hg hown hA hK H locs hP hD hS hLB ls hl
  have hown : s.vm.findClass RX12 = some m.cls := hown
  have hl : lv_has ls 4 [(0, .ref (ad 0)), (1, .int a1)] := hl
  refine lv_iconst (v := (0 : Int32)) hx hb dX12_countBits_0 (by decide) ?_
  refine lv_istore_n (lv' := [(2, .int (0 : Int32)), (0, .ref (ad 0)), (1, .int a1)]) hx hb dX12_countBits_1 rfl hl (by decide) rfl (fun ls hl => ?_)
  refine lv_iconst (v := (0 : Int32)) hx hb dX12_countBits_2 (by decide) ?_
  refine lv_istore_n (lv' := [(3, .int (0 : Int32)), (2, .int (0 : Int32)), (0, .ref (ad 0)), (1, .int a1)]) hx hb dX12_countBits_3 rfl hl (by decide) rfl (fun ls hl => ?_)
  refine jn_use hF (fun K => ∀ (y2 : Int32) (H : Heap) (locs : List Loc) (ls : Array Slot), K y2 → va_P D vwCl (wld cy ad dsM σ) H → va_D A (wld cy ad dsM σ) → va_S A s.heap H locs → lv_has ls 4 [(2, .int y2)] → W p l e (rmO 0 0) s m args below meth c H locs 0 0 (MQ below (va_Qi (fun r u => post r ∧ σ = u) (cBk D cy ad dsM A) A) args s 0 0 A) (F0 m 24 ls [])) (fun y2 H locs ls hF hP hD hS hl => ?_) (fun J1 hJ1 hF => ?_)
  · refine lv_iload_n hx hb dX12_countBits_24 rfl (lv_at hl 0 rfl) ?_
    exact wi_iret hx hb hr hlk hK hP hD hS dX12_countBits_25 ⟨hF, rfl⟩
  · refine lpE2_use hF (fun (y3 : Int32) (y4 : Int32) => ∀ (H : Heap) (locs : List Loc) (ls : Array Slot), va_P D vwCl (wld cy ad dsM σ) H → va_D A (wld cy ad dsM σ) → va_S A s.heap H locs → lv_has ls 4 [(1, .int a1), (2, .int y3), (3, .int y4)] → W p l e (rmO 0 0) s m args below meth c H locs 0 0 (MQ below (va_Qi (fun r u => post r ∧ σ = u) (cBk D cy ad dsM A) A) args s 0 0 A) (F0 m 4 ls [])) (fun rec5 hrec5 y3 y4 hF H locs ls hP hD hS hl => ?_) H locs ls hP hD hS (lv_sub hl [3, 1, 0] rfl)
    refine lv_iload_n hx hb dX12_countBits_4 rfl (lv_at hl 2 rfl) ?_
    refine lv_bipush (v := (24 : Int32)) hx hb dX12_countBits_5 (by decide) ?_
    refine lv_icmp_ge (tgt := 24) hx hb dX12_countBits_7 (by decide) (fun c6 => ?_) (fun c6 => ?_)
    · have hF := brT hF c6
      exact hJ1 y3 H locs ls hF hP hD hS (lv_sub hl [1] rfl)
    · have hF := brF hF c6
      refine lv_iload_n hx hb dX12_countBits_10 rfl (lv_at hl 1 rfl) ?_
      refine lv_iload_n hx hb dX12_countBits_11 rfl (lv_at hl 0 rfl) ?_
      refine lv_iload_n hx hb dX12_countBits_12 rfl (lv_at hl 2 rfl) ?_
      refine lv_ishr hx hb dX12_countBits_13 ?_
      refine lv_iconst (v := (1 : Int32)) hx hb dX12_countBits_14 (by decide) ?_
      refine lv_iand hx hb dX12_countBits_15 ?_
      refine lv_iadd hx hb dX12_countBits_16 ?_
      refine lv_topi (fun x7 ex7 => ?_)
      have hF := hF x7 ex7
      refine lv_istore_n (lv' := [(2, .int x7), (1, .int a1), (3, .int y4)]) hx hb dX12_countBits_17 rfl hl (by decide) rfl (fun ls hl => ?_)
      obtain ⟨x8, ex8⟩ : ∃ z : Int32, z = (y4 + (1 : Int32)) := ⟨_, rfl⟩
      have hF := hF x8 ex8
      refine lv_iinc (v := x8) (lv' := [(3, .int x8), (2, .int x7), (1, .int a1)]) hx hb dX12_countBits_18 hl (k := 2) rfl (by rw [ex8]; rfl) (by decide) rfl (fun ls hl => ?_)
      refine lv_goto (tgt := 4) hx hb dX12_countBits_21 (by decide) ?_
      exact hrec5 x7 x8 hF H locs ls hP hD hS (lv_sub hl [2, 1, 0] rfl)
def w_X12_behind_L10 (a1 : Int32) (σ : St) (J2 : Int32 → Prop) (rec9 : Int32 → Int32 → Int32 → Prop) (y6 : Int32) (y7 : Int32) (y8 : Int32) : Prop := br ((σ.1 0 1) ≤ y8) (J2 y6) (br ((((σ.1 0 24) >>> (y8 &&& 31)) &&& (1 : Int32)) = (1 : Int32)) (jn (α := Int32 → Prop) (fun (y14 : Int32) => nm (y6 ^^^ (y14 <<< (y8 &&& 31))) (fun x15 => nm (y7 + (1 : Int32)) (fun x16 => nm (y8 + (1 : Int32)) (fun x17 => rec9 x15 x16 x17)))) (fun J13 => br ((31 : Int32) ≤ y7) (J13 (0 : Int32)) (J13 ((a1 >>> (y7 &&& 31)) &&& (1 : Int32))))) (nm (y8 + (1 : Int32)) (fun x12 => rec9 y6 y7 x12)))
def w_X12_behind (σ : St) (a1 : Int32) (post : Int32 → Prop) : Prop := nm (σ.1 0 22) (fun x1 => jn (α := Int32 → Prop) (fun (y3 : Int32) => w_X12_settle σ y3 (fun r4 => post r4)) (fun J2 => lpE3 (w_X12_behind_L10 a1 σ J2) x1 (0 : Int32) (0 : Int32)))
set_option maxHeartbeats 4000000 in
set_option maxRecDepth 100000 in
theorem c_X12_behind (l : Launch) (D : va_G) (cy : Nat → ClassId) (ad : Nat → Nat) (tL : Nat) (σ : St) (a1 : Int32) (post : Int32 → Prop) (hF : w_X12_behind σ a1 post) : Cti l yX12_behind cX12_behind 5 (some .int) 2 47 D cy ad tL dsM σ [.ref (ad 0), .int a1] (fun r u => post r ∧ σ = u) := by
  refine cti_of (by decide) (Nat.le_of_ble_eq_true rfl) ?_
  intro p e s m args below meth c A hx hb hml hr hlk hg hown hA hK H locs hP hD hS hLB ls hl
  have hown : s.vm.findClass RX12 = some m.cls := hown
  have hl : lv_has ls 5 [(0, .ref (ad 0)), (1, .int a1)] := hl
  refine lv_aload_n hx hb dX12_behind_0 rfl (lv_at hl 0 rfl) ?_
  refine wi_geti hx hb hg hown hK hP 0 22 rfl rfl cb_12 (by decide) kw_666 dX12_behind_1 ?_
  refine lv_topi (fun x1 ex1 => ?_)
  have hF := hF x1 ex1
  refine lv_istore_n (lv' := [(2, .int x1), (0, .ref (ad 0)), (1, .int a1)]) hx hb dX12_behind_4 rfl hl (by decide) rfl (fun ls hl => ?_)
  refine lv_iconst (v := (0 : Int32)) hx hb dX12_behind_5 (by decide) ?_
  refine lv_istore_n (lv' := [(3, .int (0 : Int32)), (2, .int x1), (0, .ref (ad 0)), (1, .int a1)]) hx hb dX12_behind_6 rfl hl (by decide) rfl (fun ls hl => ?_)
  refine lv_iconst (v := (0 : Int32)) hx hb dX12_behind_7 (by decide) ?_
  refine lv_istore (lv' := [(4, .int (0 : Int32)), (3, .int (0 : Int32)), (2, .int x1), (0, .ref (ad 0)), (1, .int a1)]) hx hb dX12_behind_8 hl (by decide) rfl (fun ls hl => ?_)
  refine jn_use hF (fun K => ∀ (y3 : Int32) (H : Heap) (locs : List Loc) (ls : Array Slot), K y3 → va_P D vwCl (wld cy ad dsM σ) H → va_D A (wld cy ad dsM σ) → va_S A s.heap H locs → lv_has ls 5 [(0, .ref (ad 0)), (2, .int y3)] → W p l e (rmO 2 47) s m args below meth c H locs 0 0 (MQ below (va_Qi (fun r u => post r ∧ σ = u) (cBk D cy ad dsM A) A) args s 0 0 A) (F0 m 62 ls [])) (fun y3 H locs ls hF hP hD hS hl => ?_) (fun J2 hJ2 hF => ?_)
  · refine lv_aload_n hx hb dX12_behind_62 rfl (lv_at hl 0 rfl) ?_
    refine lv_iload_n hx hb dX12_behind_63 rfl (lv_at hl 1 rfl) ?_
    refine wi_callVi (k := 0) (As := [.int y3]) (c_X12_settle l D cy ad tL σ y3 _ hF) vw_RX12_137 rfl cb_12 hx hb hml hown hg hK hP hD hS hA hLB rfl ⟨Nat.le_of_ble_eq_true rfl, Nat.le_of_ble_eq_true rfl⟩ hl.1 rfl (Nat.le_of_ble_eq_true rfl) dX12_behind_64 (fun r4 σ5 hw H locs hP hD hS => ?_)
    obtain ⟨hF, rfl⟩ := hw
    exact wi_iret hx hb hr hlk hK hP hD hS dX12_behind_67 ⟨hF, rfl⟩
  · refine lpE3_use hF (fun (y6 : Int32) (y7 : Int32) (y8 : Int32) => ∀ (H : Heap) (locs : List Loc) (ls : Array Slot), va_P D vwCl (wld cy ad dsM σ) H → va_D A (wld cy ad dsM σ) → va_S A s.heap H locs → lv_has ls 5 [(0, .ref (ad 0)), (1, .int a1), (2, .int y6), (3, .int y7), (4, .int y8)] → W p l e (rmO 2 47) s m args below meth c H locs 0 0 (MQ below (va_Qi (fun r u => post r ∧ σ = u) (cBk D cy ad dsM A) A) args s 0 0 A) (F0 m 10 ls [])) (fun rec9 hrec9 y6 y7 y8 hF H locs ls hP hD hS hl => ?_) H locs ls hP hD hS (lv_sub hl [3, 4, 2, 1, 0] rfl)
    refine lv_iload hx hb dX12_behind_10 (lv_at hl 4 rfl) ?_
    refine lv_aload_n hx hb dX12_behind_12 rfl (lv_at hl 0 rfl) ?_
    refine wi_geti hx hb hg hown hK hP 0 1 rfl rfl cb_12 (by decide) kw_559 dX12_behind_13 ?_
    refine lv_icmp_ge (tgt := 62) hx hb dX12_behind_16 (by decide) (fun c10 => ?_) (fun c10 => ?_)
    · have hF := brT hF c10
      exact hJ2 y6 H locs ls hF hP hD hS (lv_sub hl [0, 2] rfl)
    · have hF := brF hF c10
      refine lv_aload_n hx hb dX12_behind_19 rfl (lv_at hl 0 rfl) ?_
      refine wi_geti hx hb hg hown hK hP 0 24 rfl rfl cb_12 (by decide) kw_672 dX12_behind_20 ?_
      refine lv_iload hx hb dX12_behind_23 (lv_at hl 4 rfl) ?_
      refine lv_ishr hx hb dX12_behind_25 ?_
      refine lv_iconst (v := (1 : Int32)) hx hb dX12_behind_26 (by decide) ?_
      refine lv_iand hx hb dX12_behind_27 ?_
      refine lv_iconst (v := (1 : Int32)) hx hb dX12_behind_28 (by decide) ?_
      refine lv_icmp_ne (tgt := 56) hx hb dX12_behind_29 (by decide) (fun c11 => ?_) (fun c11 => ?_)
      · have hF := brF hF c11
        obtain ⟨x12, ex12⟩ : ∃ z : Int32, z = (y8 + (1 : Int32)) := ⟨_, rfl⟩
        have hF := hF x12 ex12
        refine lv_iinc (v := x12) (lv' := [(4, .int x12), (0, .ref (ad 0)), (1, .int a1), (2, .int y6), (3, .int y7)]) hx hb dX12_behind_56 hl (k := 4) rfl (by rw [ex12]; rfl) (by decide) rfl (fun ls hl => ?_)
        refine lv_goto (tgt := 10) hx hb dX12_behind_59 (by decide) ?_
        exact hrec9 y6 y7 x12 hF H locs ls hP hD hS (lv_sub hl [1, 2, 3, 4, 0] rfl)
      · have hF := brT hF c11
        refine lv_iload_n hx hb dX12_behind_32 rfl (lv_at hl 2 rfl) ?_
        refine lv_iload_n hx hb dX12_behind_33 rfl (lv_at hl 3 rfl) ?_
        refine lv_bipush (v := (31 : Int32)) hx hb dX12_behind_34 (by decide) ?_
        refine jn_use hF (fun K => ∀ (y14 : Int32) (H : Heap) (locs : List Loc) (ls : Array Slot), K y14 → va_P D vwCl (wld cy ad dsM σ) H → va_D A (wld cy ad dsM σ) → va_S A s.heap H locs → lv_has ls 5 [(0, .ref (ad 0)), (1, .int a1), (3, .int y7), (4, .int y8)] → W p l e (rmO 2 47) s m args below meth c H locs 0 0 (MQ below (va_Qi (fun r u => post r ∧ σ = u) (cBk D cy ad dsM A) A) args s 0 0 A) (F0 m 48 ls [.int y14, .int y6])) (fun y14 H locs ls hF hP hD hS hl => ?_) (fun J13 hJ13 hF => ?_)
        · refine lv_iload hx hb dX12_behind_48 (lv_at hl 3 rfl) ?_
          refine lv_ishl hx hb dX12_behind_50 ?_
          refine lv_ixor hx hb dX12_behind_51 ?_
          refine lv_topi (fun x15 ex15 => ?_)
          have hF := hF x15 ex15
          refine lv_istore_n (lv' := [(2, .int x15), (0, .ref (ad 0)), (1, .int a1), (3, .int y7), (4, .int y8)]) hx hb dX12_behind_52 rfl hl (by decide) rfl (fun ls hl => ?_)
          obtain ⟨x16, ex16⟩ : ∃ z : Int32, z = (y7 + (1 : Int32)) := ⟨_, rfl⟩
          have hF := hF x16 ex16
          refine lv_iinc (v := x16) (lv' := [(3, .int x16), (2, .int x15), (0, .ref (ad 0)), (1, .int a1), (4, .int y8)]) hx hb dX12_behind_53 hl (k := 3) rfl (by rw [ex16]; rfl) (by decide) rfl (fun ls hl => ?_)
          obtain ⟨x17, ex17⟩ : ∃ z : Int32, z = (y8 + (1 : Int32)) := ⟨_, rfl⟩
          have hF := hF x17 ex17
          refine lv_iinc (v := x17) (lv' := [(4, .int x17), (3, .int x16), (2, .int x15), (0, .ref (ad 0)), (1, .int a1)]) hx hb dX12_behind_56 hl (k := 4) rfl (by rw [ex17]; rfl) (by decide) rfl (fun ls hl => ?_)
          refine lv_goto (tgt := 10) hx hb dX12_behind_59 (by decide) ?_
          exact hrec9 x15 x16 x17 hF H locs ls hP hD hS (lv_sub hl [3, 4, 2, 1, 0] rfl)
        · refine lv_icmp_ge (tgt := 47) hx hb dX12_behind_36 (by decide) (fun c18 => ?_) (fun c18 => ?_)
          · have hF := brT hF c18
            refine lv_iconst (v := (0 : Int32)) hx hb dX12_behind_47 (by decide) ?_
            exact hJ13 (0 : Int32) H locs ls hF hP hD hS (lv_sub hl [0, 1, 3, 4] rfl)
          · have hF := brF hF c18
            refine lv_iload_n hx hb dX12_behind_39 rfl (lv_at hl 1 rfl) ?_
            refine lv_iload_n hx hb dX12_behind_40 rfl (lv_at hl 3 rfl) ?_
            refine lv_ishr hx hb dX12_behind_41 ?_
            refine lv_iconst (v := (1 : Int32)) hx hb dX12_behind_42 (by decide) ?_
            refine lv_iand hx hb dX12_behind_43 ?_
            refine lv_goto (tgt := 48) hx hb dX12_behind_44 (by decide) ?_
            exact hJ13 ((a1 >>> (y7 &&& 31)) &&& (1 : Int32)) H locs ls hF hP hD hS (lv_sub hl [0, 1, 3, 4] rfl)
def w_X12_turned_L4 (a1 : Int32) (σ : St) (J1 : Int32 → Prop) (rec5 : Int32 → Int32 → Prop) (y3 : Int32) (y4 : Int32) : Prop := w_X12_countBits (σ.1 0 24) (fun r6 => br (r6 ≤ y4) (J1 y3) (nm (y3 + ((a1 >>> (y4 &&& 31)) &&& (1 : Int32))) (fun x9 => nm (y4 + (1 : Int32)) (fun x10 => rec5 x9 x10))))
def w_X12_turned (σ : St) (a1 : Int32) (post : Int32 → Prop) : Prop := jn (α := Int32 → Prop) (fun (y2 : Int32) => post y2) (fun J1 => lpE2 (w_X12_turned_L4 a1 σ J1) (0 : Int32) (0 : Int32))
set_option maxHeartbeats 4000000 in
set_option maxRecDepth 100000 in
theorem c_X12_turned (l : Launch) (D : va_G) (cy : Nat → ClassId) (ad : Nat → Nat) (tL : Nat) (σ : St) (a1 : Int32) (post : Int32 → Prop) (hF : w_X12_turned σ a1 post) : Cti l yX12_turned cX12_turned 4 (some .int) 1 23 D cy ad tL dsM σ [.ref (ad 0), .int a1] (fun r u => post r ∧ σ = u) := by
  refine cti_of (by decide) (Nat.le_of_ble_eq_true rfl) ?_
  intro p e s m args below meth c A hx hb hml hr hlk hg hown hA hK H locs hP hD hS hLB ls hl
  have hown : s.vm.findClass RX12 = some m.cls := hown
  have hl : lv_has ls 4 [(0, .ref (ad 0)), (1, .int a1)] := hl
  refine lv_iconst (v := (0 : Int32)) hx hb dX12_turned_0 (by decide) ?_
  refine lv_istore_n (lv' := [(2, .int (0 : Int32)), (0, .ref (ad 0)), (1, .int a1)]) hx hb dX12_turned_1 rfl hl (by decide) rfl (fun ls hl => ?_)
  refine lv_iconst (v := (0 : Int32)) hx hb dX12_turned_2 (by decide) ?_
  refine lv_istore_n (lv' := [(3, .int (0 : Int32)), (2, .int (0 : Int32)), (0, .ref (ad 0)), (1, .int a1)]) hx hb dX12_turned_3 rfl hl (by decide) rfl (fun ls hl => ?_)
  refine jn_use hF (fun K => ∀ (y2 : Int32) (H : Heap) (locs : List Loc) (ls : Array Slot), K y2 → va_P D vwCl (wld cy ad dsM σ) H → va_D A (wld cy ad dsM σ) → va_S A s.heap H locs → lv_has ls 4 [(2, .int y2)] → W p l e (rmO 1 23) s m args below meth c H locs 0 0 (MQ below (va_Qi (fun r u => post r ∧ σ = u) (cBk D cy ad dsM A) A) args s 0 0 A) (F0 m 30 ls [])) (fun y2 H locs ls hF hP hD hS hl => ?_) (fun J1 hJ1 hF => ?_)
  · refine lv_iload_n hx hb dX12_turned_30 rfl (lv_at hl 0 rfl) ?_
    exact wi_iret hx hb hr hlk hK hP hD hS dX12_turned_31 ⟨hF, rfl⟩
  · refine lpE2_use hF (fun (y3 : Int32) (y4 : Int32) => ∀ (H : Heap) (locs : List Loc) (ls : Array Slot), va_P D vwCl (wld cy ad dsM σ) H → va_D A (wld cy ad dsM σ) → va_S A s.heap H locs → lv_has ls 4 [(0, .ref (ad 0)), (1, .int a1), (2, .int y3), (3, .int y4)] → W p l e (rmO 1 23) s m args below meth c H locs 0 0 (MQ below (va_Qi (fun r u => post r ∧ σ = u) (cBk D cy ad dsM A) A) args s 0 0 A) (F0 m 4 ls [])) (fun rec5 hrec5 y3 y4 hF H locs ls hP hD hS hl => ?_) H locs ls hP hD hS (lv_sub hl [2, 3, 1, 0] rfl)
    refine lv_iload_n hx hb dX12_turned_4 rfl (lv_at hl 3 rfl) ?_
    refine lv_aload_n hx hb dX12_turned_5 rfl (lv_at hl 0 rfl) ?_
    refine lv_aload_n hx hb dX12_turned_6 rfl (lv_at hl 0 rfl) ?_
    refine wi_geti hx hb hg hown hK hP 0 24 rfl rfl cb_12 (by decide) kw_672 dX12_turned_7 ?_
    refine wi_callVi (k := 0) (As := [.int (σ.1 0 24)]) (c_X12_countBits l D cy ad tL σ (σ.1 0 24) _ hF) vw_RX12_205 rfl cb_12 hx hb hml hown hg hK hP hD hS hA hLB rfl ⟨Nat.le_of_ble_eq_true rfl, Nat.le_of_ble_eq_true rfl⟩ hl.1 rfl (Nat.le_of_ble_eq_true rfl) dX12_turned_10 (fun r6 σ7 hw H locs hP hD hS => ?_)
    obtain ⟨hF, rfl⟩ := hw
    refine lv_icmp_ge (tgt := 30) hx hb dX12_turned_13 (by decide) (fun c8 => ?_) (fun c8 => ?_)
    · have hF := brT hF c8
      exact hJ1 y3 H locs ls hF hP hD hS (lv_sub hl [2] rfl)
    · have hF := brF hF c8
      refine lv_iload_n hx hb dX12_turned_16 rfl (lv_at hl 2 rfl) ?_
      refine lv_iload_n hx hb dX12_turned_17 rfl (lv_at hl 1 rfl) ?_
      refine lv_iload_n hx hb dX12_turned_18 rfl (lv_at hl 3 rfl) ?_
      refine lv_ishr hx hb dX12_turned_19 ?_
      refine lv_iconst (v := (1 : Int32)) hx hb dX12_turned_20 (by decide) ?_
      refine lv_iand hx hb dX12_turned_21 ?_
      refine lv_iadd hx hb dX12_turned_22 ?_
      refine lv_topi (fun x9 ex9 => ?_)
      have hF := hF x9 ex9
      refine lv_istore_n (lv' := [(2, .int x9), (0, .ref (ad 0)), (1, .int a1), (3, .int y4)]) hx hb dX12_turned_23 rfl hl (by decide) rfl (fun ls hl => ?_)
      obtain ⟨x10, ex10⟩ : ∃ z : Int32, z = (y4 + (1 : Int32)) := ⟨_, rfl⟩
      have hF := hF x10 ex10
      refine lv_iinc (v := x10) (lv' := [(3, .int x10), (2, .int x9), (0, .ref (ad 0)), (1, .int a1)]) hx hb dX12_turned_24 hl (k := 3) rfl (by rw [ex10]; rfl) (by decide) rfl (fun ls hl => ?_)
      refine lv_goto (tgt := 4) hx hb dX12_turned_27 (by decide) ?_
      exact hrec5 x9 x10 hF H locs ls hP hD hS (lv_sub hl [2, 3, 1, 0] rfl)
def w_X12_isKept_L110 (a1 : Int32) (a2 : Int32) (a3 : Int32) (σ : St) (J18 : Int32 → Prop) (rec24 : Int32 → Int32 → Prop) (y22 : Int32) (y23 : Int32) : Prop := rd (σ.1 11) 8 a1 (fun v25 => br (v25 < y23) (J18 y22) (rd (σ.1 1) 24 y23 (fun v27 => jn (α := Int32 → Prop) (fun (y29 : Int32) => nm (y22 + y29) (fun x30 => nm (y23 + (1 : Int32)) (fun x31 => rec24 x30 x31))) (fun J28 => jn (α := Prop) (J28 (0 : Int32)) (fun J32 => br (v27 ≤ (4 : Int32)) (J32) (w_X12_bitOf a2 y23 (fun r34 => w_X12_bitOf a3 y23 (fun r36 => br (r34 = r36) (J32) (J28 (1 : Int32))))))))))
def w_X12_isKept (σ : St) (a1 : Int32) (a2 : Int32) (a3 : Int32) (a4 : Int32) (post : Int32 → Prop) : Prop := rd (σ.1 10) 8 a1 (fun v1 => w_X12_bitOf a3 v1 (fun r2 => rd (σ.1 9) 8 a1 (fun v4 => br (v4 = (0 : Int32)) (br (r2 = (1 : Int32)) (post (1 : Int32)) (post (0 : Int32))) (br (v4 = (1 : Int32)) (rd (σ.1 11) 8 a1 (fun v8 => w_X12_bitOf a3 v8 (fun r9 => br ((r2 &&& r9) = (0 : Int32)) (post (1 : Int32)) (post (0 : Int32))))) (br (v4 = (2 : Int32)) (rd (σ.1 11) 8 a1 (fun v13 => w_X12_bitOf a3 v13 (fun r14 => br (r2 = r14) (post (1 : Int32)) (post (0 : Int32))))) (rd (σ.1 10) 8 a1 (fun v17 => jn (α := Int32 → Prop) (fun (y19 : Int32) => br (a4 = (0 : Int32)) (br ((2 : Int32) ≤ y19) (post (0 : Int32)) (post (1 : Int32))) (post (1 : Int32))) (fun J18 => lpE2 (w_X12_isKept_L110 a1 a2 a3 σ J18) (0 : Int32) v17))))))))
set_option maxHeartbeats 4000000 in
set_option maxRecDepth 100000 in
theorem c_X12_isKept (l : Launch) (D : va_G) (cy : Nat → ClassId) (ad : Nat → Nat) (tL : Nat) (σ : St) (a1 : Int32) (a2 : Int32) (a3 : Int32) (a4 : Int32) (post : Int32 → Prop) (hF : w_X12_isKept σ a1 a2 a3 a4 post) : Cti l yX12_isKept cX12_isKept 8 (some .boolean) 1 21 D cy ad tL dsM σ [.ref (ad 0), .int a1, .int a2, .int a3, .int a4] (fun r u => post r ∧ σ = u) := by
  refine cti_of (by decide) (Nat.le_of_ble_eq_true rfl) ?_
  intro p e s m args below meth c A hx hb hml hr hlk hg hown hA hK H locs hP hD hS hLB ls hl
  have hown : s.vm.findClass RX12 = some m.cls := hown
  have hl : lv_has ls 8 [(0, .ref (ad 0)), (1, .int a1), (2, .int a2), (3, .int a3), (4, .int a4)] := hl
  refine lv_iload_n hx hb dX12_isKept_0 rfl (lv_at hl 3 rfl) ?_
  refine lv_aload_n hx hb dX12_isKept_1 rfl (lv_at hl 0 rfl) ?_
  refine wi_getr hx hb hg hown hK hP 0 13 10 rfl rfl cb_12 (by decide) kw_585 dX12_isKept_2 ?_
  refine lv_iload_n hx hb dX12_isKept_5 rfl (lv_at hl 1 rfl) ?_
  obtain ⟨hin, hF⟩ := hF
  refine wi_iald hx hb hK hP 10 rfl hin dX12_isKept_6 (fun v1 ev1 => ?_)
  have hF := hF v1 ev1
  refine wi_callSi (As := [.int a3, .int v1]) (c_X12_bitOf l D cy ad tL σ a3 v1 _ hF) sw_RX12_133 hx hb hml hown hg hK hP hD hS hA hLB rfl ⟨Nat.le_of_ble_eq_true rfl, Nat.le_of_ble_eq_true rfl⟩ hl.1 rfl (Nat.le_of_ble_eq_true rfl) dX12_isKept_7 (fun r2 σ3 hw H locs hP hD hS => ?_)
  obtain ⟨hF, rfl⟩ := hw
  refine lv_istore (lv' := [(5, .int r2), (0, .ref (ad 0)), (1, .int a1), (2, .int a2), (3, .int a3), (4, .int a4)]) hx hb dX12_isKept_10 hl (by decide) rfl (fun ls hl => ?_)
  refine lv_aload_n hx hb dX12_isKept_12 rfl (lv_at hl 1 rfl) ?_
  refine wi_getr hx hb hg hown hK hP 0 12 9 rfl rfl cb_12 (by decide) kw_584 dX12_isKept_13 ?_
  refine lv_iload_n hx hb dX12_isKept_16 rfl (lv_at hl 2 rfl) ?_
  obtain ⟨hin, hF⟩ := hF
  refine wi_iald hx hb hK hP 9 rfl hin dX12_isKept_17 (fun v4 ev4 => ?_)
  have hF := hF v4 ev4
  by_cases c5 : v4 = (0 : Int32)
  · have hF := brT hF c5
    refine lv_tableIn (off := 26) (tgt := 44) hx hb dX12_isKept_18 (by rw [c5]; decide) (by rw [c5]; decide) (by rw [c5]; rfl) (by decide) ?_
    refine lv_iload hx hb dX12_isKept_44 (lv_at hl 0 rfl) ?_
    refine lv_iconst (v := (1 : Int32)) hx hb dX12_isKept_46 (by decide) ?_
    refine lv_icmp_ne (tgt := 54) hx hb dX12_isKept_47 (by decide) (fun c6 => ?_) (fun c6 => ?_)
    · have hF := brF hF c6
      refine lv_iconst (v := (0 : Int32)) hx hb dX12_isKept_54 (by decide) ?_
      exact wi_zret hx hb hr hlk hK hP hD hS dX12_isKept_55 (by decide) ⟨hF, rfl⟩
    · have hF := brT hF c6
      refine lv_iconst (v := (1 : Int32)) hx hb dX12_isKept_50 (by decide) ?_
      refine lv_goto (tgt := 55) hx hb dX12_isKept_51 (by decide) ?_
      exact wi_zret hx hb hr hlk hK hP hD hS dX12_isKept_55 (by decide) ⟨hF, rfl⟩
  · have hF := brF hF c5
    by_cases c7 : v4 = (1 : Int32)
    · have hF := brT hF c7
      refine lv_tableIn (off := 38) (tgt := 56) hx hb dX12_isKept_18 (by rw [c7]; decide) (by rw [c7]; decide) (by rw [c7]; rfl) (by decide) ?_
      refine lv_iload hx hb dX12_isKept_56 (lv_at hl 0 rfl) ?_
      refine lv_iload_n hx hb dX12_isKept_58 rfl (lv_at hl 4 rfl) ?_
      refine lv_aload_n hx hb dX12_isKept_59 rfl (lv_at hl 1 rfl) ?_
      refine wi_getr hx hb hg hown hK hP 0 14 11 rfl rfl cb_12 (by decide) kw_586 dX12_isKept_60 ?_
      refine lv_iload_n hx hb dX12_isKept_63 rfl (lv_at hl 2 rfl) ?_
      obtain ⟨hin, hF⟩ := hF
      refine wi_iald hx hb hK hP 11 rfl hin dX12_isKept_64 (fun v8 ev8 => ?_)
      have hF := hF v8 ev8
      refine wi_callSi (As := [.int a3, .int v8]) (c_X12_bitOf l D cy ad tL σ a3 v8 _ hF) sw_RX12_133 hx hb hml hown hg hK hP hD hS hA hLB rfl ⟨Nat.le_of_ble_eq_true rfl, Nat.le_of_ble_eq_true rfl⟩ hl.1 rfl (Nat.le_of_ble_eq_true rfl) dX12_isKept_65 (fun r9 σ10 hw H locs hP hD hS => ?_)
      obtain ⟨hF, rfl⟩ := hw
      refine lv_iand hx hb dX12_isKept_68 ?_
      refine lv_if_ne (tgt := 76) hx hb dX12_isKept_69 (by decide) (fun c11 => ?_) (fun c11 => ?_)
      · have hF := brF hF c11
        refine lv_iconst (v := (0 : Int32)) hx hb dX12_isKept_76 (by decide) ?_
        exact wi_zret hx hb hr hlk hK hP hD hS dX12_isKept_77 (by decide) ⟨hF, rfl⟩
      · have hF := brT hF c11
        refine lv_iconst (v := (1 : Int32)) hx hb dX12_isKept_72 (by decide) ?_
        refine lv_goto (tgt := 77) hx hb dX12_isKept_73 (by decide) ?_
        exact wi_zret hx hb hr hlk hK hP hD hS dX12_isKept_77 (by decide) ⟨hF, rfl⟩
    · have hF := brF hF c7
      by_cases c12 : v4 = (2 : Int32)
      · have hF := brT hF c12
        refine lv_tableIn (off := 60) (tgt := 78) hx hb dX12_isKept_18 (by rw [c12]; decide) (by rw [c12]; decide) (by rw [c12]; rfl) (by decide) ?_
        refine lv_iload hx hb dX12_isKept_78 (lv_at hl 0 rfl) ?_
        refine lv_iload_n hx hb dX12_isKept_80 rfl (lv_at hl 4 rfl) ?_
        refine lv_aload_n hx hb dX12_isKept_81 rfl (lv_at hl 1 rfl) ?_
        refine wi_getr hx hb hg hown hK hP 0 14 11 rfl rfl cb_12 (by decide) kw_586 dX12_isKept_82 ?_
        refine lv_iload_n hx hb dX12_isKept_85 rfl (lv_at hl 2 rfl) ?_
        obtain ⟨hin, hF⟩ := hF
        refine wi_iald hx hb hK hP 11 rfl hin dX12_isKept_86 (fun v13 ev13 => ?_)
        have hF := hF v13 ev13
        refine wi_callSi (As := [.int a3, .int v13]) (c_X12_bitOf l D cy ad tL σ a3 v13 _ hF) sw_RX12_133 hx hb hml hown hg hK hP hD hS hA hLB rfl ⟨Nat.le_of_ble_eq_true rfl, Nat.le_of_ble_eq_true rfl⟩ hl.1 rfl (Nat.le_of_ble_eq_true rfl) dX12_isKept_87 (fun r14 σ15 hw H locs hP hD hS => ?_)
        obtain ⟨hF, rfl⟩ := hw
        refine lv_icmp_ne (tgt := 97) hx hb dX12_isKept_90 (by decide) (fun c16 => ?_) (fun c16 => ?_)
        · have hF := brF hF c16
          refine lv_iconst (v := (0 : Int32)) hx hb dX12_isKept_97 (by decide) ?_
          exact wi_zret hx hb hr hlk hK hP hD hS dX12_isKept_98 (by decide) ⟨hF, rfl⟩
        · have hF := brT hF c16
          refine lv_iconst (v := (1 : Int32)) hx hb dX12_isKept_93 (by decide) ?_
          refine lv_goto (tgt := 98) hx hb dX12_isKept_94 (by decide) ?_
          exact wi_zret hx hb hr hlk hK hP hD hS dX12_isKept_98 (by decide) ⟨hF, rfl⟩
      · have hF := brF hF c12
        have nc5 := lv_neT (a := 0) c5 (by decide)
        have nc7 := lv_neT (a := 1) c7 (by decide)
        have nc12 := lv_neT (a := 2) c12 (by decide)
        refine lv_tableOut (tgt := 99) hx hb dX12_isKept_18 (by omega) (by decide) ?_
        refine lv_iconst (v := (0 : Int32)) hx hb dX12_isKept_99 (by decide) ?_
        refine lv_istore (lv' := [(6, .int (0 : Int32)), (5, .int r2), (0, .ref (ad 0)), (1, .int a1), (2, .int a2), (3, .int a3), (4, .int a4)]) hx hb dX12_isKept_100 hl (by decide) rfl (fun ls hl => ?_)
        refine lv_aload_n hx hb dX12_isKept_102 rfl (lv_at hl 2 rfl) ?_
        refine wi_getr hx hb hg hown hK hP 0 13 10 rfl rfl cb_12 (by decide) kw_585 dX12_isKept_103 ?_
        refine lv_iload_n hx hb dX12_isKept_106 rfl (lv_at hl 3 rfl) ?_
        obtain ⟨hin, hF⟩ := hF
        refine wi_iald hx hb hK hP 10 rfl hin dX12_isKept_107 (fun v17 ev17 => ?_)
        have hF := hF v17 ev17
        refine lv_istore (lv' := [(7, .int v17), (6, .int (0 : Int32)), (5, .int r2), (0, .ref (ad 0)), (1, .int a1), (2, .int a2), (3, .int a3), (4, .int a4)]) hx hb dX12_isKept_108 hl (by decide) rfl (fun ls hl => ?_)
        refine jn_use hF (fun K => ∀ (y19 : Int32) (H : Heap) (locs : List Loc) (ls : Array Slot), K y19 → va_P D vwCl (wld cy ad dsM σ) H → va_D A (wld cy ad dsM σ) → va_S A s.heap H locs → lv_has ls 8 [(4, .int a4), (6, .int y19)] → W p l e (rmO 1 21) s m args below meth c H locs 0 0 (MQ below (va_Qi (fun r u => post r ∧ σ = u) (cBk D cy ad dsM A) A) args s 0 0 A) (F0 m 163 ls [])) (fun y19 H locs ls hF hP hD hS hl => ?_) (fun J18 hJ18 hF => ?_)
        · refine lv_iload hx hb dX12_isKept_163 (lv_at hl 0 rfl) ?_
          refine lv_if_ne (tgt := 174) hx hb dX12_isKept_165 (by decide) (fun c20 => ?_) (fun c20 => ?_)
          · have hF := brF hF c20
            refine lv_iconst (v := (1 : Int32)) hx hb dX12_isKept_174 (by decide) ?_
            refine lv_goto (tgt := 179) hx hb dX12_isKept_175 (by decide) ?_
            exact wi_zret hx hb hr hlk hK hP hD hS dX12_isKept_179 (by decide) ⟨hF, rfl⟩
          · have hF := brT hF c20
            refine lv_iload hx hb dX12_isKept_168 (lv_at hl 1 rfl) ?_
            refine lv_iconst (v := (2 : Int32)) hx hb dX12_isKept_170 (by decide) ?_
            refine lv_icmp_ge (tgt := 178) hx hb dX12_isKept_171 (by decide) (fun c21 => ?_) (fun c21 => ?_)
            · have hF := brT hF c21
              refine lv_iconst (v := (0 : Int32)) hx hb dX12_isKept_178 (by decide) ?_
              exact wi_zret hx hb hr hlk hK hP hD hS dX12_isKept_179 (by decide) ⟨hF, rfl⟩
            · have hF := brF hF c21
              refine lv_iconst (v := (1 : Int32)) hx hb dX12_isKept_174 (by decide) ?_
              refine lv_goto (tgt := 179) hx hb dX12_isKept_175 (by decide) ?_
              exact wi_zret hx hb hr hlk hK hP hD hS dX12_isKept_179 (by decide) ⟨hF, rfl⟩
        · refine lpE2_use hF (fun (y22 : Int32) (y23 : Int32) => ∀ (H : Heap) (locs : List Loc) (ls : Array Slot), va_P D vwCl (wld cy ad dsM σ) H → va_D A (wld cy ad dsM σ) → va_S A s.heap H locs → lv_has ls 8 [(0, .ref (ad 0)), (1, .int a1), (2, .int a2), (3, .int a3), (4, .int a4), (6, .int y22), (7, .int y23)] → W p l e (rmO 1 21) s m args below meth c H locs 0 0 (MQ below (va_Qi (fun r u => post r ∧ σ = u) (cBk D cy ad dsM A) A) args s 0 0 A) (F0 m 110 ls [])) (fun rec24 hrec24 y22 y23 hF H locs ls hP hD hS hl => ?_) H locs ls hP hD hS (lv_sub hl [3, 4, 5, 6, 7, 1, 0] rfl)
          refine lv_iload hx hb dX12_isKept_110 (lv_at hl 6 rfl) ?_
          refine lv_aload_n hx hb dX12_isKept_112 rfl (lv_at hl 0 rfl) ?_
          refine wi_getr hx hb hg hown hK hP 0 14 11 rfl rfl cb_12 (by decide) kw_586 dX12_isKept_113 ?_
          refine lv_iload_n hx hb dX12_isKept_116 rfl (lv_at hl 1 rfl) ?_
          obtain ⟨hin, hF⟩ := hF
          refine wi_iald hx hb hK hP 11 rfl hin dX12_isKept_117 (fun v25 ev25 => ?_)
          have hF := hF v25 ev25
          refine lv_icmp_gt (tgt := 163) hx hb dX12_isKept_118 (by decide) (fun c26 => ?_) (fun c26 => ?_)
          · have hF := brT hF c26
            exact hJ18 y22 H locs ls hF hP hD hS (lv_sub hl [4, 5] rfl)
          · have hF := brF hF c26
            refine lv_iload hx hb dX12_isKept_121 (lv_at hl 5 rfl) ?_
            refine lv_aload_n hx hb dX12_isKept_123 rfl (lv_at hl 0 rfl) ?_
            refine wi_getr hx hb hg hown hK hP 0 3 1 rfl rfl cb_12 (by decide) kw_560 dX12_isKept_124 ?_
            refine lv_iload hx hb dX12_isKept_127 (lv_at hl 6 rfl) ?_
            obtain ⟨hin, hF⟩ := hF
            refine wi_iald hx hb hK hP 1 rfl hin dX12_isKept_129 (fun v27 ev27 => ?_)
            have hF := hF v27 ev27
            refine lv_iconst (v := (4 : Int32)) hx hb dX12_isKept_130 (by decide) ?_
            refine jn_use hF (fun K => ∀ (y29 : Int32) (H : Heap) (locs : List Loc) (ls : Array Slot), K y29 → va_P D vwCl (wld cy ad dsM σ) H → va_D A (wld cy ad dsM σ) → va_S A s.heap H locs → lv_has ls 8 [(0, .ref (ad 0)), (1, .int a1), (2, .int a2), (3, .int a3), (4, .int a4), (7, .int y23)] → W p l e (rmO 1 21) s m args below meth c H locs 0 0 (MQ below (va_Qi (fun r u => post r ∧ σ = u) (cBk D cy ad dsM A) A) args s 0 0 A) (F0 m 154 ls [.int y29, .int y22])) (fun y29 H locs ls hF hP hD hS hl => ?_) (fun J28 hJ28 hF => ?_)
            · refine lv_iadd hx hb dX12_isKept_154 ?_
              refine lv_topi (fun x30 ex30 => ?_)
              have hF := hF x30 ex30
              refine lv_istore (lv' := [(6, .int x30), (0, .ref (ad 0)), (1, .int a1), (2, .int a2), (3, .int a3), (4, .int a4), (7, .int y23)]) hx hb dX12_isKept_155 hl (by decide) rfl (fun ls hl => ?_)
              obtain ⟨x31, ex31⟩ : ∃ z : Int32, z = (y23 + (1 : Int32)) := ⟨_, rfl⟩
              have hF := hF x31 ex31
              refine lv_iinc (v := x31) (lv' := [(7, .int x31), (6, .int x30), (0, .ref (ad 0)), (1, .int a1), (2, .int a2), (3, .int a3), (4, .int a4)]) hx hb dX12_isKept_157 hl (k := 6) rfl (by rw [ex31]; rfl) (by decide) rfl (fun ls hl => ?_)
              refine lv_goto (tgt := 110) hx hb dX12_isKept_160 (by decide) ?_
              exact hrec24 x30 x31 hF H locs ls hP hD hS (lv_sub hl [2, 3, 4, 5, 6, 1, 0] rfl)
            · refine jn_use hF (fun K => ∀ (H : Heap) (locs : List Loc) (ls : Array Slot), K → va_P D vwCl (wld cy ad dsM σ) H → va_D A (wld cy ad dsM σ) → va_S A s.heap H locs → lv_has ls 8 [(0, .ref (ad 0)), (1, .int a1), (2, .int a2), (3, .int a3), (4, .int a4), (7, .int y23)] → W p l e (rmO 1 21) s m args below meth c H locs 0 0 (MQ below (va_Qi (fun r u => post r ∧ σ = u) (cBk D cy ad dsM A) A) args s 0 0 A) (F0 m 153 ls [.int y22])) (fun H locs ls hF hP hD hS hl => ?_) (fun J32 hJ32 hF => ?_)
              · refine lv_iconst (v := (0 : Int32)) hx hb dX12_isKept_153 (by decide) ?_
                exact hJ28 (0 : Int32) H locs ls hF hP hD hS (lv_sub hl [0, 1, 2, 3, 4, 5] rfl)
              · refine lv_icmp_le (tgt := 153) hx hb dX12_isKept_131 (by decide) (fun c33 => ?_) (fun c33 => ?_)
                · have hF := brT hF c33
                  exact hJ32  H locs ls hF hP hD hS (lv_sub hl [0, 1, 2, 3, 4, 6] rfl)
                · have hF := brF hF c33
                  refine lv_iload_n hx hb dX12_isKept_134 rfl (lv_at hl 2 rfl) ?_
                  refine lv_iload hx hb dX12_isKept_135 (lv_at hl 6 rfl) ?_
                  refine wi_callSi (As := [.int a2, .int y23]) (c_X12_bitOf l D cy ad tL σ a2 y23 _ hF) sw_RX12_133 hx hb hml hown hg hK hP hD hS hA hLB rfl ⟨Nat.le_of_ble_eq_true rfl, Nat.le_of_ble_eq_true rfl⟩ hl.1 rfl (Nat.le_of_ble_eq_true rfl) dX12_isKept_137 (fun r34 σ35 hw H locs hP hD hS => ?_)
                  obtain ⟨hF, rfl⟩ := hw
                  refine lv_iload_n hx hb dX12_isKept_140 rfl (lv_at hl 3 rfl) ?_
                  refine lv_iload hx hb dX12_isKept_141 (lv_at hl 6 rfl) ?_
                  refine wi_callSi (As := [.int a3, .int y23]) (c_X12_bitOf l D cy ad tL σ a3 y23 _ hF) sw_RX12_133 hx hb hml hown hg hK hP hD hS hA hLB rfl ⟨Nat.le_of_ble_eq_true rfl, Nat.le_of_ble_eq_true rfl⟩ hl.1 rfl (Nat.le_of_ble_eq_true rfl) dX12_isKept_143 (fun r36 σ37 hw H locs hP hD hS => ?_)
                  obtain ⟨hF, rfl⟩ := hw
                  refine lv_icmp_eq (tgt := 153) hx hb dX12_isKept_146 (by decide) (fun c38 => ?_) (fun c38 => ?_)
                  · have hF := brT hF c38
                    exact hJ32  H locs ls hF hP hD hS (lv_sub hl [0, 1, 2, 3, 4, 6] rfl)
                  · have hF := brF hF c38
                    refine lv_iconst (v := (1 : Int32)) hx hb dX12_isKept_149 (by decide) ?_
                    refine lv_goto (tgt := 154) hx hb dX12_isKept_150 (by decide) ?_
                    exact hJ28 (1 : Int32) H locs ls hF hP hD hS (lv_sub hl [0, 1, 2, 3, 4, 6] rfl)
def w_X12_start (σ : St) (post : Int32 → St → Prop) : Prop := nm (upI σ 0 0 (0 : Int32)) (fun σ1 => nm (σ1.1 0 15) (fun x2 => w_X12_begin σ1 (fun σ4 => post x2 σ4)))
set_option maxHeartbeats 4000000 in
set_option maxRecDepth 100000 in
theorem c_X12_start (l : Launch) (D : va_G) (cy : Nat → ClassId) (ad : Nat → Nat) (tL : Nat) (σ : St) (post : Int32 → St → Prop) (hF : w_X12_start σ post) : Cti l yX12_start cX12_start 2 (some .int) 4 90 D cy ad tL dsM σ [.ref (ad 0)] post := by
  refine cti_of (by decide) (Nat.le_of_ble_eq_true rfl) ?_
  intro p e s m args below meth c A hx hb hml hr hlk hg hown hA hK H locs hP hD hS hLB ls hl
  have hown : s.vm.findClass RX12 = some m.cls := hown
  have hl : lv_has ls 2 [(0, .ref (ad 0))] := hl
  refine lv_aload_n hx hb dX12_start_0 rfl (lv_at hl 0 rfl) ?_
  refine lv_iconst (v := (0 : Int32)) hx hb dX12_start_1 (by decide) ?_
  refine wi_puti hx hb hg hown hK hP hD hS 0 0 rfl rfl cb_12 (by decide) kw_615 rfl rfl rfl dX12_start_2 (fun σ1 eσ1 H locs hP hD hS => ?_)
  have hF := hF σ1 eσ1
  refine lv_aload_n hx hb dX12_start_5 rfl (lv_at hl 0 rfl) ?_
  refine wi_geti hx hb hg hown hK hP 0 15 rfl rfl cb_12 (by decide) kw_573 dX12_start_6 ?_
  refine lv_topi (fun x2 ex2 => ?_)
  have hF := hF x2 ex2
  refine lv_istore_n (lv' := [(1, .int x2), (0, .ref (ad 0))]) hx hb dX12_start_9 rfl hl (by decide) rfl (fun ls hl => ?_)
  refine lv_aload_n hx hb dX12_start_10 rfl (lv_at hl 1 rfl) ?_
  refine wi_callVv (k := 0) (As := []) (c_X12_begin l D cy ad tL σ1 _ hF) vw_RX12_119 rfl cb_12 hx hb hml hown hg hK hP hD hS hA hLB rfl ⟨Nat.le_of_ble_eq_true rfl, Nat.le_of_ble_eq_true rfl⟩ hl.1 rfl (Nat.le_of_ble_eq_true rfl) dX12_start_11 (fun σ4 hw H locs hP hD hS => ?_)
  have hF := hw
  refine lv_iload_n hx hb dX12_start_14 rfl (lv_at hl 0 rfl) ?_
  exact wi_iret hx hb hr hlk hK hP hD hS dX12_start_15 hF
def w_X12_canBe_L4 (a1 : Int32) (σ : St) (J1 : Int32 → Prop) (rec5 : Int32 → Int32 → Prop) (y3 : Int32) (y4 : Int32) : Prop := br ((16 : Int32) ≤ y4) (J1 y3) (br (y3 = (0 : Int32)) (nm (y4 + (1 : Int32)) (fun x8 => rec5 (0 : Int32) x8)) (rd (σ.1 14) 16 y4 (fun v9 => w_X12_then v9 a1 y4 (fun r10 => w_X12_fits σ y4 r10 (fun r12 => br (r12 = (0 : Int32)) (nm (y4 + (1 : Int32)) (fun x15 => rec5 (0 : Int32) x15)) (nm (y4 + (1 : Int32)) (fun x16 => rec5 (1 : Int32) x16)))))))
def w_X12_canBe (σ : St) (a1 : Int32) (post : Int32 → Prop) : Prop := jn (α := Int32 → Prop) (fun (y2 : Int32) => bl y2 (post y2)) (fun J1 => lpE2 (w_X12_canBe_L4 a1 σ J1) (1 : Int32) (0 : Int32))
set_option maxHeartbeats 4000000 in
set_option maxRecDepth 100000 in
theorem c_X12_canBe (l : Launch) (D : va_G) (cy : Nat → ClassId) (ad : Nat → Nat) (tL : Nat) (σ : St) (a1 : Int32) (post : Int32 → Prop) (hF : w_X12_canBe σ a1 post) : Cti l yX12_canBe cX12_canBe 4 (some .boolean) 1 23 D cy ad tL dsM σ [.ref (ad 0), .int a1] (fun r u => post r ∧ σ = u) := by
  refine cti_of (by decide) (Nat.le_of_ble_eq_true rfl) ?_
  intro p e s m args below meth c A hx hb hml hr hlk hg hown hA hK H locs hP hD hS hLB ls hl
  have hown : s.vm.findClass RX12 = some m.cls := hown
  have hl : lv_has ls 4 [(0, .ref (ad 0)), (1, .int a1)] := hl
  refine lv_iconst (v := (1 : Int32)) hx hb dX12_canBe_0 (by decide) ?_
  refine lv_istore_n (lv' := [(2, .int (1 : Int32)), (0, .ref (ad 0)), (1, .int a1)]) hx hb dX12_canBe_1 rfl hl (by decide) rfl (fun ls hl => ?_)
  refine lv_iconst (v := (0 : Int32)) hx hb dX12_canBe_2 (by decide) ?_
  refine lv_istore_n (lv' := [(3, .int (0 : Int32)), (2, .int (1 : Int32)), (0, .ref (ad 0)), (1, .int a1)]) hx hb dX12_canBe_3 rfl hl (by decide) rfl (fun ls hl => ?_)
  refine jn_use hF (fun K => ∀ (y2 : Int32) (H : Heap) (locs : List Loc) (ls : Array Slot), K y2 → va_P D vwCl (wld cy ad dsM σ) H → va_D A (wld cy ad dsM σ) → va_S A s.heap H locs → lv_has ls 4 [(2, .int y2)] → W p l e (rmO 1 23) s m args below meth c H locs 0 0 (MQ below (va_Qi (fun r u => post r ∧ σ = u) (cBk D cy ad dsM A) A) args s 0 0 A) (F0 m 46 ls [])) (fun y2 H locs ls hF hP hD hS hl => ?_) (fun J1 hJ1 hF => ?_)
  · refine lv_iload_n hx hb dX12_canBe_46 rfl (lv_at hl 0 rfl) ?_
    obtain ⟨hbl, hF⟩ := hF
    exact wi_zret hx hb hr hlk hK hP hD hS dX12_canBe_47 hbl ⟨hF, rfl⟩
  · refine lpE2_use hF (fun (y3 : Int32) (y4 : Int32) => ∀ (H : Heap) (locs : List Loc) (ls : Array Slot), va_P D vwCl (wld cy ad dsM σ) H → va_D A (wld cy ad dsM σ) → va_S A s.heap H locs → lv_has ls 4 [(0, .ref (ad 0)), (1, .int a1), (2, .int y3), (3, .int y4)] → W p l e (rmO 1 23) s m args below meth c H locs 0 0 (MQ below (va_Qi (fun r u => post r ∧ σ = u) (cBk D cy ad dsM A) A) args s 0 0 A) (F0 m 4 ls [])) (fun rec5 hrec5 y3 y4 hF H locs ls hP hD hS hl => ?_) H locs ls hP hD hS (lv_sub hl [2, 3, 1, 0] rfl)
    refine lv_iload_n hx hb dX12_canBe_4 rfl (lv_at hl 3 rfl) ?_
    refine lv_bipush (v := (16 : Int32)) hx hb dX12_canBe_5 (by decide) ?_
    refine lv_icmp_ge (tgt := 46) hx hb dX12_canBe_7 (by decide) (fun c6 => ?_) (fun c6 => ?_)
    · have hF := brT hF c6
      exact hJ1 y3 H locs ls hF hP hD hS (lv_sub hl [2] rfl)
    · have hF := brF hF c6
      refine lv_iload_n hx hb dX12_canBe_10 rfl (lv_at hl 2 rfl) ?_
      refine lv_if_eq (tgt := 38) hx hb dX12_canBe_11 (by decide) (fun c7 => ?_) (fun c7 => ?_)
      · have hF := brT hF c7
        refine lv_iconst (v := (0 : Int32)) hx hb dX12_canBe_38 (by decide) ?_
        refine lv_istore_n (lv' := [(2, .int (0 : Int32)), (0, .ref (ad 0)), (1, .int a1), (3, .int y4)]) hx hb dX12_canBe_39 rfl hl (by decide) rfl (fun ls hl => ?_)
        obtain ⟨x8, ex8⟩ : ∃ z : Int32, z = (y4 + (1 : Int32)) := ⟨_, rfl⟩
        have hF := hF x8 ex8
        refine lv_iinc (v := x8) (lv' := [(3, .int x8), (2, .int (0 : Int32)), (0, .ref (ad 0)), (1, .int a1)]) hx hb dX12_canBe_40 hl (k := 3) rfl (by rw [ex8]; rfl) (by decide) rfl (fun ls hl => ?_)
        refine lv_goto (tgt := 4) hx hb dX12_canBe_43 (by decide) ?_
        exact hrec5 (0 : Int32) x8 hF H locs ls hP hD hS (lv_sub hl [2, 3, 1, 0] rfl)
      · have hF := brF hF c7
        refine lv_aload_n hx hb dX12_canBe_14 rfl (lv_at hl 0 rfl) ?_
        refine lv_iload_n hx hb dX12_canBe_15 rfl (lv_at hl 3 rfl) ?_
        refine lv_aload_n hx hb dX12_canBe_16 rfl (lv_at hl 0 rfl) ?_
        refine lv_aload_n hx hb dX12_canBe_17 rfl (lv_at hl 0 rfl) ?_
        refine wi_getr hx hb hg hown hK hP 0 18 14 rfl rfl cb_12 (by decide) kw_576 dX12_canBe_18 ?_
        refine lv_iload_n hx hb dX12_canBe_21 rfl (lv_at hl 3 rfl) ?_
        obtain ⟨hin, hF⟩ := hF
        refine wi_iald hx hb hK hP 14 rfl hin dX12_canBe_22 (fun v9 ev9 => ?_)
        have hF := hF v9 ev9
        refine lv_iload_n hx hb dX12_canBe_23 rfl (lv_at hl 1 rfl) ?_
        refine lv_iload_n hx hb dX12_canBe_24 rfl (lv_at hl 3 rfl) ?_
        refine wi_callVi (k := 0) (As := [.int v9, .int a1, .int y4]) (c_X12_then l D cy ad tL σ v9 a1 y4 _ hF) vw_RX12_208 rfl cb_12 hx hb hml hown hg hK hP hD hS hA hLB rfl ⟨Nat.le_of_ble_eq_true rfl, Nat.le_of_ble_eq_true rfl⟩ hl.1 rfl (Nat.le_of_ble_eq_true rfl) dX12_canBe_25 (fun r10 σ11 hw H locs hP hD hS => ?_)
        obtain ⟨hF, rfl⟩ := hw
        refine wi_callVi (k := 0) (As := [.int y4, .int r10]) (c_X12_fits l D cy ad tL σ y4 r10 _ hF) vw_RX12_212 rfl cb_12 hx hb hml hown hg hK hP hD hS hA hLB rfl ⟨Nat.le_of_ble_eq_true rfl, Nat.le_of_ble_eq_true rfl⟩ hl.1 rfl (Nat.le_of_ble_eq_true rfl) dX12_canBe_28 (fun r12 σ13 hw H locs hP hD hS => ?_)
        obtain ⟨hF, rfl⟩ := hw
        refine lv_if_eq (tgt := 38) hx hb dX12_canBe_31 (by decide) (fun c14 => ?_) (fun c14 => ?_)
        · have hF := brT hF c14
          refine lv_iconst (v := (0 : Int32)) hx hb dX12_canBe_38 (by decide) ?_
          refine lv_istore_n (lv' := [(2, .int (0 : Int32)), (0, .ref (ad 0)), (1, .int a1), (3, .int y4)]) hx hb dX12_canBe_39 rfl hl (by decide) rfl (fun ls hl => ?_)
          obtain ⟨x15, ex15⟩ : ∃ z : Int32, z = (y4 + (1 : Int32)) := ⟨_, rfl⟩
          have hF := hF x15 ex15
          refine lv_iinc (v := x15) (lv' := [(3, .int x15), (2, .int (0 : Int32)), (0, .ref (ad 0)), (1, .int a1)]) hx hb dX12_canBe_40 hl (k := 3) rfl (by rw [ex15]; rfl) (by decide) rfl (fun ls hl => ?_)
          refine lv_goto (tgt := 4) hx hb dX12_canBe_43 (by decide) ?_
          exact hrec5 (0 : Int32) x15 hF H locs ls hP hD hS (lv_sub hl [2, 3, 1, 0] rfl)
        · have hF := brF hF c14
          refine lv_iconst (v := (1 : Int32)) hx hb dX12_canBe_34 (by decide) ?_
          refine lv_goto (tgt := 39) hx hb dX12_canBe_35 (by decide) ?_
          refine lv_istore_n (lv' := [(2, .int (1 : Int32)), (0, .ref (ad 0)), (1, .int a1), (3, .int y4)]) hx hb dX12_canBe_39 rfl hl (by decide) rfl (fun ls hl => ?_)
          obtain ⟨x16, ex16⟩ : ∃ z : Int32, z = (y4 + (1 : Int32)) := ⟨_, rfl⟩
          have hF := hF x16 ex16
          refine lv_iinc (v := x16) (lv' := [(3, .int x16), (2, .int (1 : Int32)), (0, .ref (ad 0)), (1, .int a1)]) hx hb dX12_canBe_40 hl (k := 3) rfl (by rw [ex16]; rfl) (by decide) rfl (fun ls hl => ?_)
          refine lv_goto (tgt := 4) hx hb dX12_canBe_43 (by decide) ?_
          exact hrec5 (1 : Int32) x16 hF H locs ls hP hD hS (lv_sub hl [2, 3, 1, 0] rfl)
def w_X12_go_L111 (a1 : Int32) (J12 : St → Prop) (rec16 : Int32 → St → Prop) (y14 : Int32) (σ15 : St) : Prop := br ((16 : Int32) ≤ y14) (J12 σ15) (rd (σ15.1 14) 16 y14 (fun v18 => w_X12_then v18 a1 y14 (fun r19 => ck y14 16 (nm (upI σ15 14 (y14).toNatClampNeg r19) (fun σ21 => nm (y14 + (1 : Int32)) (fun x22 => rec16 x22 σ21))))))
def w_X12_go_L23 (J5 : St → Prop) (rec25 : Int32 → St → Prop) (y23 : Int32) (σ24 : St) : Prop := br ((σ24.1 0 1) ≤ y23) (J5 σ24) (br ((((σ24.1 0 24) >>> (y23 &&& 31)) &&& (1 : Int32)) = (1 : Int32)) (ck (σ24.1 0 20) 10 (nm (upI σ24 15 ((σ24.1 0 20)).toNatClampNeg y23) (fun σ29 => nm (upI σ29 0 20 ((σ29.1 0 20) + (1 : Int32))) (fun σ30 => nm (y23 + (1 : Int32)) (fun x31 => rec25 x31 σ30))))) (nm (y23 + (1 : Int32)) (fun x28 => rec25 x28 σ24)))
def w_X12_go (σ : St) (a1 : Int32) (a2 : Int32) (a3 : Int32) (post : St → Prop) : Prop := rd (σ.1 12) 61 (σ.1 0 15) (fun v1 => w_X12_look σ v1 a1 a2 (fun σ3 => nm (upI σ3 0 20 (0 : Int32)) (fun σ4 => jn (α := St → Prop) (fun (σ6 : St) => w_X12_behind σ6 a3 (fun r7 => ck ((σ6.1 0 15) + (1 : Int32)) 61 (nm (upI σ6 12 (((σ6.1 0 15) + (1 : Int32))).toNatClampNeg r7) (fun σ9 => ck (σ9.1 0 15) 60 (nm (upI σ9 13 ((σ9.1 0 15)).toNatClampNeg a1) (fun σ10 => nm (upI σ10 0 15 ((σ10.1 0 15) + (1 : Int32))) (fun σ11 => jn (α := St → Prop) (fun (σ13 : St) => post σ13) (fun J12 => lpE2 (w_X12_go_L111 a1 J12) (0 : Int32) σ11)))))))) (fun J5 => lpE2 (w_X12_go_L23 J5) (0 : Int32) σ4))))
set_option maxHeartbeats 4000000 in
set_option maxRecDepth 100000 in
theorem c_X12_go (l : Launch) (D : va_G) (cy : Nat → ClassId) (ad : Nat → Nat) (tL : Nat) (σ : St) (a1 : Int32) (a2 : Int32) (a3 : Int32) (post : St → Prop) (hF : w_X12_go σ a1 a2 a3 post) : Ctv l yX12_go cX12_go 5 none 5 118 D cy ad tL dsM σ [.ref (ad 0), .int a1, .int a2, .int a3] post := by
  refine ctv_of (by decide) (Nat.le_of_ble_eq_true rfl) ?_
  intro p e s m args below meth c A hx hb hml hr hlk hg hown hA hK H locs hP hD hS hLB ls hl
  have hown : s.vm.findClass RX12 = some m.cls := hown
  have hl : lv_has ls 5 [(0, .ref (ad 0)), (1, .int a1), (2, .int a2), (3, .int a3)] := hl
  refine lv_aload_n hx hb dX12_go_0 rfl (lv_at hl 0 rfl) ?_
  refine lv_aload_n hx hb dX12_go_1 rfl (lv_at hl 0 rfl) ?_
  refine wi_getr hx hb hg hown hK hP 0 16 12 rfl rfl cb_12 (by decide) kw_575 dX12_go_2 ?_
  refine lv_aload_n hx hb dX12_go_5 rfl (lv_at hl 0 rfl) ?_
  refine wi_geti hx hb hg hown hK hP 0 15 rfl rfl cb_12 (by decide) kw_573 dX12_go_6 ?_
  obtain ⟨hin, hF⟩ := hF
  refine wi_iald hx hb hK hP 12 rfl hin dX12_go_9 (fun v1 ev1 => ?_)
  have hF := hF v1 ev1
  refine lv_iload_n hx hb dX12_go_10 rfl (lv_at hl 1 rfl) ?_
  refine lv_iload_n hx hb dX12_go_11 rfl (lv_at hl 2 rfl) ?_
  refine wi_callVv (k := 0) (As := [.int v1, .int a1, .int a2]) (c_X12_look l D cy ad tL σ v1 a1 a2 _ hF) vw_RX12_215 rfl cb_12 hx hb hml hown hg hK hP hD hS hA hLB rfl ⟨Nat.le_of_ble_eq_true rfl, Nat.le_of_ble_eq_true rfl⟩ hl.1 rfl (Nat.le_of_ble_eq_true rfl) dX12_go_12 (fun σ3 hw H locs hP hD hS => ?_)
  have hF := hw
  refine lv_aload_n hx hb dX12_go_15 rfl (lv_at hl 0 rfl) ?_
  refine lv_iconst (v := (0 : Int32)) hx hb dX12_go_16 (by decide) ?_
  refine wi_puti hx hb hg hown hK hP hD hS 0 20 rfl rfl cb_12 (by decide) kw_574 rfl rfl rfl dX12_go_17 (fun σ4 eσ4 H locs hP hD hS => ?_)
  have hF := hF σ4 eσ4
  refine lv_iconst (v := (0 : Int32)) hx hb dX12_go_20 (by decide) ?_
  refine lv_istore (lv' := [(4, .int (0 : Int32)), (0, .ref (ad 0)), (1, .int a1), (2, .int a2), (3, .int a3)]) hx hb dX12_go_21 hl (by decide) rfl (fun ls hl => ?_)
  refine jn_use hF (fun K => ∀ (σ6 : St) (H : Heap) (locs : List Loc) (ls : Array Slot), K σ6 → va_P D vwCl (wld cy ad dsM σ6) H → va_D A (wld cy ad dsM σ6) → va_S A s.heap H locs → lv_has ls 5 [(0, .ref (ad 0)), (1, .int a1), (3, .int a3)] → W p l e (rmO 5 118) s m args below meth c H locs 0 0 (MQ below (va_Qv post (cBk D cy ad dsM A) A) args s 0 0 A) (F0 m 72 ls [])) (fun σ6 H locs ls hF hP hD hS hl => ?_) (fun J5 hJ5 hF => ?_)
  · refine lv_aload_n hx hb dX12_go_72 rfl (lv_at hl 0 rfl) ?_
    refine wi_getr hx hb hg hown hK hP 0 16 12 rfl rfl cb_12 (by decide) kw_575 dX12_go_73 ?_
    refine lv_aload_n hx hb dX12_go_76 rfl (lv_at hl 0 rfl) ?_
    refine wi_geti hx hb hg hown hK hP 0 15 rfl rfl cb_12 (by decide) kw_573 dX12_go_77 ?_
    refine lv_iconst (v := (1 : Int32)) hx hb dX12_go_80 (by decide) ?_
    refine lv_iadd hx hb dX12_go_81 ?_
    refine lv_aload_n hx hb dX12_go_82 rfl (lv_at hl 0 rfl) ?_
    refine lv_iload_n hx hb dX12_go_83 rfl (lv_at hl 2 rfl) ?_
    refine wi_callVi (k := 0) (As := [.int a3]) (c_X12_behind l D cy ad tL σ6 a3 _ hF) vw_RX12_218 rfl cb_12 hx hb hml hown hg hK hP hD hS hA hLB rfl ⟨Nat.le_of_ble_eq_true rfl, Nat.le_of_ble_eq_true rfl⟩ hl.1 rfl (Nat.le_of_ble_eq_true rfl) dX12_go_84 (fun r7 σ8 hw H locs hP hD hS => ?_)
    obtain ⟨hF, rfl⟩ := hw
    obtain ⟨hin, hF⟩ := hF
    refine wi_iast hx hb hK hP hD hS 12 rfl hin dX12_go_87 (fun σ9 eσ9 H locs hP hD hS => ?_)
    have hF := hF σ9 eσ9
    refine lv_aload_n hx hb dX12_go_88 rfl (lv_at hl 0 rfl) ?_
    refine wi_getr hx hb hg hown hK hP 0 17 13 rfl rfl cb_12 (by decide) kw_587 dX12_go_89 ?_
    refine lv_aload_n hx hb dX12_go_92 rfl (lv_at hl 0 rfl) ?_
    refine wi_geti hx hb hg hown hK hP 0 15 rfl rfl cb_12 (by decide) kw_573 dX12_go_93 ?_
    refine lv_iload_n hx hb dX12_go_96 rfl (lv_at hl 1 rfl) ?_
    obtain ⟨hin, hF⟩ := hF
    refine wi_iast hx hb hK hP hD hS 13 rfl hin dX12_go_97 (fun σ10 eσ10 H locs hP hD hS => ?_)
    have hF := hF σ10 eσ10
    refine lv_aload_n hx hb dX12_go_98 rfl (lv_at hl 0 rfl) ?_
    refine lv_dup hx hb dX12_go_99 rfl ?_
    refine wi_geti hx hb hg hown hK hP 0 15 rfl rfl cb_12 (by decide) kw_573 dX12_go_100 ?_
    refine lv_iconst (v := (1 : Int32)) hx hb dX12_go_103 (by decide) ?_
    refine lv_iadd hx hb dX12_go_104 ?_
    refine wi_puti hx hb hg hown hK hP hD hS 0 15 rfl rfl cb_12 (by decide) kw_573 rfl rfl rfl dX12_go_105 (fun σ11 eσ11 H locs hP hD hS => ?_)
    have hF := hF σ11 eσ11
    refine lv_iconst (v := (0 : Int32)) hx hb dX12_go_108 (by decide) ?_
    refine lv_istore (lv' := [(4, .int (0 : Int32)), (0, .ref (ad 0)), (1, .int a1), (3, .int a3)]) hx hb dX12_go_109 hl (by decide) rfl (fun ls hl => ?_)
    refine jn_use hF (fun K => ∀ (σ13 : St) (H : Heap) (locs : List Loc) (ls : Array Slot), K σ13 → va_P D vwCl (wld cy ad dsM σ13) H → va_D A (wld cy ad dsM σ13) → va_S A s.heap H locs → lv_has ls 5 [] → W p l e (rmO 5 118) s m args below meth c H locs 0 0 (MQ below (va_Qv post (cBk D cy ad dsM A) A) args s 0 0 A) (F0 m 145 ls [])) (fun σ13 H locs ls hF hP hD hS hl => ?_) (fun J12 hJ12 hF => ?_)
    · exact wi_vret hx hb hr hlk hK hP hD hS dX12_go_145 hF
    · refine lpE2_use hF (fun (y14 : Int32) (σ15 : St) => ∀ (H : Heap) (locs : List Loc) (ls : Array Slot), va_P D vwCl (wld cy ad dsM σ15) H → va_D A (wld cy ad dsM σ15) → va_S A s.heap H locs → lv_has ls 5 [(0, .ref (ad 0)), (1, .int a1), (4, .int y14)] → W p l e (rmO 5 118) s m args below meth c H locs 0 0 (MQ below (va_Qv post (cBk D cy ad dsM A) A) args s 0 0 A) (F0 m 111 ls [])) (fun rec16 hrec16 y14 σ15 hF H locs ls hP hD hS hl => ?_) H locs ls hP hD hS (lv_sub hl [1, 2, 0] rfl)
      refine lv_iload hx hb dX12_go_111 (lv_at hl 2 rfl) ?_
      refine lv_bipush (v := (16 : Int32)) hx hb dX12_go_113 (by decide) ?_
      refine lv_icmp_ge (tgt := 145) hx hb dX12_go_115 (by decide) (fun c17 => ?_) (fun c17 => ?_)
      · have hF := brT hF c17
        exact hJ12 σ15 H locs ls hF hP hD hS (lv_sub hl [] rfl)
      · have hF := brF hF c17
        refine lv_aload_n hx hb dX12_go_118 rfl (lv_at hl 0 rfl) ?_
        refine wi_getr hx hb hg hown hK hP 0 18 14 rfl rfl cb_12 (by decide) kw_576 dX12_go_119 ?_
        refine lv_iload hx hb dX12_go_122 (lv_at hl 2 rfl) ?_
        refine lv_aload_n hx hb dX12_go_124 rfl (lv_at hl 0 rfl) ?_
        refine lv_aload_n hx hb dX12_go_125 rfl (lv_at hl 0 rfl) ?_
        refine wi_getr hx hb hg hown hK hP 0 18 14 rfl rfl cb_12 (by decide) kw_576 dX12_go_126 ?_
        refine lv_iload hx hb dX12_go_129 (lv_at hl 2 rfl) ?_
        obtain ⟨hin, hF⟩ := hF
        refine wi_iald hx hb hK hP 14 rfl hin dX12_go_131 (fun v18 ev18 => ?_)
        have hF := hF v18 ev18
        refine lv_iload_n hx hb dX12_go_132 rfl (lv_at hl 1 rfl) ?_
        refine lv_iload hx hb dX12_go_133 (lv_at hl 2 rfl) ?_
        refine wi_callVi (k := 0) (As := [.int v18, .int a1, .int y14]) (c_X12_then l D cy ad tL σ15 v18 a1 y14 _ hF) vw_RX12_208 rfl cb_12 hx hb hml hown hg hK hP hD hS hA hLB rfl ⟨Nat.le_of_ble_eq_true rfl, Nat.le_of_ble_eq_true rfl⟩ hl.1 rfl (Nat.le_of_ble_eq_true rfl) dX12_go_135 (fun r19 σ20 hw H locs hP hD hS => ?_)
        obtain ⟨hF, rfl⟩ := hw
        obtain ⟨hin, hF⟩ := hF
        refine wi_iast hx hb hK hP hD hS 14 rfl hin dX12_go_138 (fun σ21 eσ21 H locs hP hD hS => ?_)
        have hF := hF σ21 eσ21
        obtain ⟨x22, ex22⟩ : ∃ z : Int32, z = (y14 + (1 : Int32)) := ⟨_, rfl⟩
        have hF := hF x22 ex22
        refine lv_iinc (v := x22) (lv' := [(4, .int x22), (0, .ref (ad 0)), (1, .int a1)]) hx hb dX12_go_139 hl (k := 2) rfl (by rw [ex22]; rfl) (by decide) rfl (fun ls hl => ?_)
        refine lv_goto (tgt := 111) hx hb dX12_go_142 (by decide) ?_
        exact hrec16 x22 σ21 hF H locs ls hP hD hS (lv_sub hl [1, 2, 0] rfl)
  · refine lpE2_use hF (fun (y23 : Int32) (σ24 : St) => ∀ (H : Heap) (locs : List Loc) (ls : Array Slot), va_P D vwCl (wld cy ad dsM σ24) H → va_D A (wld cy ad dsM σ24) → va_S A s.heap H locs → lv_has ls 5 [(0, .ref (ad 0)), (1, .int a1), (3, .int a3), (4, .int y23)] → W p l e (rmO 5 118) s m args below meth c H locs 0 0 (MQ below (va_Qv post (cBk D cy ad dsM A) A) args s 0 0 A) (F0 m 23 ls [])) (fun rec25 hrec25 y23 σ24 hF H locs ls hP hD hS hl => ?_) H locs ls hP hD hS (lv_sub hl [1, 2, 4, 0] rfl)
    refine lv_iload hx hb dX12_go_23 (lv_at hl 3 rfl) ?_
    refine lv_aload_n hx hb dX12_go_25 rfl (lv_at hl 0 rfl) ?_
    refine wi_geti hx hb hg hown hK hP 0 1 rfl rfl cb_12 (by decide) kw_559 dX12_go_26 ?_
    refine lv_icmp_ge (tgt := 72) hx hb dX12_go_29 (by decide) (fun c26 => ?_) (fun c26 => ?_)
    · have hF := brT hF c26
      exact hJ5 σ24 H locs ls hF hP hD hS (lv_sub hl [0, 1, 2] rfl)
    · have hF := brF hF c26
      refine lv_aload_n hx hb dX12_go_32 rfl (lv_at hl 0 rfl) ?_
      refine wi_geti hx hb hg hown hK hP 0 24 rfl rfl cb_12 (by decide) kw_672 dX12_go_33 ?_
      refine lv_iload hx hb dX12_go_36 (lv_at hl 3 rfl) ?_
      refine lv_ishr hx hb dX12_go_38 ?_
      refine lv_iconst (v := (1 : Int32)) hx hb dX12_go_39 (by decide) ?_
      refine lv_iand hx hb dX12_go_40 ?_
      refine lv_iconst (v := (1 : Int32)) hx hb dX12_go_41 (by decide) ?_
      refine lv_icmp_ne (tgt := 66) hx hb dX12_go_42 (by decide) (fun c27 => ?_) (fun c27 => ?_)
      · have hF := brF hF c27
        obtain ⟨x28, ex28⟩ : ∃ z : Int32, z = (y23 + (1 : Int32)) := ⟨_, rfl⟩
        have hF := hF x28 ex28
        refine lv_iinc (v := x28) (lv' := [(4, .int x28), (0, .ref (ad 0)), (1, .int a1), (3, .int a3)]) hx hb dX12_go_66 hl (k := 3) rfl (by rw [ex28]; rfl) (by decide) rfl (fun ls hl => ?_)
        refine lv_goto (tgt := 23) hx hb dX12_go_69 (by decide) ?_
        exact hrec25 x28 σ24 hF H locs ls hP hD hS (lv_sub hl [1, 2, 3, 0] rfl)
      · have hF := brT hF c27
        refine lv_aload_n hx hb dX12_go_45 rfl (lv_at hl 0 rfl) ?_
        refine wi_getr hx hb hg hown hK hP 0 19 15 rfl rfl cb_12 (by decide) kw_588 dX12_go_46 ?_
        refine lv_aload_n hx hb dX12_go_49 rfl (lv_at hl 0 rfl) ?_
        refine wi_geti hx hb hg hown hK hP 0 20 rfl rfl cb_12 (by decide) kw_574 dX12_go_50 ?_
        refine lv_iload hx hb dX12_go_53 (lv_at hl 3 rfl) ?_
        obtain ⟨hin, hF⟩ := hF
        refine wi_iast hx hb hK hP hD hS 15 rfl hin dX12_go_55 (fun σ29 eσ29 H locs hP hD hS => ?_)
        have hF := hF σ29 eσ29
        refine lv_aload_n hx hb dX12_go_56 rfl (lv_at hl 0 rfl) ?_
        refine lv_dup hx hb dX12_go_57 rfl ?_
        refine wi_geti hx hb hg hown hK hP 0 20 rfl rfl cb_12 (by decide) kw_574 dX12_go_58 ?_
        refine lv_iconst (v := (1 : Int32)) hx hb dX12_go_61 (by decide) ?_
        refine lv_iadd hx hb dX12_go_62 ?_
        refine wi_puti hx hb hg hown hK hP hD hS 0 20 rfl rfl cb_12 (by decide) kw_574 rfl rfl rfl dX12_go_63 (fun σ30 eσ30 H locs hP hD hS => ?_)
        have hF := hF σ30 eσ30
        obtain ⟨x31, ex31⟩ : ∃ z : Int32, z = (y23 + (1 : Int32)) := ⟨_, rfl⟩
        have hF := hF x31 ex31
        refine lv_iinc (v := x31) (lv' := [(4, .int x31), (0, .ref (ad 0)), (1, .int a1), (3, .int a3)]) hx hb dX12_go_66 hl (k := 3) rfl (by rw [ex31]; rfl) (by decide) rfl (fun ls hl => ?_)
        refine lv_goto (tgt := 23) hx hb dX12_go_69 (by decide) ?_
        exact hrec25 x31 σ30 hF H locs ls hP hD hS (lv_sub hl [1, 2, 3, 0] rfl)
def w_X12_moment (σ : St) (a1 : Int32) (a2 : Int32) (a3 : Int32) (post : Int32 → St → Prop) : Prop := nm (upI σ 0 0 (0 : Int32)) (fun σ1 => w_X12_isIn ((a1 : Int32).toInt64) (1 : Int64) (15 : Int64) (fun r2 => br (r2 = (0 : Int32)) (post (-1 : Int32) σ1) (br (a2 < (0 : Int32)) (post (-1 : Int32) σ1) (br ((0 : Int32) ≤ a3) (w_X12_canBe σ1 a1 (fun r7 => br (r7 = (0 : Int32)) (post (-2 : Int32) σ1) (br ((σ1.1 0 15) = (60 : Int32)) (post (-3 : Int32) σ1) (w_X12_go σ1 a1 a2 a3 (fun σ12 => post (σ12.1 0 20) σ12))))) (post (-1 : Int32) σ1)))))
set_option maxHeartbeats 4000000 in
set_option maxRecDepth 100000 in
theorem c_X12_moment (l : Launch) (D : va_G) (cy : Nat → ClassId) (ad : Nat → Nat) (tL : Nat) (σ : St) (a1 : Int32) (a2 : Int32) (a3 : Int32) (post : Int32 → St → Prop) (hF : w_X12_moment σ a1 a2 a3 post) : Cti l yX12_moment cX12_moment 4 (some .int) 6 142 D cy ad tL dsM σ [.ref (ad 0), .int a1, .int a2, .int a3] post := by
  refine cti_of (by decide) (Nat.le_of_ble_eq_true rfl) ?_
  intro p e s m args below meth c A hx hb hml hr hlk hg hown hA hK H locs hP hD hS hLB ls hl
  have hown : s.vm.findClass RX12 = some m.cls := hown
  have hl : lv_has ls 4 [(0, .ref (ad 0)), (1, .int a1), (2, .int a2), (3, .int a3)] := hl
  refine lv_aload_n hx hb dX12_moment_0 rfl (lv_at hl 0 rfl) ?_
  refine lv_iconst (v := (0 : Int32)) hx hb dX12_moment_1 (by decide) ?_
  refine wi_puti hx hb hg hown hK hP hD hS 0 0 rfl rfl cb_12 (by decide) kw_615 rfl rfl rfl dX12_moment_2 (fun σ1 eσ1 H locs hP hD hS => ?_)
  have hF := hF σ1 eσ1
  refine lv_iload_n hx hb dX12_moment_5 rfl (lv_at hl 1 rfl) ?_
  refine lv_i2l hx hb dX12_moment_6 rfl ?_
  refine lv_lconst (v := (1 : Int64)) hx hb dX12_moment_7 (by decide) ?_
  refine lv_ldc2 (v := (15 : Int64)) hx hb hown (hg _ kw_702) dX12_moment_8 ?_
  refine wi_callSi (As := [.long ((a1 : Int32).toInt64), .long (1 : Int64), .long (15 : Int64)]) (c_X12_isIn l D cy ad tL σ1 ((a1 : Int32).toInt64) (1 : Int64) (15 : Int64) _ hF) sw_RX12_156 hx hb hml hown hg hK hP hD hS hA hLB rfl ⟨Nat.le_of_ble_eq_true rfl, Nat.le_of_ble_eq_true rfl⟩ hl.1 rfl (Nat.le_of_ble_eq_true rfl) dX12_moment_11 (fun r2 σ3 hw H locs hP hD hS => ?_)
  obtain ⟨hF, rfl⟩ := hw
  refine lv_if_eq (tgt := 25) hx hb dX12_moment_14 (by decide) (fun c4 => ?_) (fun c4 => ?_)
  · have hF := brT hF c4
    refine lv_iconst (v := (-1 : Int32)) hx hb dX12_moment_25 (by decide) ?_
    exact wi_iret hx hb hr hlk hK hP hD hS dX12_moment_26 hF
  · have hF := brF hF c4
    refine lv_iload_n hx hb dX12_moment_17 rfl (lv_at hl 2 rfl) ?_
    refine lv_if_lt (tgt := 25) hx hb dX12_moment_18 (by decide) (fun c5 => ?_) (fun c5 => ?_)
    · have hF := brT hF c5
      refine lv_iconst (v := (-1 : Int32)) hx hb dX12_moment_25 (by decide) ?_
      exact wi_iret hx hb hr hlk hK hP hD hS dX12_moment_26 hF
    · have hF := brF hF c5
      refine lv_iload_n hx hb dX12_moment_21 rfl (lv_at hl 3 rfl) ?_
      refine lv_if_ge (tgt := 27) hx hb dX12_moment_22 (by decide) (fun c6 => ?_) (fun c6 => ?_)
      · have hF := brT hF c6
        refine lv_aload_n hx hb dX12_moment_27 rfl (lv_at hl 0 rfl) ?_
        refine lv_iload_n hx hb dX12_moment_28 rfl (lv_at hl 1 rfl) ?_
        refine wi_callVi (k := 0) (As := [.int a1]) (c_X12_canBe l D cy ad tL σ1 a1 _ hF) vw_RX12_223 rfl cb_12 hx hb hml hown hg hK hP hD hS hA hLB rfl ⟨Nat.le_of_ble_eq_true rfl, Nat.le_of_ble_eq_true rfl⟩ hl.1 rfl (Nat.le_of_ble_eq_true rfl) dX12_moment_29 (fun r7 σ8 hw H locs hP hD hS => ?_)
        obtain ⟨hF, rfl⟩ := hw
        refine lv_if_ne (tgt := 38) hx hb dX12_moment_32 (by decide) (fun c9 => ?_) (fun c9 => ?_)
        · have hF := brF hF c9
          refine lv_aload_n hx hb dX12_moment_38 rfl (lv_at hl 0 rfl) ?_
          refine wi_geti hx hb hg hown hK hP 0 15 rfl rfl cb_12 (by decide) kw_573 dX12_moment_39 ?_
          refine lv_bipush (v := (60 : Int32)) hx hb dX12_moment_42 (by decide) ?_
          refine lv_icmp_ne (tgt := 50) hx hb dX12_moment_44 (by decide) (fun c10 => ?_) (fun c10 => ?_)
          · have hF := brF hF c10
            refine lv_aload_n hx hb dX12_moment_50 rfl (lv_at hl 0 rfl) ?_
            refine lv_iload_n hx hb dX12_moment_51 rfl (lv_at hl 1 rfl) ?_
            refine lv_iload_n hx hb dX12_moment_52 rfl (lv_at hl 2 rfl) ?_
            refine lv_iload_n hx hb dX12_moment_53 rfl (lv_at hl 3 rfl) ?_
            refine wi_callVv (k := 0) (As := [.int a1, .int a2, .int a3]) (c_X12_go l D cy ad tL σ1 a1 a2 a3 _ hF) vw_RX12_226 rfl cb_12 hx hb hml hown hg hK hP hD hS hA hLB rfl ⟨Nat.le_of_ble_eq_true rfl, Nat.le_of_ble_eq_true rfl⟩ hl.1 rfl (Nat.le_of_ble_eq_true rfl) dX12_moment_54 (fun σ12 hw H locs hP hD hS => ?_)
            have hF := hw
            refine lv_aload_n hx hb dX12_moment_57 rfl (lv_at hl 0 rfl) ?_
            refine wi_geti hx hb hg hown hK hP 0 20 rfl rfl cb_12 (by decide) kw_574 dX12_moment_58 ?_
            exact wi_iret hx hb hr hlk hK hP hD hS dX12_moment_61 hF
          · have hF := brT hF c10
            refine lv_bipush (v := (-3 : Int32)) hx hb dX12_moment_47 (by decide) ?_
            exact wi_iret hx hb hr hlk hK hP hD hS dX12_moment_49 hF
        · have hF := brT hF c9
          refine lv_bipush (v := (-2 : Int32)) hx hb dX12_moment_35 (by decide) ?_
          exact wi_iret hx hb hr hlk hK hP hD hS dX12_moment_37 hF
      · have hF := brF hF c6
        refine lv_iconst (v := (-1 : Int32)) hx hb dX12_moment_25 (by decide) ?_
        exact wi_iret hx hb hr hlk hK hP hD hS dX12_moment_26 hF
def w_X12_value (σ : St) (a1 : Int32) (post : Int32 → St → Prop) : Prop := nm (upI σ 0 0 (0 : Int32)) (fun σ1 => w_X12_isCell σ1 a1 (fun r2 => br (r2 = (0 : Int32)) (post (-1 : Int32) σ1) (rd (σ1.1 12) 61 (σ1.1 0 15) (fun v5 => w_X12_bitOf v5 a1 (fun r6 => post r6 σ1)))))
set_option maxHeartbeats 4000000 in
set_option maxRecDepth 100000 in
theorem c_X12_value (l : Launch) (D : va_G) (cy : Nat → ClassId) (ad : Nat → Nat) (tL : Nat) (σ : St) (a1 : Int32) (post : Int32 → St → Prop) (hF : w_X12_value σ a1 post) : Cti l yX12_value cX12_value 2 (some .int) 1 21 D cy ad tL dsM σ [.ref (ad 0), .int a1] post := by
  refine cti_of (by decide) (Nat.le_of_ble_eq_true rfl) ?_
  intro p e s m args below meth c A hx hb hml hr hlk hg hown hA hK H locs hP hD hS hLB ls hl
  have hown : s.vm.findClass RX12 = some m.cls := hown
  have hl : lv_has ls 2 [(0, .ref (ad 0)), (1, .int a1)] := hl
  refine lv_aload_n hx hb dX12_value_0 rfl (lv_at hl 0 rfl) ?_
  refine lv_iconst (v := (0 : Int32)) hx hb dX12_value_1 (by decide) ?_
  refine wi_puti hx hb hg hown hK hP hD hS 0 0 rfl rfl cb_12 (by decide) kw_615 rfl rfl rfl dX12_value_2 (fun σ1 eσ1 H locs hP hD hS => ?_)
  have hF := hF σ1 eσ1
  refine lv_aload_n hx hb dX12_value_5 rfl (lv_at hl 0 rfl) ?_
  refine lv_iload_n hx hb dX12_value_6 rfl (lv_at hl 1 rfl) ?_
  refine wi_callVi (k := 0) (As := [.int a1]) (c_X12_isCell l D cy ad tL σ1 a1 _ hF) vw_RX12_129 rfl cb_12 hx hb hml hown hg hK hP hD hS hA hLB rfl ⟨Nat.le_of_ble_eq_true rfl, Nat.le_of_ble_eq_true rfl⟩ hl.1 rfl (Nat.le_of_ble_eq_true rfl) dX12_value_7 (fun r2 σ3 hw H locs hP hD hS => ?_)
  obtain ⟨hF, rfl⟩ := hw
  refine lv_if_eq (tgt := 29) hx hb dX12_value_10 (by decide) (fun c4 => ?_) (fun c4 => ?_)
  · have hF := brT hF c4
    refine lv_iconst (v := (-1 : Int32)) hx hb dX12_value_29 (by decide) ?_
    exact wi_iret hx hb hr hlk hK hP hD hS dX12_value_30 hF
  · have hF := brF hF c4
    refine lv_aload_n hx hb dX12_value_13 rfl (lv_at hl 0 rfl) ?_
    refine wi_getr hx hb hg hown hK hP 0 16 12 rfl rfl cb_12 (by decide) kw_575 dX12_value_14 ?_
    refine lv_aload_n hx hb dX12_value_17 rfl (lv_at hl 0 rfl) ?_
    refine wi_geti hx hb hg hown hK hP 0 15 rfl rfl cb_12 (by decide) kw_573 dX12_value_18 ?_
    obtain ⟨hin, hF⟩ := hF
    refine wi_iald hx hb hK hP 12 rfl hin dX12_value_21 (fun v5 ev5 => ?_)
    have hF := hF v5 ev5
    refine lv_iload_n hx hb dX12_value_22 rfl (lv_at hl 1 rfl) ?_
    refine wi_callSi (As := [.int v5, .int a1]) (c_X12_bitOf l D cy ad tL σ1 v5 a1 _ hF) sw_RX12_133 hx hb hml hown hg hK hP hD hS hA hLB rfl ⟨Nat.le_of_ble_eq_true rfl, Nat.le_of_ble_eq_true rfl⟩ hl.1 rfl (Nat.le_of_ble_eq_true rfl) dX12_value_23 (fun r6 σ7 hw H locs hP hD hS => ?_)
    obtain ⟨hF, rfl⟩ := hw
    refine lv_goto (tgt := 30) hx hb dX12_value_26 (by decide) ?_
    exact wi_iret hx hb hr hlk hK hP hD hS dX12_value_30 hF
def w_X12_either (σ : St) (a1 : Int32) (post : Int32 → St → Prop) : Prop := nm (upI σ 0 0 (0 : Int32)) (fun σ1 => br (a1 < (0 : Int32)) (post (-1 : Int32) σ1) (br (a1 < (σ1.1 0 20)) (rd (σ1.1 15) 10 a1 (fun v4 => post v4 σ1)) (post (-1 : Int32) σ1)))
set_option maxHeartbeats 4000000 in
set_option maxRecDepth 100000 in
theorem c_X12_either (l : Launch) (D : va_G) (cy : Nat → ClassId) (ad : Nat → Nat) (tL : Nat) (σ : St) (a1 : Int32) (post : Int32 → St → Prop) (hF : w_X12_either σ a1 post) : Cti l yX12_either cX12_either 2 (some .int) 0 0 D cy ad tL dsM σ [.ref (ad 0), .int a1] post := by
  refine cti_of (by decide) (Nat.le_of_ble_eq_true rfl) ?_
  intro p e s m args below meth c A hx hb hml hr hlk hg hown hA hK H locs hP hD hS hLB ls hl
  have hown : s.vm.findClass RX12 = some m.cls := hown
  have hl : lv_has ls 2 [(0, .ref (ad 0)), (1, .int a1)] := hl
  refine lv_aload_n hx hb dX12_either_0 rfl (lv_at hl 0 rfl) ?_
  refine lv_iconst (v := (0 : Int32)) hx hb dX12_either_1 (by decide) ?_
  refine wi_puti hx hb hg hown hK hP hD hS 0 0 rfl rfl cb_12 (by decide) kw_615 rfl rfl rfl dX12_either_2 (fun σ1 eσ1 H locs hP hD hS => ?_)
  have hF := hF σ1 eσ1
  refine lv_iload_n hx hb dX12_either_5 rfl (lv_at hl 1 rfl) ?_
  refine lv_if_lt (tgt := 17) hx hb dX12_either_6 (by decide) (fun c2 => ?_) (fun c2 => ?_)
  · have hF := brT hF c2
    refine lv_iconst (v := (-1 : Int32)) hx hb dX12_either_17 (by decide) ?_
    refine lv_goto (tgt := 27) hx hb dX12_either_18 (by decide) ?_
    exact wi_iret hx hb hr hlk hK hP hD hS dX12_either_27 hF
  · have hF := brF hF c2
    refine lv_iload_n hx hb dX12_either_9 rfl (lv_at hl 1 rfl) ?_
    refine lv_aload_n hx hb dX12_either_10 rfl (lv_at hl 0 rfl) ?_
    refine wi_geti hx hb hg hown hK hP 0 20 rfl rfl cb_12 (by decide) kw_574 dX12_either_11 ?_
    refine lv_icmp_lt (tgt := 21) hx hb dX12_either_14 (by decide) (fun c3 => ?_) (fun c3 => ?_)
    · have hF := brT hF c3
      refine lv_aload_n hx hb dX12_either_21 rfl (lv_at hl 0 rfl) ?_
      refine wi_getr hx hb hg hown hK hP 0 19 15 rfl rfl cb_12 (by decide) kw_588 dX12_either_22 ?_
      refine lv_iload_n hx hb dX12_either_25 rfl (lv_at hl 1 rfl) ?_
      obtain ⟨hin, hF⟩ := hF
      refine wi_iald hx hb hK hP 15 rfl hin dX12_either_26 (fun v4 ev4 => ?_)
      have hF := hF v4 ev4
      exact wi_iret hx hb hr hlk hK hP hD hS dX12_either_27 hF
    · have hF := brF hF c3
      refine lv_iconst (v := (-1 : Int32)) hx hb dX12_either_17 (by decide) ?_
      refine lv_goto (tgt := 27) hx hb dX12_either_18 (by decide) ?_
      exact wi_iret hx hb hr hlk hK hP hD hS dX12_either_27 hF
def w_X12_ticks (σ : St) (a1 : Int32) (a2 : Int32) (post : Int32 → St → Prop) : Prop := nm (upI σ 0 0 (0 : Int32)) (fun σ1 => w_X12_isIn ((a1 : Int32).toInt64) (0 : Int64) (3 : Int64) (fun r2 => br (r2 = (0 : Int32)) (post (-1 : Int32) σ1) (w_X12_isIn ((a2 : Int32).toInt64) (0 : Int64) (3 : Int64) (fun r5 => br (r5 = (0 : Int32)) (post (-1 : Int32) σ1) (br (a1 = a2) (post (-1 : Int32) σ1) (rd (σ1.1 8) 16 (((4 : Int32) * a1) + a2) (fun v9 => br (v9 = (0 : Int32)) (post (0 : Int32) σ1) (rd (σ1.1 14) 16 (((4 : Int32) * a1) + a2) (fun v11 => post v11 σ1)))))))))
set_option maxHeartbeats 4000000 in
set_option maxRecDepth 100000 in
theorem c_X12_ticks (l : Launch) (D : va_G) (cy : Nat → ClassId) (ad : Nat → Nat) (tL : Nat) (σ : St) (a1 : Int32) (a2 : Int32) (post : Int32 → St → Prop) (hF : w_X12_ticks σ a1 a2 post) : Cti l yX12_ticks cX12_ticks 3 (some .int) 1 25 D cy ad tL dsM σ [.ref (ad 0), .int a1, .int a2] post := by
  refine cti_of (by decide) (Nat.le_of_ble_eq_true rfl) ?_
  intro p e s m args below meth c A hx hb hml hr hlk hg hown hA hK H locs hP hD hS hLB ls hl
  have hown : s.vm.findClass RX12 = some m.cls := hown
  have hl : lv_has ls 3 [(0, .ref (ad 0)), (1, .int a1), (2, .int a2)] := hl
  refine lv_aload_n hx hb dX12_ticks_0 rfl (lv_at hl 0 rfl) ?_
  refine lv_iconst (v := (0 : Int32)) hx hb dX12_ticks_1 (by decide) ?_
  refine wi_puti hx hb hg hown hK hP hD hS 0 0 rfl rfl cb_12 (by decide) kw_615 rfl rfl rfl dX12_ticks_2 (fun σ1 eσ1 H locs hP hD hS => ?_)
  have hF := hF σ1 eσ1
  refine lv_iload_n hx hb dX12_ticks_5 rfl (lv_at hl 1 rfl) ?_
  refine lv_i2l hx hb dX12_ticks_6 rfl ?_
  refine lv_lconst (v := (0 : Int64)) hx hb dX12_ticks_7 (by decide) ?_
  refine lv_ldc2 (v := (3 : Int64)) hx hb hown (hg _ kw_639) dX12_ticks_8 ?_
  refine wi_callSi (As := [.long ((a1 : Int32).toInt64), .long (0 : Int64), .long (3 : Int64)]) (c_X12_isIn l D cy ad tL σ1 ((a1 : Int32).toInt64) (0 : Int64) (3 : Int64) _ hF) sw_RX12_156 hx hb hml hown hg hK hP hD hS hA hLB rfl ⟨Nat.le_of_ble_eq_true rfl, Nat.le_of_ble_eq_true rfl⟩ hl.1 rfl (Nat.le_of_ble_eq_true rfl) dX12_ticks_11 (fun r2 σ3 hw H locs hP hD hS => ?_)
  obtain ⟨hF, rfl⟩ := hw
  refine lv_if_eq (tgt := 34) hx hb dX12_ticks_14 (by decide) (fun c4 => ?_) (fun c4 => ?_)
  · have hF := brT hF c4
    refine lv_iconst (v := (-1 : Int32)) hx hb dX12_ticks_34 (by decide) ?_
    refine lv_goto (tgt := 65) hx hb dX12_ticks_35 (by decide) ?_
    exact wi_iret hx hb hr hlk hK hP hD hS dX12_ticks_65 hF
  · have hF := brF hF c4
    refine lv_iload_n hx hb dX12_ticks_17 rfl (lv_at hl 2 rfl) ?_
    refine lv_i2l hx hb dX12_ticks_18 rfl ?_
    refine lv_lconst (v := (0 : Int64)) hx hb dX12_ticks_19 (by decide) ?_
    refine lv_ldc2 (v := (3 : Int64)) hx hb hown (hg _ kw_639) dX12_ticks_20 ?_
    refine wi_callSi (As := [.long ((a2 : Int32).toInt64), .long (0 : Int64), .long (3 : Int64)]) (c_X12_isIn l D cy ad tL σ1 ((a2 : Int32).toInt64) (0 : Int64) (3 : Int64) _ hF) sw_RX12_156 hx hb hml hown hg hK hP hD hS hA hLB rfl ⟨Nat.le_of_ble_eq_true rfl, Nat.le_of_ble_eq_true rfl⟩ hl.1 rfl (Nat.le_of_ble_eq_true rfl) dX12_ticks_23 (fun r5 σ6 hw H locs hP hD hS => ?_)
    obtain ⟨hF, rfl⟩ := hw
    refine lv_if_eq (tgt := 34) hx hb dX12_ticks_26 (by decide) (fun c7 => ?_) (fun c7 => ?_)
    · have hF := brT hF c7
      refine lv_iconst (v := (-1 : Int32)) hx hb dX12_ticks_34 (by decide) ?_
      refine lv_goto (tgt := 65) hx hb dX12_ticks_35 (by decide) ?_
      exact wi_iret hx hb hr hlk hK hP hD hS dX12_ticks_65 hF
    · have hF := brF hF c7
      refine lv_iload_n hx hb dX12_ticks_29 rfl (lv_at hl 1 rfl) ?_
      refine lv_iload_n hx hb dX12_ticks_30 rfl (lv_at hl 2 rfl) ?_
      refine lv_icmp_ne (tgt := 38) hx hb dX12_ticks_31 (by decide) (fun c8 => ?_) (fun c8 => ?_)
      · have hF := brF hF c8
        refine lv_aload_n hx hb dX12_ticks_38 rfl (lv_at hl 0 rfl) ?_
        refine wi_getr hx hb hg hown hK hP 0 10 8 rfl rfl cb_12 (by decide) kw_583 dX12_ticks_39 ?_
        refine lv_iconst (v := (4 : Int32)) hx hb dX12_ticks_42 (by decide) ?_
        refine lv_iload_n hx hb dX12_ticks_43 rfl (lv_at hl 1 rfl) ?_
        refine lv_imul hx hb dX12_ticks_44 ?_
        refine lv_iload_n hx hb dX12_ticks_45 rfl (lv_at hl 2 rfl) ?_
        refine lv_iadd hx hb dX12_ticks_46 ?_
        obtain ⟨hin, hF⟩ := hF
        refine wi_iald hx hb hK hP 8 rfl hin dX12_ticks_47 (fun v9 ev9 => ?_)
        have hF := hF v9 ev9
        refine lv_if_ne (tgt := 55) hx hb dX12_ticks_48 (by decide) (fun c10 => ?_) (fun c10 => ?_)
        · have hF := brF hF c10
          refine lv_aload_n hx hb dX12_ticks_55 rfl (lv_at hl 0 rfl) ?_
          refine wi_getr hx hb hg hown hK hP 0 18 14 rfl rfl cb_12 (by decide) kw_576 dX12_ticks_56 ?_
          refine lv_iconst (v := (4 : Int32)) hx hb dX12_ticks_59 (by decide) ?_
          refine lv_iload_n hx hb dX12_ticks_60 rfl (lv_at hl 1 rfl) ?_
          refine lv_imul hx hb dX12_ticks_61 ?_
          refine lv_iload_n hx hb dX12_ticks_62 rfl (lv_at hl 2 rfl) ?_
          refine lv_iadd hx hb dX12_ticks_63 ?_
          obtain ⟨hin, hF⟩ := hF
          refine wi_iald hx hb hK hP 14 rfl hin dX12_ticks_64 (fun v11 ev11 => ?_)
          have hF := hF v11 ev11
          exact wi_iret hx hb hr hlk hK hP hD hS dX12_ticks_65 hF
        · have hF := brT hF c10
          refine lv_iconst (v := (0 : Int32)) hx hb dX12_ticks_51 (by decide) ?_
          refine lv_goto (tgt := 65) hx hb dX12_ticks_52 (by decide) ?_
          exact wi_iret hx hb hr hlk hK hP hD hS dX12_ticks_65 hF
      · have hF := brT hF c8
        refine lv_iconst (v := (-1 : Int32)) hx hb dX12_ticks_34 (by decide) ?_
        refine lv_goto (tgt := 65) hx hb dX12_ticks_35 (by decide) ?_
        exact wi_iret hx hb hr hlk hK hP hD hS dX12_ticks_65 hF
def w_X12_broken_L21 (a1 : Int32) (σ1 : St) (post : Int32 → St → Prop) (J4 : Prop) (rec6 : Int32 → Prop) (y5 : Int32) : Prop := br ((σ1.1 0 15) < y5) (J4) (jn (α := Int32 → Prop) (fun (y9 : Int32) => rd (σ1.1 12) 61 y5 (fun v10 => jn (α := Int32 → Prop) (fun (y12 : Int32) => w_X12_isKept σ1 a1 y9 v10 y12 (fun r13 => br (r13 = (0 : Int32)) (post y5 σ1) (nm (y5 + (1 : Int32)) (fun x16 => rec6 x16)))) (fun J11 => br (y5 = (0 : Int32)) (J11 (1 : Int32)) (J11 (0 : Int32))))) (fun J8 => br (y5 = (0 : Int32)) (J8 (0 : Int32)) (rd (σ1.1 12) 61 (y5 - (1 : Int32)) (fun v19 => J8 v19))))
def w_X12_broken (σ : St) (a1 : Int32) (post : Int32 → St → Prop) : Prop := nm (upI σ 0 0 (0 : Int32)) (fun σ1 => br (a1 < (0 : Int32)) (post (-1 : Int32) σ1) (br (a1 < (σ1.1 0 11)) (jn (α := Prop) (post (-2 : Int32) σ1) (fun J4 => lpE1 (w_X12_broken_L21 a1 σ1 post J4) (0 : Int32))) (post (-1 : Int32) σ1)))
set_option maxHeartbeats 4000000 in
set_option maxRecDepth 100000 in
theorem c_X12_broken (l : Launch) (D : va_G) (cy : Nat → ClassId) (ad : Nat → Nat) (tL : Nat) (σ : St) (a1 : Int32) (post : Int32 → St → Prop) (hF : w_X12_broken σ a1 post) : Cti l yX12_broken cX12_broken 3 (some .int) 2 48 D cy ad tL dsM σ [.ref (ad 0), .int a1] post := by
  refine cti_of (by decide) (Nat.le_of_ble_eq_true rfl) ?_
  intro p e s m args below meth c A hx hb hml hr hlk hg hown hA hK H locs hP hD hS hLB ls hl
  have hown : s.vm.findClass RX12 = some m.cls := hown
  have hl : lv_has ls 3 [(0, .ref (ad 0)), (1, .int a1)] := hl
  refine lv_aload_n hx hb dX12_broken_0 rfl (lv_at hl 0 rfl) ?_
  refine lv_iconst (v := (0 : Int32)) hx hb dX12_broken_1 (by decide) ?_
  refine wi_puti hx hb hg hown hK hP hD hS 0 0 rfl rfl cb_12 (by decide) kw_615 rfl rfl rfl dX12_broken_2 (fun σ1 eσ1 H locs hP hD hS => ?_)
  have hF := hF σ1 eσ1
  refine lv_iload_n hx hb dX12_broken_5 rfl (lv_at hl 1 rfl) ?_
  refine lv_if_lt (tgt := 17) hx hb dX12_broken_6 (by decide) (fun c2 => ?_) (fun c2 => ?_)
  · have hF := brT hF c2
    refine lv_iconst (v := (-1 : Int32)) hx hb dX12_broken_17 (by decide) ?_
    exact wi_iret hx hb hr hlk hK hP hD hS dX12_broken_18 hF
  · have hF := brF hF c2
    refine lv_iload_n hx hb dX12_broken_9 rfl (lv_at hl 1 rfl) ?_
    refine lv_aload_n hx hb dX12_broken_10 rfl (lv_at hl 0 rfl) ?_
    refine wi_geti hx hb hg hown hK hP 0 11 rfl rfl cb_12 (by decide) kw_659 dX12_broken_11 ?_
    refine lv_icmp_lt (tgt := 19) hx hb dX12_broken_14 (by decide) (fun c3 => ?_) (fun c3 => ?_)
    · have hF := brT hF c3
      refine lv_iconst (v := (0 : Int32)) hx hb dX12_broken_19 (by decide) ?_
      refine lv_istore_n (lv' := [(2, .int (0 : Int32)), (0, .ref (ad 0)), (1, .int a1)]) hx hb dX12_broken_20 rfl hl (by decide) rfl (fun ls hl => ?_)
      refine jn_use hF (fun K => ∀ (H : Heap) (locs : List Loc) (ls : Array Slot), K → va_P D vwCl (wld cy ad dsM σ1) H → va_D A (wld cy ad dsM σ1) → va_S A s.heap H locs → lv_has ls 3 [] → W p l e (rmO 2 48) s m args below meth c H locs 0 0 (MQ below (va_Qi post (cBk D cy ad dsM A) A) args s 0 0 A) (F0 m 76 ls [])) (fun H locs ls hF hP hD hS hl => ?_) (fun J4 hJ4 hF => ?_)
      · refine lv_bipush (v := (-2 : Int32)) hx hb dX12_broken_76 (by decide) ?_
        exact wi_iret hx hb hr hlk hK hP hD hS dX12_broken_78 hF
      · refine lpE1_use hF (fun (y5 : Int32) => ∀ (H : Heap) (locs : List Loc) (ls : Array Slot), va_P D vwCl (wld cy ad dsM σ1) H → va_D A (wld cy ad dsM σ1) → va_S A s.heap H locs → lv_has ls 3 [(0, .ref (ad 0)), (1, .int a1), (2, .int y5)] → W p l e (rmO 2 48) s m args below meth c H locs 0 0 (MQ below (va_Qi post (cBk D cy ad dsM A) A) args s 0 0 A) (F0 m 21 ls [])) (fun rec6 hrec6 y5 hF H locs ls hP hD hS hl => ?_) H locs ls hP hD hS (lv_sub hl [1, 2, 0] rfl)
        refine lv_iload_n hx hb dX12_broken_21 rfl (lv_at hl 2 rfl) ?_
        refine lv_aload_n hx hb dX12_broken_22 rfl (lv_at hl 0 rfl) ?_
        refine wi_geti hx hb hg hown hK hP 0 15 rfl rfl cb_12 (by decide) kw_573 dX12_broken_23 ?_
        refine lv_icmp_gt (tgt := 76) hx hb dX12_broken_26 (by decide) (fun c7 => ?_) (fun c7 => ?_)
        · have hF := brT hF c7
          exact hJ4  H locs ls hF hP hD hS (lv_sub hl [] rfl)
        · have hF := brF hF c7
          refine lv_aload_n hx hb dX12_broken_29 rfl (lv_at hl 0 rfl) ?_
          refine lv_iload_n hx hb dX12_broken_30 rfl (lv_at hl 1 rfl) ?_
          refine lv_iload_n hx hb dX12_broken_31 rfl (lv_at hl 2 rfl) ?_
          refine jn_use hF (fun K => ∀ (y9 : Int32) (H : Heap) (locs : List Loc) (ls : Array Slot), K y9 → va_P D vwCl (wld cy ad dsM σ1) H → va_D A (wld cy ad dsM σ1) → va_S A s.heap H locs → lv_has ls 3 [(0, .ref (ad 0)), (1, .int a1), (2, .int y5)] → W p l e (rmO 2 48) s m args below meth c H locs 0 0 (MQ below (va_Qi post (cBk D cy ad dsM A) A) args s 0 0 A) (F0 m 47 ls [.int y9, .int a1, .ref (ad 0)])) (fun y9 H locs ls hF hP hD hS hl => ?_) (fun J8 hJ8 hF => ?_)
          · refine lv_aload_n hx hb dX12_broken_47 rfl (lv_at hl 0 rfl) ?_
            refine wi_getr hx hb hg hown hK hP 0 16 12 rfl rfl cb_12 (by decide) kw_575 dX12_broken_48 ?_
            refine lv_iload_n hx hb dX12_broken_51 rfl (lv_at hl 2 rfl) ?_
            obtain ⟨hin, hF⟩ := hF
            refine wi_iald hx hb hK hP 12 rfl hin dX12_broken_52 (fun v10 ev10 => ?_)
            have hF := hF v10 ev10
            refine lv_iload_n hx hb dX12_broken_53 rfl (lv_at hl 2 rfl) ?_
            refine jn_use hF (fun K => ∀ (y12 : Int32) (H : Heap) (locs : List Loc) (ls : Array Slot), K y12 → va_P D vwCl (wld cy ad dsM σ1) H → va_D A (wld cy ad dsM σ1) → va_S A s.heap H locs → lv_has ls 3 [(0, .ref (ad 0)), (1, .int a1), (2, .int y5)] → W p l e (rmO 2 48) s m args below meth c H locs 0 0 (MQ below (va_Qi post (cBk D cy ad dsM A) A) args s 0 0 A) (F0 m 62 ls [.int y12, .int v10, .int y9, .int a1, .ref (ad 0)])) (fun y12 H locs ls hF hP hD hS hl => ?_) (fun J11 hJ11 hF => ?_)
            · refine wi_callVi (k := 0) (As := [.int a1, .int y9, .int v10, .int y12]) (c_X12_isKept l D cy ad tL σ1 a1 y9 v10 y12 _ hF) vw_RX12_229 rfl cb_12 hx hb hml hown hg hK hP hD hS hA hLB rfl ⟨Nat.le_of_ble_eq_true rfl, Nat.le_of_ble_eq_true rfl⟩ hl.1 rfl (Nat.le_of_ble_eq_true rfl) dX12_broken_62 (fun r13 σ14 hw H locs hP hD hS => ?_)
              obtain ⟨hF, rfl⟩ := hw
              refine lv_if_ne (tgt := 70) hx hb dX12_broken_65 (by decide) (fun c15 => ?_) (fun c15 => ?_)
              · have hF := brF hF c15
                obtain ⟨x16, ex16⟩ : ∃ z : Int32, z = (y5 + (1 : Int32)) := ⟨_, rfl⟩
                have hF := hF x16 ex16
                refine lv_iinc (v := x16) (lv' := [(2, .int x16), (0, .ref (ad 0)), (1, .int a1)]) hx hb dX12_broken_70 hl (k := 2) rfl (by rw [ex16]; rfl) (by decide) rfl (fun ls hl => ?_)
                refine lv_goto (tgt := 21) hx hb dX12_broken_73 (by decide) ?_
                exact hrec6 x16 hF H locs ls hP hD hS (lv_sub hl [1, 2, 0] rfl)
              · have hF := brT hF c15
                refine lv_iload_n hx hb dX12_broken_68 rfl (lv_at hl 2 rfl) ?_
                exact wi_iret hx hb hr hlk hK hP hD hS dX12_broken_69 hF
            · refine lv_if_ne (tgt := 61) hx hb dX12_broken_54 (by decide) (fun c17 => ?_) (fun c17 => ?_)
              · have hF := brF hF c17
                refine lv_iconst (v := (0 : Int32)) hx hb dX12_broken_61 (by decide) ?_
                exact hJ11 (0 : Int32) H locs ls hF hP hD hS (lv_sub hl [0, 1, 2] rfl)
              · have hF := brT hF c17
                refine lv_iconst (v := (1 : Int32)) hx hb dX12_broken_57 (by decide) ?_
                refine lv_goto (tgt := 62) hx hb dX12_broken_58 (by decide) ?_
                exact hJ11 (1 : Int32) H locs ls hF hP hD hS (lv_sub hl [0, 1, 2] rfl)
          · refine lv_if_ne (tgt := 39) hx hb dX12_broken_32 (by decide) (fun c18 => ?_) (fun c18 => ?_)
            · have hF := brF hF c18
              refine lv_aload_n hx hb dX12_broken_39 rfl (lv_at hl 0 rfl) ?_
              refine wi_getr hx hb hg hown hK hP 0 16 12 rfl rfl cb_12 (by decide) kw_575 dX12_broken_40 ?_
              refine lv_iload_n hx hb dX12_broken_43 rfl (lv_at hl 2 rfl) ?_
              refine lv_iconst (v := (1 : Int32)) hx hb dX12_broken_44 (by decide) ?_
              refine lv_isub hx hb dX12_broken_45 ?_
              obtain ⟨hin, hF⟩ := hF
              refine wi_iald hx hb hK hP 12 rfl hin dX12_broken_46 (fun v19 ev19 => ?_)
              have hF := hF v19 ev19
              exact hJ8 v19 H locs ls hF hP hD hS (lv_sub hl [0, 1, 2] rfl)
            · have hF := brT hF c18
              refine lv_iconst (v := (0 : Int32)) hx hb dX12_broken_35 (by decide) ?_
              refine lv_goto (tgt := 47) hx hb dX12_broken_36 (by decide) ?_
              exact hJ8 (0 : Int32) H locs ls hF hP hD hS (lv_sub hl [0, 1, 2] rfl)
    · have hF := brF hF c3
      refine lv_iconst (v := (-1 : Int32)) hx hb dX12_broken_17 (by decide) ?_
      exact wi_iret hx hb hr hlk hK hP hD hS dX12_broken_18 hF
