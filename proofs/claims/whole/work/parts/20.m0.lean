def w_X12_thrown (σ : St) (post : Int32 → Prop) : Prop := post (σ.1 0 0)
set_option maxHeartbeats 4000000 in
set_option maxRecDepth 100000 in
theorem c_X12_thrown (l : Launch) (D : va_G) (cy : Nat → ClassId) (ad : Nat → Nat) (tL : Nat) (σ : St) (post : Int32 → Prop) (hF : w_X12_thrown σ post) : Cti l yX12_thrown cX12_thrown 1 (some .int) 0 0 D cy ad tL dsM σ [.ref (ad 0)] (fun r u => post r ∧ σ = u) := by
  refine cti_of (by decide) (Nat.le_of_ble_eq_true rfl) ?_
  intro p e s m args below meth c A hx hb hml hr hlk hg hown hA hK H locs hP hD hS hLB ls hl
  have hown : s.vm.findClass RX12 = some m.cls := hown
  have hl : lv_has ls 1 [(0, .ref (ad 0))] := hl
  refine lv_aload_n hx hb dX12_thrown_0 rfl (lv_at hl 0 rfl) ?_
  refine wi_geti hx hb hg hown hK hP 0 0 rfl rfl cb_12 (by decide) kw_615 dX12_thrown_1 ?_
  exact wi_iret hx hb hr hlk hK hP hD hS dX12_thrown_4 ⟨hF, rfl⟩
def w_X12_isIn (a1 : Int64) (a2 : Int64) (a3 : Int64) (post : Int32 → Prop) : Prop := br ((lg_cmp a1 a2) < (0 : Int32)) (post (0 : Int32)) (br ((0 : Int32) < (lg_cmp a1 a3)) (post (0 : Int32)) (post (1 : Int32)))
set_option maxHeartbeats 4000000 in
set_option maxRecDepth 100000 in
theorem c_X12_isIn (l : Launch) (D : va_G) (cy : Nat → ClassId) (ad : Nat → Nat) (tL : Nat) (σ : St) (a1 : Int64) (a2 : Int64) (a3 : Int64) (post : Int32 → Prop) (hF : w_X12_isIn a1 a2 a3 post) : Cti l yX12_isIn cX12_isIn 6 (some .boolean) 0 0 D cy ad tL dsM σ [.long a1, .long a2, .long a3] (fun r u => post r ∧ σ = u) := by
  refine cti_of (by decide) (Nat.le_of_ble_eq_true rfl) ?_
  intro p e s m args below meth c A hx hb hml hr hlk hg hown hA hK H locs hP hD hS hLB ls hl
  have hown : s.vm.findClass RX12 = some m.cls := hown
  have hl : lv_has ls 6 [(0, .long a1), (2, .long a2), (4, .long a3)] := hl
  refine lv_lload_n hx hb dX12_isIn_0 rfl (lv_at hl 0 rfl) ?_
  refine lv_lload_n hx hb dX12_isIn_1 rfl (lv_at hl 1 rfl) ?_
  refine W.lcmp hx hb dX12_isIn_2 ?_
  refine lv_if_lt (tgt := 17) hx hb dX12_isIn_3 (by decide) (fun c1 => ?_) (fun c1 => ?_)
  · have hF := brT hF c1
    refine lv_iconst (v := (0 : Int32)) hx hb dX12_isIn_17 (by decide) ?_
    exact wi_zret hx hb hr hlk hK hP hD hS dX12_isIn_18 (by decide) ⟨hF, rfl⟩
  · have hF := brF hF c1
    refine lv_lload_n hx hb dX12_isIn_6 rfl (lv_at hl 0 rfl) ?_
    refine lv_lload hx hb dX12_isIn_7 (lv_at hl 2 rfl) ?_
    refine W.lcmp hx hb dX12_isIn_9 ?_
    refine lv_if_gt (tgt := 17) hx hb dX12_isIn_10 (by decide) (fun c2 => ?_) (fun c2 => ?_)
    · have hF := brT hF c2
      refine lv_iconst (v := (0 : Int32)) hx hb dX12_isIn_17 (by decide) ?_
      exact wi_zret hx hb hr hlk hK hP hD hS dX12_isIn_18 (by decide) ⟨hF, rfl⟩
    · have hF := brF hF c2
      refine lv_iconst (v := (1 : Int32)) hx hb dX12_isIn_13 (by decide) ?_
      refine lv_goto (tgt := 18) hx hb dX12_isIn_14 (by decide) ?_
      exact wi_zret hx hb hr hlk hK hP hD hS dX12_isIn_18 (by decide) ⟨hF, rfl⟩
def w_X12_isCell (σ : St) (a1 : Int32) (post : Int32 → Prop) : Prop := br (a1 < (0 : Int32)) (post (0 : Int32)) (br ((σ.1 0 1) ≤ a1) (post (0 : Int32)) (post (1 : Int32)))
set_option maxHeartbeats 4000000 in
set_option maxRecDepth 100000 in
theorem c_X12_isCell (l : Launch) (D : va_G) (cy : Nat → ClassId) (ad : Nat → Nat) (tL : Nat) (σ : St) (a1 : Int32) (post : Int32 → Prop) (hF : w_X12_isCell σ a1 post) : Cti l yX12_isCell cX12_isCell 2 (some .boolean) 0 0 D cy ad tL dsM σ [.ref (ad 0), .int a1] (fun r u => post r ∧ σ = u) := by
  refine cti_of (by decide) (Nat.le_of_ble_eq_true rfl) ?_
  intro p e s m args below meth c A hx hb hml hr hlk hg hown hA hK H locs hP hD hS hLB ls hl
  have hown : s.vm.findClass RX12 = some m.cls := hown
  have hl : lv_has ls 2 [(0, .ref (ad 0)), (1, .int a1)] := hl
  refine lv_iload_n hx hb dX12_isCell_0 rfl (lv_at hl 1 rfl) ?_
  refine lv_if_lt (tgt := 16) hx hb dX12_isCell_1 (by decide) (fun c1 => ?_) (fun c1 => ?_)
  · have hF := brT hF c1
    refine lv_iconst (v := (0 : Int32)) hx hb dX12_isCell_16 (by decide) ?_
    exact wi_zret hx hb hr hlk hK hP hD hS dX12_isCell_17 (by decide) ⟨hF, rfl⟩
  · have hF := brF hF c1
    refine lv_iload_n hx hb dX12_isCell_4 rfl (lv_at hl 1 rfl) ?_
    refine lv_aload_n hx hb dX12_isCell_5 rfl (lv_at hl 0 rfl) ?_
    refine wi_geti hx hb hg hown hK hP 0 1 rfl rfl cb_12 (by decide) kw_559 dX12_isCell_6 ?_
    refine lv_icmp_ge (tgt := 16) hx hb dX12_isCell_9 (by decide) (fun c2 => ?_) (fun c2 => ?_)
    · have hF := brT hF c2
      refine lv_iconst (v := (0 : Int32)) hx hb dX12_isCell_16 (by decide) ?_
      exact wi_zret hx hb hr hlk hK hP hD hS dX12_isCell_17 (by decide) ⟨hF, rfl⟩
    · have hF := brF hF c2
      refine lv_iconst (v := (1 : Int32)) hx hb dX12_isCell_12 (by decide) ?_
      refine lv_goto (tgt := 17) hx hb dX12_isCell_13 (by decide) ?_
      exact wi_zret hx hb hr hlk hK hP hD hS dX12_isCell_17 (by decide) ⟨hF, rfl⟩
def w_X12_isBit (σ : St) (a1 : Int32) (post : Int32 → Prop) : Prop := w_X12_isCell σ a1 (fun r1 => br (r1 = (0 : Int32)) (post (0 : Int32)) (rd (σ.1 1) 24 a1 (fun v4 => br (v4 ≤ (4 : Int32)) (post (0 : Int32)) (post (1 : Int32)))))
set_option maxHeartbeats 4000000 in
set_option maxRecDepth 100000 in
theorem c_X12_isBit (l : Launch) (D : va_G) (cy : Nat → ClassId) (ad : Nat → Nat) (tL : Nat) (σ : St) (a1 : Int32) (post : Int32 → Prop) (hF : w_X12_isBit σ a1 post) : Cti l yX12_isBit cX12_isBit 2 (some .boolean) 1 21 D cy ad tL dsM σ [.ref (ad 0), .int a1] (fun r u => post r ∧ σ = u) := by
  refine cti_of (by decide) (Nat.le_of_ble_eq_true rfl) ?_
  intro p e s m args below meth c A hx hb hml hr hlk hg hown hA hK H locs hP hD hS hLB ls hl
  have hown : s.vm.findClass RX12 = some m.cls := hown
  have hl : lv_has ls 2 [(0, .ref (ad 0)), (1, .int a1)] := hl
  refine lv_aload_n hx hb dX12_isBit_0 rfl (lv_at hl 0 rfl) ?_
  refine lv_iload_n hx hb dX12_isBit_1 rfl (lv_at hl 1 rfl) ?_
  refine wi_callVi (k := 0) (As := [.int a1]) (c_X12_isCell l D cy ad tL σ a1 _ hF) vw_RX12_129 rfl cb_12 hx hb hml hown hg hK hP hD hS hA hLB rfl ⟨Nat.le_of_ble_eq_true rfl, Nat.le_of_ble_eq_true rfl⟩ hl.1 rfl (Nat.le_of_ble_eq_true rfl) dX12_isBit_2 (fun r1 σ2 hw H locs hP hD hS => ?_)
  obtain ⟨hF, rfl⟩ := hw
  refine lv_if_eq (tgt := 22) hx hb dX12_isBit_5 (by decide) (fun c3 => ?_) (fun c3 => ?_)
  · have hF := brT hF c3
    refine lv_iconst (v := (0 : Int32)) hx hb dX12_isBit_22 (by decide) ?_
    exact wi_zret hx hb hr hlk hK hP hD hS dX12_isBit_23 (by decide) ⟨hF, rfl⟩
  · have hF := brF hF c3
    refine lv_aload_n hx hb dX12_isBit_8 rfl (lv_at hl 0 rfl) ?_
    refine wi_getr hx hb hg hown hK hP 0 3 1 rfl rfl cb_12 (by decide) kw_560 dX12_isBit_9 ?_
    refine lv_iload_n hx hb dX12_isBit_12 rfl (lv_at hl 1 rfl) ?_
    obtain ⟨hin, hF⟩ := hF
    refine wi_iald hx hb hK hP 1 rfl hin dX12_isBit_13 (fun v4 ev4 => ?_)
    have hF := hF v4 ev4
    refine lv_iconst (v := (4 : Int32)) hx hb dX12_isBit_14 (by decide) ?_
    refine lv_icmp_le (tgt := 22) hx hb dX12_isBit_15 (by decide) (fun c5 => ?_) (fun c5 => ?_)
    · have hF := brT hF c5
      refine lv_iconst (v := (0 : Int32)) hx hb dX12_isBit_22 (by decide) ?_
      exact wi_zret hx hb hr hlk hK hP hD hS dX12_isBit_23 (by decide) ⟨hF, rfl⟩
    · have hF := brF hF c5
      refine lv_iconst (v := (1 : Int32)) hx hb dX12_isBit_18 (by decide) ?_
      refine lv_goto (tgt := 23) hx hb dX12_isBit_19 (by decide) ?_
      exact wi_zret hx hb hr hlk hK hP hD hS dX12_isBit_23 (by decide) ⟨hF, rfl⟩
def w_X12_isKeeper (σ : St) (a1 : Int32) (post : Int32 → Prop) : Prop := w_X12_isCell σ a1 (fun r1 => br (r1 = (0 : Int32)) (post (0 : Int32)) (rd (σ.1 1) 24 a1 (fun v4 => br (v4 = (6 : Int32)) (post (1 : Int32)) (post (0 : Int32)))))
set_option maxHeartbeats 4000000 in
set_option maxRecDepth 100000 in
theorem c_X12_isKeeper (l : Launch) (D : va_G) (cy : Nat → ClassId) (ad : Nat → Nat) (tL : Nat) (σ : St) (a1 : Int32) (post : Int32 → Prop) (hF : w_X12_isKeeper σ a1 post) : Cti l yX12_isKeeper cX12_isKeeper 2 (some .boolean) 1 21 D cy ad tL dsM σ [.ref (ad 0), .int a1] (fun r u => post r ∧ σ = u) := by
  refine cti_of (by decide) (Nat.le_of_ble_eq_true rfl) ?_
  intro p e s m args below meth c A hx hb hml hr hlk hg hown hA hK H locs hP hD hS hLB ls hl
  have hown : s.vm.findClass RX12 = some m.cls := hown
  have hl : lv_has ls 2 [(0, .ref (ad 0)), (1, .int a1)] := hl
  refine lv_aload_n hx hb dX12_isKeeper_0 rfl (lv_at hl 0 rfl) ?_
  refine lv_iload_n hx hb dX12_isKeeper_1 rfl (lv_at hl 1 rfl) ?_
  refine wi_callVi (k := 0) (As := [.int a1]) (c_X12_isCell l D cy ad tL σ a1 _ hF) vw_RX12_129 rfl cb_12 hx hb hml hown hg hK hP hD hS hA hLB rfl ⟨Nat.le_of_ble_eq_true rfl, Nat.le_of_ble_eq_true rfl⟩ hl.1 rfl (Nat.le_of_ble_eq_true rfl) dX12_isKeeper_2 (fun r1 σ2 hw H locs hP hD hS => ?_)
  obtain ⟨hF, rfl⟩ := hw
  refine lv_if_eq (tgt := 23) hx hb dX12_isKeeper_5 (by decide) (fun c3 => ?_) (fun c3 => ?_)
  · have hF := brT hF c3
    refine lv_iconst (v := (0 : Int32)) hx hb dX12_isKeeper_23 (by decide) ?_
    exact wi_zret hx hb hr hlk hK hP hD hS dX12_isKeeper_24 (by decide) ⟨hF, rfl⟩
  · have hF := brF hF c3
    refine lv_aload_n hx hb dX12_isKeeper_8 rfl (lv_at hl 0 rfl) ?_
    refine wi_getr hx hb hg hown hK hP 0 3 1 rfl rfl cb_12 (by decide) kw_560 dX12_isKeeper_9 ?_
    refine lv_iload_n hx hb dX12_isKeeper_12 rfl (lv_at hl 1 rfl) ?_
    obtain ⟨hin, hF⟩ := hF
    refine wi_iald hx hb hK hP 1 rfl hin dX12_isKeeper_13 (fun v4 ev4 => ?_)
    have hF := hF v4 ev4
    refine lv_bipush (v := (6 : Int32)) hx hb dX12_isKeeper_14 (by decide) ?_
    refine lv_icmp_ne (tgt := 23) hx hb dX12_isKeeper_16 (by decide) (fun c5 => ?_) (fun c5 => ?_)
    · have hF := brF hF c5
      refine lv_iconst (v := (0 : Int32)) hx hb dX12_isKeeper_23 (by decide) ?_
      exact wi_zret hx hb hr hlk hK hP hD hS dX12_isKeeper_24 (by decide) ⟨hF, rfl⟩
    · have hF := brT hF c5
      refine lv_iconst (v := (1 : Int32)) hx hb dX12_isKeeper_19 (by decide) ?_
      refine lv_goto (tgt := 24) hx hb dX12_isKeeper_20 (by decide) ?_
      exact wi_zret hx hb hr hlk hK hP hD hS dX12_isKeeper_24 (by decide) ⟨hF, rfl⟩
def w_X12_bitOf (a1 : Int32) (a2 : Int32) (post : Int32 → Prop) : Prop := post ((a1 >>> (a2 &&& 31)) &&& (1 : Int32))
set_option maxHeartbeats 4000000 in
set_option maxRecDepth 100000 in
theorem c_X12_bitOf (l : Launch) (D : va_G) (cy : Nat → ClassId) (ad : Nat → Nat) (tL : Nat) (σ : St) (a1 : Int32) (a2 : Int32) (post : Int32 → Prop) (hF : w_X12_bitOf a1 a2 post) : Cti l yX12_bitOf cX12_bitOf 2 (some .int) 0 0 D cy ad tL dsM σ [.int a1, .int a2] (fun r u => post r ∧ σ = u) := by
  refine cti_of (by decide) (Nat.le_of_ble_eq_true rfl) ?_
  intro p e s m args below meth c A hx hb hml hr hlk hg hown hA hK H locs hP hD hS hLB ls hl
  have hown : s.vm.findClass RX12 = some m.cls := hown
  have hl : lv_has ls 2 [(0, .int a1), (1, .int a2)] := hl
  refine lv_iload_n hx hb dX12_bitOf_0 rfl (lv_at hl 0 rfl) ?_
  refine lv_iload_n hx hb dX12_bitOf_1 rfl (lv_at hl 1 rfl) ?_
  refine lv_ishr hx hb dX12_bitOf_2 ?_
  refine lv_iconst (v := (1 : Int32)) hx hb dX12_bitOf_3 (by decide) ?_
  refine lv_iand hx hb dX12_bitOf_4 ?_
  exact wi_iret hx hb hr hlk hK hP hD hS dX12_bitOf_5 ⟨hF, rfl⟩
def w_X12_settle_L4 (σ : St) (J1 : Int32 → Prop) (rec5 : Int32 → Int32 → Prop) (y3 : Int32) (y4 : Int32) : Prop := br ((σ.1 0 1) ≤ y4) (J1 y3) (rd (σ.1 1) 24 y4 (fun v7 => br (v7 ≤ (4 : Int32)) (rd (σ.1 4) 24 y4 (fun v9 => w_X12_bitOf y3 v9 (fun r10 => rd (σ.1 1) 24 y4 (fun v12 => jn (α := Int32 → Prop) (fun (y14 : Int32) => rd (σ.1 1) 24 y4 (fun v15 => jn (α := Int32 → Prop) (fun (y17 : Int32) => nm ((y3 &&& (((1 : Int32) <<< (y4 &&& 31)) ^^^ (-1 : Int32))) ||| (y17 <<< (y4 &&& 31))) (fun x18 => nm (y4 + (1 : Int32)) (fun x19 => rec5 x18 x19))) (fun J16 => br (v15 = (0 : Int32)) (nm (r10 &&& y14) (fun x21 => J16 x21)) (br (v15 = (1 : Int32)) (nm (r10 ||| y14) (fun x23 => J16 x23)) (br (v15 = (2 : Int32)) (nm (r10 ^^^ y14) (fun x25 => J16 x25)) (br (v15 = (3 : Int32)) (nm ((1 : Int32) - r10) (fun x27 => J16 x27)) (jn (α := Int32 → Prop) (fun (y29 : Int32) => J16 y29) (fun J28 => br (r10 = (1 : Int32)) (J28 y14) (rd (σ.1 6) 24 y4 (fun v31 => w_X12_bitOf y3 v31 (fun r32 => J28 r32))))))))))) (fun J13 => br (v12 = (3 : Int32)) (J13 (0 : Int32)) (rd (σ.1 5) 24 y4 (fun v35 => w_X12_bitOf y3 v35 (fun r36 => J13 r36)))))))) (nm (y4 + (1 : Int32)) (fun x38 => rec5 y3 x38))))
def w_X12_settle (σ : St) (a1 : Int32) (post : Int32 → Prop) : Prop := jn (α := Int32 → Prop) (fun (y2 : Int32) => post y2) (fun J1 => lpE2 (w_X12_settle_L4 σ J1) a1 (0 : Int32))
set_option maxHeartbeats 4000000 in
set_option maxRecDepth 100000 in
theorem c_X12_settle (l : Launch) (D : va_G) (cy : Nat → ClassId) (ad : Nat → Nat) (tL : Nat) (σ : St) (a1 : Int32) (post : Int32 → Prop) (hF : w_X12_settle σ a1 post) : Cti l yX12_settle cX12_settle 7 (some .int) 1 21 D cy ad tL dsM σ [.ref (ad 0), .int a1] (fun r u => post r ∧ σ = u) := by
  refine cti_of (by decide) (Nat.le_of_ble_eq_true rfl) ?_
  intro p e s m args below meth c A hx hb hml hr hlk hg hown hA hK H locs hP hD hS hLB ls hl
  have hown : s.vm.findClass RX12 = some m.cls := hown
  have hl : lv_has ls 7 [(0, .ref (ad 0)), (1, .int a1)] := hl
  refine lv_iload_n hx hb dX12_settle_0 rfl (lv_at hl 1 rfl) ?_
  refine lv_istore_n (lv' := [(2, .int a1), (0, .ref (ad 0)), (1, .int a1)]) hx hb dX12_settle_1 rfl hl (by decide) rfl (fun ls hl => ?_)
  refine lv_iconst (v := (0 : Int32)) hx hb dX12_settle_2 (by decide) ?_
  refine lv_istore_n (lv' := [(3, .int (0 : Int32)), (2, .int a1), (0, .ref (ad 0)), (1, .int a1)]) hx hb dX12_settle_3 rfl hl (by decide) rfl (fun ls hl => ?_)
  refine jn_use hF (fun K => ∀ (y2 : Int32) (H : Heap) (locs : List Loc) (ls : Array Slot), K y2 → va_P D vwCl (wld cy ad dsM σ) H → va_D A (wld cy ad dsM σ) → va_S A s.heap H locs → lv_has ls 7 [(2, .int y2)] → W p l e (rmO 1 21) s m args below meth c H locs 0 0 (MQ below (va_Qi (fun r u => post r ∧ σ = u) (cBk D cy ad dsM A) A) args s 0 0 A) (F0 m 181 ls [])) (fun y2 H locs ls hF hP hD hS hl => ?_) (fun J1 hJ1 hF => ?_)
  · refine lv_iload_n hx hb dX12_settle_181 rfl (lv_at hl 0 rfl) ?_
    exact wi_iret hx hb hr hlk hK hP hD hS dX12_settle_182 ⟨hF, rfl⟩
  · refine lpE2_use hF (fun (y3 : Int32) (y4 : Int32) => ∀ (H : Heap) (locs : List Loc) (ls : Array Slot), va_P D vwCl (wld cy ad dsM σ) H → va_D A (wld cy ad dsM σ) → va_S A s.heap H locs → lv_has ls 7 [(0, .ref (ad 0)), (2, .int y3), (3, .int y4)] → W p l e (rmO 1 21) s m args below meth c H locs 0 0 (MQ below (va_Qi (fun r u => post r ∧ σ = u) (cBk D cy ad dsM A) A) args s 0 0 A) (F0 m 4 ls [])) (fun rec5 hrec5 y3 y4 hF H locs ls hP hD hS hl => ?_) H locs ls hP hD hS (lv_sub hl [2, 1, 0] rfl)
    refine lv_iload_n hx hb dX12_settle_4 rfl (lv_at hl 2 rfl) ?_
    refine lv_aload_n hx hb dX12_settle_5 rfl (lv_at hl 0 rfl) ?_
    refine wi_geti hx hb hg hown hK hP 0 1 rfl rfl cb_12 (by decide) kw_559 dX12_settle_6 ?_
    refine lv_icmp_ge (tgt := 181) hx hb dX12_settle_9 (by decide) (fun c6 => ?_) (fun c6 => ?_)
    · have hF := brT hF c6
      exact hJ1 y3 H locs ls hF hP hD hS (lv_sub hl [1] rfl)
    · have hF := brF hF c6
      refine lv_aload_n hx hb dX12_settle_12 rfl (lv_at hl 0 rfl) ?_
      refine wi_getr hx hb hg hown hK hP 0 3 1 rfl rfl cb_12 (by decide) kw_560 dX12_settle_13 ?_
      refine lv_iload_n hx hb dX12_settle_16 rfl (lv_at hl 2 rfl) ?_
      obtain ⟨hin, hF⟩ := hF
      refine wi_iald hx hb hK hP 1 rfl hin dX12_settle_17 (fun v7 ev7 => ?_)
      have hF := hF v7 ev7
      refine lv_iconst (v := (4 : Int32)) hx hb dX12_settle_18 (by decide) ?_
      refine lv_icmp_le (tgt := 25) hx hb dX12_settle_19 (by decide) (fun c8 => ?_) (fun c8 => ?_)
      · have hF := brT hF c8
        refine lv_iload_n hx hb dX12_settle_25 rfl (lv_at hl 1 rfl) ?_
        refine lv_aload_n hx hb dX12_settle_26 rfl (lv_at hl 0 rfl) ?_
        refine wi_getr hx hb hg hown hK hP 0 6 4 rfl rfl cb_12 (by decide) kw_561 dX12_settle_27 ?_
        refine lv_iload_n hx hb dX12_settle_30 rfl (lv_at hl 2 rfl) ?_
        obtain ⟨hin, hF⟩ := hF
        refine wi_iald hx hb hK hP 4 rfl hin dX12_settle_31 (fun v9 ev9 => ?_)
        have hF := hF v9 ev9
        refine wi_callSi (As := [.int y3, .int v9]) (c_X12_bitOf l D cy ad tL σ y3 v9 _ hF) sw_RX12_133 hx hb hml hown hg hK hP hD hS hA hLB rfl ⟨Nat.le_of_ble_eq_true rfl, Nat.le_of_ble_eq_true rfl⟩ hl.1 rfl (Nat.le_of_ble_eq_true rfl) dX12_settle_32 (fun r10 σ11 hw H locs hP hD hS => ?_)
        obtain ⟨hF, rfl⟩ := hw
        refine lv_istore (lv' := [(4, .int r10), (0, .ref (ad 0)), (2, .int y3), (3, .int y4)]) hx hb dX12_settle_35 hl (by decide) rfl (fun ls hl => ?_)
        refine lv_aload_n hx hb dX12_settle_37 rfl (lv_at hl 1 rfl) ?_
        refine wi_getr hx hb hg hown hK hP 0 3 1 rfl rfl cb_12 (by decide) kw_560 dX12_settle_38 ?_
        refine lv_iload_n hx hb dX12_settle_41 rfl (lv_at hl 3 rfl) ?_
        obtain ⟨hin, hF⟩ := hF
        refine wi_iald hx hb hK hP 1 rfl hin dX12_settle_42 (fun v12 ev12 => ?_)
        have hF := hF v12 ev12
        refine lv_iconst (v := (3 : Int32)) hx hb dX12_settle_43 (by decide) ?_
        refine jn_use hF (fun K => ∀ (y14 : Int32) (H : Heap) (locs : List Loc) (ls : Array Slot), K y14 → va_P D vwCl (wld cy ad dsM σ) H → va_D A (wld cy ad dsM σ) → va_S A s.heap H locs → lv_has ls 7 [(0, .ref (ad 0)), (2, .int y3), (3, .int y4), (4, .int r10)] → W p l e (rmO 1 21) s m args below meth c H locs 0 0 (MQ below (va_Qi (fun r u => post r ∧ σ = u) (cBk D cy ad dsM A) A) args s 0 0 A) (F0 m 61 ls [.int y14])) (fun y14 H locs ls hF hP hD hS hl => ?_) (fun J13 hJ13 hF => ?_)
        · refine lv_istore (lv' := [(5, .int y14), (0, .ref (ad 0)), (2, .int y3), (3, .int y4), (4, .int r10)]) hx hb dX12_settle_61 hl (by decide) rfl (fun ls hl => ?_)
          refine lv_aload_n hx hb dX12_settle_63 rfl (lv_at hl 1 rfl) ?_
          refine wi_getr hx hb hg hown hK hP 0 3 1 rfl rfl cb_12 (by decide) kw_560 dX12_settle_64 ?_
          refine lv_iload_n hx hb dX12_settle_67 rfl (lv_at hl 3 rfl) ?_
          obtain ⟨hin, hF⟩ := hF
          refine wi_iald hx hb hK hP 1 rfl hin dX12_settle_68 (fun v15 ev15 => ?_)
          have hF := hF v15 ev15
          refine jn_use hF (fun K => ∀ (y17 : Int32) (H : Heap) (locs : List Loc) (ls : Array Slot), K y17 → va_P D vwCl (wld cy ad dsM σ) H → va_D A (wld cy ad dsM σ) → va_S A s.heap H locs → lv_has ls 7 [(0, .ref (ad 0)), (2, .int y3), (3, .int y4), (6, .int y17)] → W p l e (rmO 1 21) s m args below meth c H locs 0 0 (MQ below (va_Qi (fun r u => post r ∧ σ = u) (cBk D cy ad dsM A) A) args s 0 0 A) (F0 m 162 ls [])) (fun y17 H locs ls hF hP hD hS hl => ?_) (fun J16 hJ16 hF => ?_)
          · refine lv_iload_n hx hb dX12_settle_162 rfl (lv_at hl 1 rfl) ?_
            refine lv_iconst (v := (1 : Int32)) hx hb dX12_settle_163 (by decide) ?_
            refine lv_iload_n hx hb dX12_settle_164 rfl (lv_at hl 2 rfl) ?_
            refine lv_ishl hx hb dX12_settle_165 ?_
            refine lv_iconst (v := (-1 : Int32)) hx hb dX12_settle_166 (by decide) ?_
            refine lv_ixor hx hb dX12_settle_167 ?_
            refine lv_iand hx hb dX12_settle_168 ?_
            refine lv_iload hx hb dX12_settle_169 (lv_at hl 3 rfl) ?_
            refine lv_iload_n hx hb dX12_settle_171 rfl (lv_at hl 2 rfl) ?_
            refine lv_ishl hx hb dX12_settle_172 ?_
            refine lv_ior hx hb dX12_settle_173 ?_
            refine lv_topi (fun x18 ex18 => ?_)
            have hF := hF x18 ex18
            refine lv_istore_n (lv' := [(2, .int x18), (0, .ref (ad 0)), (3, .int y4), (6, .int y17)]) hx hb dX12_settle_174 rfl hl (by decide) rfl (fun ls hl => ?_)
            obtain ⟨x19, ex19⟩ : ∃ z : Int32, z = (y4 + (1 : Int32)) := ⟨_, rfl⟩
            have hF := hF x19 ex19
            refine lv_iinc (v := x19) (lv' := [(3, .int x19), (2, .int x18), (0, .ref (ad 0)), (6, .int y17)]) hx hb dX12_settle_175 hl (k := 2) rfl (by rw [ex19]; rfl) (by decide) rfl (fun ls hl => ?_)
            refine lv_goto (tgt := 4) hx hb dX12_settle_178 (by decide) ?_
            exact hrec5 x18 x19 hF H locs ls hP hD hS (lv_sub hl [2, 1, 0] rfl)
          · by_cases c20 : v15 = (0 : Int32)
            · have hF := brT hF c20
              refine lv_tableIn (off := 31) (tgt := 100) hx hb dX12_settle_69 (by rw [c20]; decide) (by rw [c20]; decide) (by rw [c20]; rfl) (by decide) ?_
              refine lv_iload hx hb dX12_settle_100 (lv_at hl 4 rfl) ?_
              refine lv_iload hx hb dX12_settle_102 (lv_at hl 0 rfl) ?_
              refine lv_iand hx hb dX12_settle_104 ?_
              refine lv_topi (fun x21 ex21 => ?_)
              have hF := hF x21 ex21
              refine lv_istore (lv' := [(6, .int x21), (5, .int y14), (0, .ref (ad 0)), (2, .int y3), (3, .int y4), (4, .int r10)]) hx hb dX12_settle_105 hl (by decide) rfl (fun ls hl => ?_)
              refine lv_goto (tgt := 162) hx hb dX12_settle_107 (by decide) ?_
              exact hJ16 x21 H locs ls hF hP hD hS (lv_sub hl [2, 3, 4, 0] rfl)
            · have hF := brF hF c20
              by_cases c22 : v15 = (1 : Int32)
              · have hF := brT hF c22
                refine lv_tableIn (off := 41) (tgt := 110) hx hb dX12_settle_69 (by rw [c22]; decide) (by rw [c22]; decide) (by rw [c22]; rfl) (by decide) ?_
                refine lv_iload hx hb dX12_settle_110 (lv_at hl 4 rfl) ?_
                refine lv_iload hx hb dX12_settle_112 (lv_at hl 0 rfl) ?_
                refine lv_ior hx hb dX12_settle_114 ?_
                refine lv_topi (fun x23 ex23 => ?_)
                have hF := hF x23 ex23
                refine lv_istore (lv' := [(6, .int x23), (5, .int y14), (0, .ref (ad 0)), (2, .int y3), (3, .int y4), (4, .int r10)]) hx hb dX12_settle_115 hl (by decide) rfl (fun ls hl => ?_)
                refine lv_goto (tgt := 162) hx hb dX12_settle_117 (by decide) ?_
                exact hJ16 x23 H locs ls hF hP hD hS (lv_sub hl [2, 3, 4, 0] rfl)
              · have hF := brF hF c22
                by_cases c24 : v15 = (2 : Int32)
                · have hF := brT hF c24
                  refine lv_tableIn (off := 51) (tgt := 120) hx hb dX12_settle_69 (by rw [c24]; decide) (by rw [c24]; decide) (by rw [c24]; rfl) (by decide) ?_
                  refine lv_iload hx hb dX12_settle_120 (lv_at hl 4 rfl) ?_
                  refine lv_iload hx hb dX12_settle_122 (lv_at hl 0 rfl) ?_
                  refine lv_ixor hx hb dX12_settle_124 ?_
                  refine lv_topi (fun x25 ex25 => ?_)
                  have hF := hF x25 ex25
                  refine lv_istore (lv' := [(6, .int x25), (5, .int y14), (0, .ref (ad 0)), (2, .int y3), (3, .int y4), (4, .int r10)]) hx hb dX12_settle_125 hl (by decide) rfl (fun ls hl => ?_)
                  refine lv_goto (tgt := 162) hx hb dX12_settle_127 (by decide) ?_
                  exact hJ16 x25 H locs ls hF hP hD hS (lv_sub hl [2, 3, 4, 0] rfl)
                · have hF := brF hF c24
                  by_cases c26 : v15 = (3 : Int32)
                  · have hF := brT hF c26
                    refine lv_tableIn (off := 61) (tgt := 130) hx hb dX12_settle_69 (by rw [c26]; decide) (by rw [c26]; decide) (by rw [c26]; rfl) (by decide) ?_
                    refine lv_iconst (v := (1 : Int32)) hx hb dX12_settle_130 (by decide) ?_
                    refine lv_iload hx hb dX12_settle_131 (lv_at hl 4 rfl) ?_
                    refine lv_isub hx hb dX12_settle_133 ?_
                    refine lv_topi (fun x27 ex27 => ?_)
                    have hF := hF x27 ex27
                    refine lv_istore (lv' := [(6, .int x27), (5, .int y14), (0, .ref (ad 0)), (2, .int y3), (3, .int y4), (4, .int r10)]) hx hb dX12_settle_134 hl (by decide) rfl (fun ls hl => ?_)
                    refine lv_goto (tgt := 162) hx hb dX12_settle_136 (by decide) ?_
                    exact hJ16 x27 H locs ls hF hP hD hS (lv_sub hl [2, 3, 4, 0] rfl)
                  · have hF := brF hF c26
                    have nc20 := lv_neT (a := 0) c20 (by decide)
                    have nc22 := lv_neT (a := 1) c22 (by decide)
                    have nc24 := lv_neT (a := 2) c24 (by decide)
                    have nc26 := lv_neT (a := 3) c26 (by decide)
                    refine lv_tableOut (tgt := 139) hx hb dX12_settle_69 (by omega) (by decide) ?_
                    refine lv_iload hx hb dX12_settle_139 (lv_at hl 4 rfl) ?_
                    refine lv_iconst (v := (1 : Int32)) hx hb dX12_settle_141 (by decide) ?_
                    refine jn_use hF (fun K => ∀ (y29 : Int32) (H : Heap) (locs : List Loc) (ls : Array Slot), K y29 → va_P D vwCl (wld cy ad dsM σ) H → va_D A (wld cy ad dsM σ) → va_S A s.heap H locs → lv_has ls 7 [(0, .ref (ad 0)), (2, .int y3), (3, .int y4)] → W p l e (rmO 1 21) s m args below meth c H locs 0 0 (MQ below (va_Qi (fun r u => post r ∧ σ = u) (cBk D cy ad dsM A) A) args s 0 0 A) (F0 m 160 ls [.int y29])) (fun y29 H locs ls hF hP hD hS hl => ?_) (fun J28 hJ28 hF => ?_)
                    · refine lv_istore (lv' := [(6, .int y29), (0, .ref (ad 0)), (2, .int y3), (3, .int y4)]) hx hb dX12_settle_160 hl (by decide) rfl (fun ls hl => ?_)
                      exact hJ16 y29 H locs ls hF hP hD hS (lv_sub hl [1, 2, 3, 0] rfl)
                    · refine lv_icmp_ne (tgt := 150) hx hb dX12_settle_142 (by decide) (fun c30 => ?_) (fun c30 => ?_)
                      · have hF := brF hF c30
                        refine lv_iload_n hx hb dX12_settle_150 rfl (lv_at hl 2 rfl) ?_
                        refine lv_aload_n hx hb dX12_settle_151 rfl (lv_at hl 1 rfl) ?_
                        refine wi_getr hx hb hg hown hK hP 0 8 6 rfl rfl cb_12 (by decide) kw_563 dX12_settle_152 ?_
                        refine lv_iload_n hx hb dX12_settle_155 rfl (lv_at hl 3 rfl) ?_
                        obtain ⟨hin, hF⟩ := hF
                        refine wi_iald hx hb hK hP 6 rfl hin dX12_settle_156 (fun v31 ev31 => ?_)
                        have hF := hF v31 ev31
                        refine wi_callSi (As := [.int y3, .int v31]) (c_X12_bitOf l D cy ad tL σ y3 v31 _ hF) sw_RX12_133 hx hb hml hown hg hK hP hD hS hA hLB rfl ⟨Nat.le_of_ble_eq_true rfl, Nat.le_of_ble_eq_true rfl⟩ hl.1 rfl (Nat.le_of_ble_eq_true rfl) dX12_settle_157 (fun r32 σ33 hw H locs hP hD hS => ?_)
                        obtain ⟨hF, rfl⟩ := hw
                        exact hJ28 r32 H locs ls hF hP hD hS (lv_sub hl [1, 2, 3] rfl)
                      · have hF := brT hF c30
                        refine lv_iload hx hb dX12_settle_145 (lv_at hl 0 rfl) ?_
                        refine lv_goto (tgt := 160) hx hb dX12_settle_147 (by decide) ?_
                        exact hJ28 y14 H locs ls hF hP hD hS (lv_sub hl [1, 2, 3] rfl)
        · refine lv_icmp_ne (tgt := 51) hx hb dX12_settle_44 (by decide) (fun c34 => ?_) (fun c34 => ?_)
          · have hF := brF hF c34
            refine lv_iload_n hx hb dX12_settle_51 rfl (lv_at hl 2 rfl) ?_
            refine lv_aload_n hx hb dX12_settle_52 rfl (lv_at hl 1 rfl) ?_
            refine wi_getr hx hb hg hown hK hP 0 7 5 rfl rfl cb_12 (by decide) kw_562 dX12_settle_53 ?_
            refine lv_iload_n hx hb dX12_settle_56 rfl (lv_at hl 3 rfl) ?_
            obtain ⟨hin, hF⟩ := hF
            refine wi_iald hx hb hK hP 5 rfl hin dX12_settle_57 (fun v35 ev35 => ?_)
            have hF := hF v35 ev35
            refine wi_callSi (As := [.int y3, .int v35]) (c_X12_bitOf l D cy ad tL σ y3 v35 _ hF) sw_RX12_133 hx hb hml hown hg hK hP hD hS hA hLB rfl ⟨Nat.le_of_ble_eq_true rfl, Nat.le_of_ble_eq_true rfl⟩ hl.1 rfl (Nat.le_of_ble_eq_true rfl) dX12_settle_58 (fun r36 σ37 hw H locs hP hD hS => ?_)
            obtain ⟨hF, rfl⟩ := hw
            exact hJ13 r36 H locs ls hF hP hD hS (lv_sub hl [1, 2, 3, 0] rfl)
          · have hF := brT hF c34
            refine lv_iconst (v := (0 : Int32)) hx hb dX12_settle_47 (by decide) ?_
            refine lv_goto (tgt := 61) hx hb dX12_settle_48 (by decide) ?_
            exact hJ13 (0 : Int32) H locs ls hF hP hD hS (lv_sub hl [1, 2, 3, 0] rfl)
      · have hF := brF hF c8
        refine lv_goto (tgt := 175) hx hb dX12_settle_22 (by decide) ?_
        obtain ⟨x38, ex38⟩ : ∃ z : Int32, z = (y4 + (1 : Int32)) := ⟨_, rfl⟩
        have hF := hF x38 ex38
        refine lv_iinc (v := x38) (lv' := [(3, .int x38), (0, .ref (ad 0)), (2, .int y3)]) hx hb dX12_settle_175 hl (k := 2) rfl (by rw [ex38]; rfl) (by decide) rfl (fun ls hl => ?_)
        refine lv_goto (tgt := 4) hx hb dX12_settle_178 (by decide) ?_
        exact hrec5 y3 x38 hF H locs ls hP hD hS (lv_sub hl [1, 2, 0] rfl)
def w_X12_beginning_L4 (σ : St) (J1 : Int32 → Prop) (rec7 : Int32 → Int32 → Prop) (y5 : Int32) (y6 : Int32) : Prop := br ((σ.1 0 1) ≤ y6) (J1 y5) (rd (σ.1 1) 24 y6 (fun v9 => jn (α := Int32 → Prop) (fun (y11 : Int32) => nm (y5 ||| y11) (fun x12 => nm (y6 + (1 : Int32)) (fun x13 => rec7 x12 x13))) (fun J10 => jn (α := Prop) (J10 (0 : Int32)) (fun J14 => br (v9 = (6 : Int32)) (rd (σ.1 3) 24 y6 (fun v16 => br (v16 = (1 : Int32)) (J10 ((1 : Int32) <<< (y6 &&& 31))) (J14))) (J14)))))
def w_X12_beginning (σ : St) (post : Int32 → Prop) : Prop := jn (α := Int32 → Prop) (fun (y2 : Int32) => w_X12_settle σ y2 (fun r3 => post r3)) (fun J1 => lpE2 (w_X12_beginning_L4 σ J1) (0 : Int32) (0 : Int32))
set_option maxHeartbeats 4000000 in
set_option maxRecDepth 100000 in
theorem c_X12_beginning (l : Launch) (D : va_G) (cy : Nat → ClassId) (ad : Nat → Nat) (tL : Nat) (σ : St) (post : Int32 → Prop) (hF : w_X12_beginning σ post) : Cti l yX12_beginning cX12_beginning 3 (some .int) 2 47 D cy ad tL dsM σ [.ref (ad 0)] (fun r u => post r ∧ σ = u) := by
  refine cti_of (by decide) (Nat.le_of_ble_eq_true rfl) ?_
  intro p e s m args below meth c A hx hb hml hr hlk hg hown hA hK H locs hP hD hS hLB ls hl
  have hown : s.vm.findClass RX12 = some m.cls := hown
  have hl : lv_has ls 3 [(0, .ref (ad 0))] := hl
  refine lv_iconst (v := (0 : Int32)) hx hb dX12_beginning_0 (by decide) ?_
  refine lv_istore_n (lv' := [(1, .int (0 : Int32)), (0, .ref (ad 0))]) hx hb dX12_beginning_1 rfl hl (by decide) rfl (fun ls hl => ?_)
  refine lv_iconst (v := (0 : Int32)) hx hb dX12_beginning_2 (by decide) ?_
  refine lv_istore_n (lv' := [(2, .int (0 : Int32)), (1, .int (0 : Int32)), (0, .ref (ad 0))]) hx hb dX12_beginning_3 rfl hl (by decide) rfl (fun ls hl => ?_)
  refine jn_use hF (fun K => ∀ (y2 : Int32) (H : Heap) (locs : List Loc) (ls : Array Slot), K y2 → va_P D vwCl (wld cy ad dsM σ) H → va_D A (wld cy ad dsM σ) → va_S A s.heap H locs → lv_has ls 3 [(0, .ref (ad 0)), (1, .int y2)] → W p l e (rmO 2 47) s m args below meth c H locs 0 0 (MQ below (va_Qi (fun r u => post r ∧ σ = u) (cBk D cy ad dsM A) A) args s 0 0 A) (F0 m 49 ls [])) (fun y2 H locs ls hF hP hD hS hl => ?_) (fun J1 hJ1 hF => ?_)
  · refine lv_aload_n hx hb dX12_beginning_49 rfl (lv_at hl 0 rfl) ?_
    refine lv_iload_n hx hb dX12_beginning_50 rfl (lv_at hl 1 rfl) ?_
    refine wi_callVi (k := 0) (As := [.int y2]) (c_X12_settle l D cy ad tL σ y2 _ hF) vw_RX12_137 rfl cb_12 hx hb hml hown hg hK hP hD hS hA hLB rfl ⟨Nat.le_of_ble_eq_true rfl, Nat.le_of_ble_eq_true rfl⟩ hl.1 rfl (Nat.le_of_ble_eq_true rfl) dX12_beginning_51 (fun r3 σ4 hw H locs hP hD hS => ?_)
    obtain ⟨hF, rfl⟩ := hw
    exact wi_iret hx hb hr hlk hK hP hD hS dX12_beginning_54 ⟨hF, rfl⟩
  · refine lpE2_use hF (fun (y5 : Int32) (y6 : Int32) => ∀ (H : Heap) (locs : List Loc) (ls : Array Slot), va_P D vwCl (wld cy ad dsM σ) H → va_D A (wld cy ad dsM σ) → va_S A s.heap H locs → lv_has ls 3 [(0, .ref (ad 0)), (1, .int y5), (2, .int y6)] → W p l e (rmO 2 47) s m args below meth c H locs 0 0 (MQ below (va_Qi (fun r u => post r ∧ σ = u) (cBk D cy ad dsM A) A) args s 0 0 A) (F0 m 4 ls [])) (fun rec7 hrec7 y5 y6 hF H locs ls hP hD hS hl => ?_) H locs ls hP hD hS (lv_sub hl [2, 1, 0] rfl)
    refine lv_iload_n hx hb dX12_beginning_4 rfl (lv_at hl 2 rfl) ?_
    refine lv_aload_n hx hb dX12_beginning_5 rfl (lv_at hl 0 rfl) ?_
    refine wi_geti hx hb hg hown hK hP 0 1 rfl rfl cb_12 (by decide) kw_559 dX12_beginning_6 ?_
    refine lv_icmp_ge (tgt := 49) hx hb dX12_beginning_9 (by decide) (fun c8 => ?_) (fun c8 => ?_)
    · have hF := brT hF c8
      exact hJ1 y5 H locs ls hF hP hD hS (lv_sub hl [0, 1] rfl)
    · have hF := brF hF c8
      refine lv_iload_n hx hb dX12_beginning_12 rfl (lv_at hl 1 rfl) ?_
      refine lv_aload_n hx hb dX12_beginning_13 rfl (lv_at hl 0 rfl) ?_
      refine wi_getr hx hb hg hown hK hP 0 3 1 rfl rfl cb_12 (by decide) kw_560 dX12_beginning_14 ?_
      refine lv_iload_n hx hb dX12_beginning_17 rfl (lv_at hl 2 rfl) ?_
      obtain ⟨hin, hF⟩ := hF
      refine wi_iald hx hb hK hP 1 rfl hin dX12_beginning_18 (fun v9 ev9 => ?_)
      have hF := hF v9 ev9
      refine lv_bipush (v := (6 : Int32)) hx hb dX12_beginning_19 (by decide) ?_
      refine jn_use hF (fun K => ∀ (y11 : Int32) (H : Heap) (locs : List Loc) (ls : Array Slot), K y11 → va_P D vwCl (wld cy ad dsM σ) H → va_D A (wld cy ad dsM σ) → va_S A s.heap H locs → lv_has ls 3 [(0, .ref (ad 0)), (2, .int y6)] → W p l e (rmO 2 47) s m args below meth c H locs 0 0 (MQ below (va_Qi (fun r u => post r ∧ σ = u) (cBk D cy ad dsM A) A) args s 0 0 A) (F0 m 41 ls [.int y11, .int y5])) (fun y11 H locs ls hF hP hD hS hl => ?_) (fun J10 hJ10 hF => ?_)
      · refine lv_ior hx hb dX12_beginning_41 ?_
        refine lv_topi (fun x12 ex12 => ?_)
        have hF := hF x12 ex12
        refine lv_istore_n (lv' := [(1, .int x12), (0, .ref (ad 0)), (2, .int y6)]) hx hb dX12_beginning_42 rfl hl (by decide) rfl (fun ls hl => ?_)
        obtain ⟨x13, ex13⟩ : ∃ z : Int32, z = (y6 + (1 : Int32)) := ⟨_, rfl⟩
        have hF := hF x13 ex13
        refine lv_iinc (v := x13) (lv' := [(2, .int x13), (1, .int x12), (0, .ref (ad 0))]) hx hb dX12_beginning_43 hl (k := 2) rfl (by rw [ex13]; rfl) (by decide) rfl (fun ls hl => ?_)
        refine lv_goto (tgt := 4) hx hb dX12_beginning_46 (by decide) ?_
        exact hrec7 x12 x13 hF H locs ls hP hD hS (lv_sub hl [2, 1, 0] rfl)
      · refine jn_use hF (fun K => ∀ (H : Heap) (locs : List Loc) (ls : Array Slot), K → va_P D vwCl (wld cy ad dsM σ) H → va_D A (wld cy ad dsM σ) → va_S A s.heap H locs → lv_has ls 3 [(0, .ref (ad 0)), (2, .int y6)] → W p l e (rmO 2 47) s m args below meth c H locs 0 0 (MQ below (va_Qi (fun r u => post r ∧ σ = u) (cBk D cy ad dsM A) A) args s 0 0 A) (F0 m 40 ls [.int y5])) (fun H locs ls hF hP hD hS hl => ?_) (fun J14 hJ14 hF => ?_)
        · refine lv_iconst (v := (0 : Int32)) hx hb dX12_beginning_40 (by decide) ?_
          exact hJ10 (0 : Int32) H locs ls hF hP hD hS (lv_sub hl [0, 1] rfl)
        · refine lv_icmp_ne (tgt := 40) hx hb dX12_beginning_21 (by decide) (fun c15 => ?_) (fun c15 => ?_)
          · have hF := brF hF c15
            exact hJ14  H locs ls hF hP hD hS (lv_sub hl [0, 2] rfl)
          · have hF := brT hF c15
            refine lv_aload_n hx hb dX12_beginning_24 rfl (lv_at hl 0 rfl) ?_
            refine wi_getr hx hb hg hown hK hP 0 5 3 rfl rfl cb_12 (by decide) kw_568 dX12_beginning_25 ?_
            refine lv_iload_n hx hb dX12_beginning_28 rfl (lv_at hl 2 rfl) ?_
            obtain ⟨hin, hF⟩ := hF
            refine wi_iald hx hb hK hP 3 rfl hin dX12_beginning_29 (fun v16 ev16 => ?_)
            have hF := hF v16 ev16
            refine lv_iconst (v := (1 : Int32)) hx hb dX12_beginning_30 (by decide) ?_
            refine lv_icmp_ne (tgt := 40) hx hb dX12_beginning_31 (by decide) (fun c17 => ?_) (fun c17 => ?_)
            · have hF := brF hF c17
              exact hJ14  H locs ls hF hP hD hS (lv_sub hl [0, 2] rfl)
            · have hF := brT hF c17
              refine lv_iconst (v := (1 : Int32)) hx hb dX12_beginning_34 (by decide) ?_
              refine lv_iload_n hx hb dX12_beginning_35 rfl (lv_at hl 2 rfl) ?_
              refine lv_ishl hx hb dX12_beginning_36 ?_
              refine lv_goto (tgt := 41) hx hb dX12_beginning_37 (by decide) ?_
              exact hJ10 ((1 : Int32) <<< (y6 &&& 31)) H locs ls hF hP hD hS (lv_sub hl [0, 2] rfl)
def w_X12_begin_L22 (J6 : St → Prop) (rec10 : Int32 → St → Prop) (y8 : Int32) (σ9 : St) : Prop := br ((16 : Int32) ≤ y8) (J6 σ9) (ck y8 16 (nm (upI σ9 14 (y8).toNatClampNeg (0 : Int32)) (fun σ12 => nm (y8 + (1 : Int32)) (fun x13 => rec10 x13 σ12))))
def w_X12_begin (σ : St) (post : St → Prop) : Prop := nm (upI σ 0 15 (0 : Int32)) (fun σ1 => nm (upI σ1 0 20 (0 : Int32)) (fun σ2 => w_X12_beginning σ2 (fun r3 => ck (0 : Int32) 61 (nm (upI σ2 12 ((0 : Int32)).toNatClampNeg r3) (fun σ5 => jn (α := St → Prop) (fun (σ7 : St) => post σ7) (fun J6 => lpE2 (w_X12_begin_L22 J6) (0 : Int32) σ5))))))
set_option maxHeartbeats 4000000 in
set_option maxRecDepth 100000 in
theorem c_X12_begin (l : Launch) (D : va_G) (cy : Nat → ClassId) (ad : Nat → Nat) (tL : Nat) (σ : St) (post : St → Prop) (hF : w_X12_begin σ post) : Ctv l yX12_begin cX12_begin 2 none 3 69 D cy ad tL dsM σ [.ref (ad 0)] post := by
  refine ctv_of (by decide) (Nat.le_of_ble_eq_true rfl) ?_
  intro p e s m args below meth c A hx hb hml hr hlk hg hown hA hK H locs hP hD hS hLB ls hl
  have hown : s.vm.findClass RX12 = some m.cls := hown
  have hl : lv_has ls 2 [(0, .ref (ad 0))] := hl
  refine lv_aload_n hx hb dX12_begin_0 rfl (lv_at hl 0 rfl) ?_
  refine lv_iconst (v := (0 : Int32)) hx hb dX12_begin_1 (by decide) ?_
  refine wi_puti hx hb hg hown hK hP hD hS 0 15 rfl rfl cb_12 (by decide) kw_573 rfl rfl rfl dX12_begin_2 (fun σ1 eσ1 H locs hP hD hS => ?_)
  have hF := hF σ1 eσ1
  refine lv_aload_n hx hb dX12_begin_5 rfl (lv_at hl 0 rfl) ?_
  refine lv_iconst (v := (0 : Int32)) hx hb dX12_begin_6 (by decide) ?_
  refine wi_puti hx hb hg hown hK hP hD hS 0 20 rfl rfl cb_12 (by decide) kw_574 rfl rfl rfl dX12_begin_7 (fun σ2 eσ2 H locs hP hD hS => ?_)
  have hF := hF σ2 eσ2
  refine lv_aload_n hx hb dX12_begin_10 rfl (lv_at hl 0 rfl) ?_
  refine wi_getr hx hb hg hown hK hP 0 16 12 rfl rfl cb_12 (by decide) kw_575 dX12_begin_11 ?_
  refine lv_iconst (v := (0 : Int32)) hx hb dX12_begin_14 (by decide) ?_
  refine lv_aload_n hx hb dX12_begin_15 rfl (lv_at hl 0 rfl) ?_
  refine wi_callVi (k := 0) (As := []) (c_X12_beginning l D cy ad tL σ2 _ hF) vw_RX12_147 rfl cb_12 hx hb hml hown hg hK hP hD hS hA hLB rfl ⟨Nat.le_of_ble_eq_true rfl, Nat.le_of_ble_eq_true rfl⟩ hl.1 rfl (Nat.le_of_ble_eq_true rfl) dX12_begin_16 (fun r3 σ4 hw H locs hP hD hS => ?_)
  obtain ⟨hF, rfl⟩ := hw
  obtain ⟨hin, hF⟩ := hF
  refine wi_iast hx hb hK hP hD hS 12 rfl hin dX12_begin_19 (fun σ5 eσ5 H locs hP hD hS => ?_)
  have hF := hF σ5 eσ5
  refine lv_iconst (v := (0 : Int32)) hx hb dX12_begin_20 (by decide) ?_
  refine lv_istore_n (lv' := [(1, .int (0 : Int32)), (0, .ref (ad 0))]) hx hb dX12_begin_21 rfl hl (by decide) rfl (fun ls hl => ?_)
  refine jn_use hF (fun K => ∀ (σ7 : St) (H : Heap) (locs : List Loc) (ls : Array Slot), K σ7 → va_P D vwCl (wld cy ad dsM σ7) H → va_D A (wld cy ad dsM σ7) → va_S A s.heap H locs → lv_has ls 2 [] → W p l e (rmO 3 69) s m args below meth c H locs 0 0 (MQ below (va_Qv post (cBk D cy ad dsM A) A) args s 0 0 A) (F0 m 41 ls [])) (fun σ7 H locs ls hF hP hD hS hl => ?_) (fun J6 hJ6 hF => ?_)
  · exact wi_vret hx hb hr hlk hK hP hD hS dX12_begin_41 hF
  · refine lpE2_use hF (fun (y8 : Int32) (σ9 : St) => ∀ (H : Heap) (locs : List Loc) (ls : Array Slot), va_P D vwCl (wld cy ad dsM σ9) H → va_D A (wld cy ad dsM σ9) → va_S A s.heap H locs → lv_has ls 2 [(0, .ref (ad 0)), (1, .int y8)] → W p l e (rmO 3 69) s m args below meth c H locs 0 0 (MQ below (va_Qv post (cBk D cy ad dsM A) A) args s 0 0 A) (F0 m 22 ls [])) (fun rec10 hrec10 y8 σ9 hF H locs ls hP hD hS hl => ?_) H locs ls hP hD hS (lv_sub hl [1, 0] rfl)
    refine lv_iload_n hx hb dX12_begin_22 rfl (lv_at hl 1 rfl) ?_
    refine lv_bipush (v := (16 : Int32)) hx hb dX12_begin_23 (by decide) ?_
    refine lv_icmp_ge (tgt := 41) hx hb dX12_begin_25 (by decide) (fun c11 => ?_) (fun c11 => ?_)
    · have hF := brT hF c11
      exact hJ6 σ9 H locs ls hF hP hD hS (lv_sub hl [] rfl)
    · have hF := brF hF c11
      refine lv_aload_n hx hb dX12_begin_28 rfl (lv_at hl 0 rfl) ?_
      refine wi_getr hx hb hg hown hK hP 0 18 14 rfl rfl cb_12 (by decide) kw_576 dX12_begin_29 ?_
      refine lv_iload_n hx hb dX12_begin_32 rfl (lv_at hl 1 rfl) ?_
      refine lv_iconst (v := (0 : Int32)) hx hb dX12_begin_33 (by decide) ?_
      obtain ⟨hin, hF⟩ := hF
      refine wi_iast hx hb hK hP hD hS 14 rfl hin dX12_begin_34 (fun σ12 eσ12 H locs hP hD hS => ?_)
      have hF := hF σ12 eσ12
      obtain ⟨x13, ex13⟩ : ∃ z : Int32, z = (y8 + (1 : Int32)) := ⟨_, rfl⟩
      have hF := hF x13 ex13
      refine lv_iinc (v := x13) (lv' := [(1, .int x13), (0, .ref (ad 0))]) hx hb dX12_begin_35 hl (k := 1) rfl (by rw [ex13]; rfl) (by decide) rfl (fun ls hl => ?_)
      refine lv_goto (tgt := 22) hx hb dX12_begin_38 (by decide) ?_
      exact hrec10 x13 σ12 hF H locs ls hP hD hS (lv_sub hl [1, 0] rfl)
def w_X12_unwalk (σ : St) (post : St → Prop) : Prop := nm (upI σ 0 25 (0 : Int32)) (fun σ1 => nm (upI σ1 0 26 (0 : Int32)) (fun σ2 => nm (upI σ2 0 27 (0 : Int32)) (fun σ3 => nm (upI σ3 0 28 (0 : Int32)) (fun σ4 => nm (upI σ4 0 29 (0 : Int32)) (fun σ5 => nm (upI σ5 0 38 (0 : Int32)) (fun σ6 => post σ6))))))
set_option maxHeartbeats 4000000 in
set_option maxRecDepth 100000 in
theorem c_X12_unwalk (l : Launch) (D : va_G) (cy : Nat → ClassId) (ad : Nat → Nat) (tL : Nat) (σ : St) (post : St → Prop) (hF : w_X12_unwalk σ post) : Ctv l yX12_unwalk cX12_unwalk 1 none 0 0 D cy ad tL dsM σ [.ref (ad 0)] post := by
  refine ctv_of (by decide) (Nat.le_of_ble_eq_true rfl) ?_
  intro p e s m args below meth c A hx hb hml hr hlk hg hown hA hK H locs hP hD hS hLB ls hl
  have hown : s.vm.findClass RX12 = some m.cls := hown
  have hl : lv_has ls 1 [(0, .ref (ad 0))] := hl
  refine lv_aload_n hx hb dX12_unwalk_0 rfl (lv_at hl 0 rfl) ?_
  refine lv_iconst (v := (0 : Int32)) hx hb dX12_unwalk_1 (by decide) ?_
  refine wi_puti hx hb hg hown hK hP hD hS 0 25 rfl rfl cb_12 (by decide) kw_624 rfl (by decide) (by decide) dX12_unwalk_2 (fun σ1 eσ1 H locs hP hD hS => ?_)
  have hF := hF σ1 eσ1
  refine lv_aload_n hx hb dX12_unwalk_5 rfl (lv_at hl 0 rfl) ?_
  refine lv_iconst (v := (0 : Int32)) hx hb dX12_unwalk_6 (by decide) ?_
  refine wi_puti hx hb hg hown hK hP hD hS 0 26 rfl rfl cb_12 (by decide) kw_625 rfl (by decide) (by decide) dX12_unwalk_7 (fun σ2 eσ2 H locs hP hD hS => ?_)
  have hF := hF σ2 eσ2
  refine lv_aload_n hx hb dX12_unwalk_10 rfl (lv_at hl 0 rfl) ?_
  refine lv_iconst (v := (0 : Int32)) hx hb dX12_unwalk_11 (by decide) ?_
  refine wi_puti hx hb hg hown hK hP hD hS 0 27 rfl rfl cb_12 (by decide) kw_626 rfl rfl rfl dX12_unwalk_12 (fun σ3 eσ3 H locs hP hD hS => ?_)
  have hF := hF σ3 eσ3
  refine lv_aload_n hx hb dX12_unwalk_15 rfl (lv_at hl 0 rfl) ?_
  refine lv_iconst (v := (0 : Int32)) hx hb dX12_unwalk_16 (by decide) ?_
  refine wi_puti hx hb hg hown hK hP hD hS 0 28 rfl rfl cb_12 (by decide) kw_627 rfl rfl rfl dX12_unwalk_17 (fun σ4 eσ4 H locs hP hD hS => ?_)
  have hF := hF σ4 eσ4
  refine lv_aload_n hx hb dX12_unwalk_20 rfl (lv_at hl 0 rfl) ?_
  refine lv_iconst (v := (0 : Int32)) hx hb dX12_unwalk_21 (by decide) ?_
  refine wi_puti hx hb hg hown hK hP hD hS 0 29 rfl rfl cb_12 (by decide) kw_628 rfl rfl rfl dX12_unwalk_22 (fun σ5 eσ5 H locs hP hD hS => ?_)
  have hF := hF σ5 eσ5
  refine lv_aload_n hx hb dX12_unwalk_25 rfl (lv_at hl 0 rfl) ?_
  refine lv_iconst (v := (0 : Int32)) hx hb dX12_unwalk_26 (by decide) ?_
  refine wi_puti hx hb hg hown hK hP hD hS 0 38 rfl rfl cb_12 (by decide) kw_629 rfl rfl rfl dX12_unwalk_27 (fun σ6 eσ6 H locs hP hD hS => ?_)
  have hF := hF σ6 eσ6
  exact wi_vret hx hb hr hlk hK hP hD hS dX12_unwalk_30 hF
def w_X12_changed (σ : St) (post : St → Prop) : Prop := w_X12_begin σ (fun σ2 => w_X12_unwalk σ2 (fun σ4 => post σ4))
set_option maxHeartbeats 4000000 in
set_option maxRecDepth 100000 in
theorem c_X12_changed (l : Launch) (D : va_G) (cy : Nat → ClassId) (ad : Nat → Nat) (tL : Nat) (σ : St) (post : St → Prop) (hF : w_X12_changed σ post) : Ctv l yX12_changed cX12_changed 1 none 4 90 D cy ad tL dsM σ [.ref (ad 0)] post := by
  refine ctv_of (by decide) (Nat.le_of_ble_eq_true rfl) ?_
  intro p e s m args below meth c A hx hb hml hr hlk hg hown hA hK H locs hP hD hS hLB ls hl
  have hown : s.vm.findClass RX12 = some m.cls := hown
  have hl : lv_has ls 1 [(0, .ref (ad 0))] := hl
  refine lv_aload_n hx hb dX12_changed_0 rfl (lv_at hl 0 rfl) ?_
  refine wi_callVv (k := 0) (As := []) (c_X12_begin l D cy ad tL σ _ hF) vw_RX12_119 rfl cb_12 hx hb hml hown hg hK hP hD hS hA hLB rfl ⟨Nat.le_of_ble_eq_true rfl, Nat.le_of_ble_eq_true rfl⟩ hl.1 rfl (Nat.le_of_ble_eq_true rfl) dX12_changed_1 (fun σ2 hw H locs hP hD hS => ?_)
  have hF := hw
  refine lv_aload_n hx hb dX12_changed_4 rfl (lv_at hl 0 rfl) ?_
  refine wi_callVv (k := 0) (As := []) (c_X12_unwalk l D cy ad tL σ2 _ hF) vw_RX12_151 rfl cb_12 hx hb hml hown hg hK hP hD hS hA hLB rfl ⟨Nat.le_of_ble_eq_true rfl, Nat.le_of_ble_eq_true rfl⟩ hl.1 rfl (Nat.le_of_ble_eq_true rfl) dX12_changed_5 (fun σ4 hw H locs hP hD hS => ?_)
  have hF := hw
  exact wi_vret hx hb hr hlk hK hP hD hS dX12_changed_8 hF
def w_X12_add (σ : St) (a1 : Int32) (a2 : Int32) (a3 : Int32) (post : St → Prop) : Prop := ck (σ.1 0 1) 24 (nm (upI σ 1 ((σ.1 0 1)).toNatClampNeg a1) (fun σ1 => ck (σ1.1 0 1) 24 (nm (upI σ1 2 ((σ1.1 0 1)).toNatClampNeg a2) (fun σ2 => ck (σ2.1 0 1) 24 (nm (upI σ2 3 ((σ2.1 0 1)).toNatClampNeg a3) (fun σ3 => ck (σ3.1 0 1) 24 (nm (upI σ3 4 ((σ3.1 0 1)).toNatClampNeg (σ3.1 0 1)) (fun σ4 => ck (σ4.1 0 1) 24 (nm (upI σ4 5 ((σ4.1 0 1)).toNatClampNeg (-2 : Int32)) (fun σ5 => ck (σ5.1 0 1) 24 (nm (upI σ5 6 ((σ5.1 0 1)).toNatClampNeg (-2 : Int32)) (fun σ6 => ck (σ6.1 0 1) 24 (nm (upI σ6 7 ((σ6.1 0 1)).toNatClampNeg (vp_nar .boolean (0 : Int32))) (fun σ7 => nm (upI σ7 0 2 ((σ7.1 0 2) + (1 : Int32))) (fun σ8 => nm (upI σ8 0 1 ((σ8.1 0 1) + (1 : Int32))) (fun σ9 => w_X12_changed σ9 (fun σ11 => post σ11)))))))))))))))))
set_option maxHeartbeats 4000000 in
set_option maxRecDepth 100000 in
theorem c_X12_add (l : Launch) (D : va_G) (cy : Nat → ClassId) (ad : Nat → Nat) (tL : Nat) (σ : St) (a1 : Int32) (a2 : Int32) (a3 : Int32) (post : St → Prop) (hF : w_X12_add σ a1 a2 a3 post) : Ctv l yX12_add cX12_add 4 none 5 110 D cy ad tL dsM σ [.ref (ad 0), .int a1, .int a2, .int a3] post := by
  refine ctv_of (by decide) (Nat.le_of_ble_eq_true rfl) ?_
  intro p e s m args below meth c A hx hb hml hr hlk hg hown hA hK H locs hP hD hS hLB ls hl
  have hown : s.vm.findClass RX12 = some m.cls := hown
  have hl : lv_has ls 4 [(0, .ref (ad 0)), (1, .int a1), (2, .int a2), (3, .int a3)] := hl
  refine lv_aload_n hx hb dX12_add_0 rfl (lv_at hl 0 rfl) ?_
  refine wi_getr hx hb hg hown hK hP 0 3 1 rfl rfl cb_12 (by decide) kw_560 dX12_add_1 ?_
  refine lv_aload_n hx hb dX12_add_4 rfl (lv_at hl 0 rfl) ?_
  refine wi_geti hx hb hg hown hK hP 0 1 rfl rfl cb_12 (by decide) kw_559 dX12_add_5 ?_
  refine lv_iload_n hx hb dX12_add_8 rfl (lv_at hl 1 rfl) ?_
  obtain ⟨hin, hF⟩ := hF
  refine wi_iast hx hb hK hP hD hS 1 rfl hin dX12_add_9 (fun σ1 eσ1 H locs hP hD hS => ?_)
  have hF := hF σ1 eσ1
  refine lv_aload_n hx hb dX12_add_10 rfl (lv_at hl 0 rfl) ?_
  refine wi_getr hx hb hg hown hK hP 0 4 2 rfl rfl cb_12 (by decide) kw_581 dX12_add_11 ?_
  refine lv_aload_n hx hb dX12_add_14 rfl (lv_at hl 0 rfl) ?_
  refine wi_geti hx hb hg hown hK hP 0 1 rfl rfl cb_12 (by decide) kw_559 dX12_add_15 ?_
  refine lv_iload_n hx hb dX12_add_18 rfl (lv_at hl 2 rfl) ?_
  obtain ⟨hin, hF⟩ := hF
  refine wi_iast hx hb hK hP hD hS 2 rfl hin dX12_add_19 (fun σ2 eσ2 H locs hP hD hS => ?_)
  have hF := hF σ2 eσ2
  refine lv_aload_n hx hb dX12_add_20 rfl (lv_at hl 0 rfl) ?_
  refine wi_getr hx hb hg hown hK hP 0 5 3 rfl rfl cb_12 (by decide) kw_568 dX12_add_21 ?_
  refine lv_aload_n hx hb dX12_add_24 rfl (lv_at hl 0 rfl) ?_
  refine wi_geti hx hb hg hown hK hP 0 1 rfl rfl cb_12 (by decide) kw_559 dX12_add_25 ?_
  refine lv_iload_n hx hb dX12_add_28 rfl (lv_at hl 3 rfl) ?_
  obtain ⟨hin, hF⟩ := hF
  refine wi_iast hx hb hK hP hD hS 3 rfl hin dX12_add_29 (fun σ3 eσ3 H locs hP hD hS => ?_)
  have hF := hF σ3 eσ3
  refine lv_aload_n hx hb dX12_add_30 rfl (lv_at hl 0 rfl) ?_
  refine wi_getr hx hb hg hown hK hP 0 6 4 rfl rfl cb_12 (by decide) kw_561 dX12_add_31 ?_
  refine lv_aload_n hx hb dX12_add_34 rfl (lv_at hl 0 rfl) ?_
  refine wi_geti hx hb hg hown hK hP 0 1 rfl rfl cb_12 (by decide) kw_559 dX12_add_35 ?_
  refine lv_aload_n hx hb dX12_add_38 rfl (lv_at hl 0 rfl) ?_
  refine wi_geti hx hb hg hown hK hP 0 1 rfl rfl cb_12 (by decide) kw_559 dX12_add_39 ?_
  obtain ⟨hin, hF⟩ := hF
  refine wi_iast hx hb hK hP hD hS 4 rfl hin dX12_add_42 (fun σ4 eσ4 H locs hP hD hS => ?_)
  have hF := hF σ4 eσ4
  refine lv_aload_n hx hb dX12_add_43 rfl (lv_at hl 0 rfl) ?_
  refine wi_getr hx hb hg hown hK hP 0 7 5 rfl rfl cb_12 (by decide) kw_562 dX12_add_44 ?_
  refine lv_aload_n hx hb dX12_add_47 rfl (lv_at hl 0 rfl) ?_
  refine wi_geti hx hb hg hown hK hP 0 1 rfl rfl cb_12 (by decide) kw_559 dX12_add_48 ?_
  refine lv_bipush (v := (-2 : Int32)) hx hb dX12_add_51 (by decide) ?_
  obtain ⟨hin, hF⟩ := hF
  refine wi_iast hx hb hK hP hD hS 5 rfl hin dX12_add_53 (fun σ5 eσ5 H locs hP hD hS => ?_)
  have hF := hF σ5 eσ5
  refine lv_aload_n hx hb dX12_add_54 rfl (lv_at hl 0 rfl) ?_
  refine wi_getr hx hb hg hown hK hP 0 8 6 rfl rfl cb_12 (by decide) kw_563 dX12_add_55 ?_
  refine lv_aload_n hx hb dX12_add_58 rfl (lv_at hl 0 rfl) ?_
  refine wi_geti hx hb hg hown hK hP 0 1 rfl rfl cb_12 (by decide) kw_559 dX12_add_59 ?_
  refine lv_bipush (v := (-2 : Int32)) hx hb dX12_add_62 (by decide) ?_
  obtain ⟨hin, hF⟩ := hF
  refine wi_iast hx hb hK hP hD hS 6 rfl hin dX12_add_64 (fun σ6 eσ6 H locs hP hD hS => ?_)
  have hF := hF σ6 eσ6
  refine lv_aload_n hx hb dX12_add_65 rfl (lv_at hl 0 rfl) ?_
  refine wi_getr hx hb hg hown hK hP 0 9 7 rfl rfl cb_12 (by decide) kw_582 dX12_add_66 ?_
  refine lv_aload_n hx hb dX12_add_69 rfl (lv_at hl 0 rfl) ?_
  refine wi_geti hx hb hg hown hK hP 0 1 rfl rfl cb_12 (by decide) kw_559 dX12_add_70 ?_
  refine lv_iconst (v := (0 : Int32)) hx hb dX12_add_73 (by decide) ?_
  obtain ⟨hin, hF⟩ := hF
  refine wi_zast hx hb hK hP hD hS 7 rfl hin dX12_add_74 (fun σ7 eσ7 H locs hP hD hS => ?_)
  have hF := hF σ7 eσ7
  refine lv_aload_n hx hb dX12_add_75 rfl (lv_at hl 0 rfl) ?_
  refine lv_dup hx hb dX12_add_76 rfl ?_
  refine wi_geti hx hb hg hown hK hP 0 2 rfl rfl cb_12 (by decide) kw_634 dX12_add_77 ?_
  refine lv_iconst (v := (1 : Int32)) hx hb dX12_add_80 (by decide) ?_
  refine lv_iadd hx hb dX12_add_81 ?_
  refine wi_puti hx hb hg hown hK hP hD hS 0 2 rfl rfl cb_12 (by decide) kw_634 rfl rfl rfl dX12_add_82 (fun σ8 eσ8 H locs hP hD hS => ?_)
  have hF := hF σ8 eσ8
  refine lv_aload_n hx hb dX12_add_85 rfl (lv_at hl 0 rfl) ?_
  refine lv_dup hx hb dX12_add_86 rfl ?_
  refine wi_geti hx hb hg hown hK hP 0 1 rfl rfl cb_12 (by decide) kw_559 dX12_add_87 ?_
  refine lv_iconst (v := (1 : Int32)) hx hb dX12_add_90 (by decide) ?_
  refine lv_iadd hx hb dX12_add_91 ?_
  refine wi_puti hx hb hg hown hK hP hD hS 0 1 rfl rfl cb_12 (by decide) kw_559 rfl rfl rfl dX12_add_92 (fun σ9 eσ9 H locs hP hD hS => ?_)
  have hF := hF σ9 eσ9
  refine lv_aload_n hx hb dX12_add_95 rfl (lv_at hl 0 rfl) ?_
  refine wi_callVv (k := 0) (As := []) (c_X12_changed l D cy ad tL σ9 _ hF) vw_RX12_167 rfl cb_12 hx hb hml hown hg hK hP hD hS hA hLB rfl ⟨Nat.le_of_ble_eq_true rfl, Nat.le_of_ble_eq_true rfl⟩ hl.1 rfl (Nat.le_of_ble_eq_true rfl) dX12_add_96 (fun σ11 hw H locs hP hD hS => ?_)
  have hF := hw
  exact wi_vret hx hb hr hlk hK hP hD hS dX12_add_99 hF
def w_X12_input (σ : St) (a1 : Int32) (post : Int32 → St → Prop) : Prop := nm (upI σ 0 0 (0 : Int32)) (fun σ1 => w_X12_isIn ((a1 : Int32).toInt64) (0 : Int64) (3 : Int64) (fun r2 => br (r2 = (0 : Int32)) (post (-1 : Int32) σ1) (br ((σ1.1 0 1) = (24 : Int32)) (post (-2 : Int32) σ1) (br ((σ1.1 0 2) = (10 : Int32)) (post (-2 : Int32) σ1) (w_X12_add σ1 (5 : Int32) a1 (0 : Int32) (fun σ8 => post ((σ8.1 0 1) - (1 : Int32)) σ8))))))
set_option maxHeartbeats 4000000 in
set_option maxRecDepth 100000 in
theorem c_X12_input (l : Launch) (D : va_G) (cy : Nat → ClassId) (ad : Nat → Nat) (tL : Nat) (σ : St) (a1 : Int32) (post : Int32 → St → Prop) (hF : w_X12_input σ a1 post) : Cti l yX12_input cX12_input 2 (some .int) 6 133 D cy ad tL dsM σ [.ref (ad 0), .int a1] post := by
  refine cti_of (by decide) (Nat.le_of_ble_eq_true rfl) ?_
  intro p e s m args below meth c A hx hb hml hr hlk hg hown hA hK H locs hP hD hS hLB ls hl
  have hown : s.vm.findClass RX12 = some m.cls := hown
  have hl : lv_has ls 2 [(0, .ref (ad 0)), (1, .int a1)] := hl
  refine lv_aload_n hx hb dX12_input_0 rfl (lv_at hl 0 rfl) ?_
  refine lv_iconst (v := (0 : Int32)) hx hb dX12_input_1 (by decide) ?_
  refine wi_puti hx hb hg hown hK hP hD hS 0 0 rfl rfl cb_12 (by decide) kw_615 rfl rfl rfl dX12_input_2 (fun σ1 eσ1 H locs hP hD hS => ?_)
  have hF := hF σ1 eσ1
  refine lv_iload_n hx hb dX12_input_5 rfl (lv_at hl 1 rfl) ?_
  refine lv_i2l hx hb dX12_input_6 rfl ?_
  refine lv_lconst (v := (0 : Int64)) hx hb dX12_input_7 (by decide) ?_
  refine lv_ldc2 (v := (3 : Int64)) hx hb hown (hg _ kw_639) dX12_input_8 ?_
  refine wi_callSi (As := [.long ((a1 : Int32).toInt64), .long (0 : Int64), .long (3 : Int64)]) (c_X12_isIn l D cy ad tL σ1 ((a1 : Int32).toInt64) (0 : Int64) (3 : Int64) _ hF) sw_RX12_156 hx hb hml hown hg hK hP hD hS hA hLB rfl ⟨Nat.le_of_ble_eq_true rfl, Nat.le_of_ble_eq_true rfl⟩ hl.1 rfl (Nat.le_of_ble_eq_true rfl) dX12_input_11 (fun r2 σ3 hw H locs hP hD hS => ?_)
  obtain ⟨hF, rfl⟩ := hw
  refine lv_if_ne (tgt := 19) hx hb dX12_input_14 (by decide) (fun c4 => ?_) (fun c4 => ?_)
  · have hF := brF hF c4
    refine lv_aload_n hx hb dX12_input_19 rfl (lv_at hl 0 rfl) ?_
    refine wi_geti hx hb hg hown hK hP 0 1 rfl rfl cb_12 (by decide) kw_559 dX12_input_20 ?_
    refine lv_bipush (v := (24 : Int32)) hx hb dX12_input_23 (by decide) ?_
    refine lv_icmp_eq (tgt := 37) hx hb dX12_input_25 (by decide) (fun c5 => ?_) (fun c5 => ?_)
    · have hF := brT hF c5
      refine lv_bipush (v := (-2 : Int32)) hx hb dX12_input_37 (by decide) ?_
      exact wi_iret hx hb hr hlk hK hP hD hS dX12_input_39 hF
    · have hF := brF hF c5
      refine lv_aload_n hx hb dX12_input_28 rfl (lv_at hl 0 rfl) ?_
      refine wi_geti hx hb hg hown hK hP 0 2 rfl rfl cb_12 (by decide) kw_634 dX12_input_29 ?_
      refine lv_bipush (v := (10 : Int32)) hx hb dX12_input_32 (by decide) ?_
      refine lv_icmp_ne (tgt := 40) hx hb dX12_input_34 (by decide) (fun c6 => ?_) (fun c6 => ?_)
      · have hF := brF hF c6
        refine lv_aload_n hx hb dX12_input_40 rfl (lv_at hl 0 rfl) ?_
        refine lv_iconst (v := (5 : Int32)) hx hb dX12_input_41 (by decide) ?_
        refine lv_iload_n hx hb dX12_input_42 rfl (lv_at hl 1 rfl) ?_
        refine lv_iconst (v := (0 : Int32)) hx hb dX12_input_43 (by decide) ?_
        refine wi_callVv (k := 0) (As := [.int (5 : Int32), .int a1, .int (0 : Int32)]) (c_X12_add l D cy ad tL σ1 (5 : Int32) a1 (0 : Int32) _ hF) vw_RX12_163 rfl cb_12 hx hb hml hown hg hK hP hD hS hA hLB rfl ⟨Nat.le_of_ble_eq_true rfl, Nat.le_of_ble_eq_true rfl⟩ hl.1 rfl (Nat.le_of_ble_eq_true rfl) dX12_input_44 (fun σ8 hw H locs hP hD hS => ?_)
        have hF := hw
        refine lv_aload_n hx hb dX12_input_47 rfl (lv_at hl 0 rfl) ?_
        refine wi_geti hx hb hg hown hK hP 0 1 rfl rfl cb_12 (by decide) kw_559 dX12_input_48 ?_
        refine lv_iconst (v := (1 : Int32)) hx hb dX12_input_51 (by decide) ?_
        refine lv_isub hx hb dX12_input_52 ?_
        exact wi_iret hx hb hr hlk hK hP hD hS dX12_input_53 hF
      · have hF := brT hF c6
        refine lv_bipush (v := (-2 : Int32)) hx hb dX12_input_37 (by decide) ?_
        exact wi_iret hx hb hr hlk hK hP hD hS dX12_input_39 hF
  · have hF := brT hF c4
    refine lv_iconst (v := (-1 : Int32)) hx hb dX12_input_17 (by decide) ?_
    exact wi_iret hx hb hr hlk hK hP hD hS dX12_input_18 hF
def w_X12_keeper (σ : St) (a1 : Int32) (a2 : Int32) (post : Int32 → St → Prop) : Prop := nm (upI σ 0 0 (0 : Int32)) (fun σ1 => w_X12_isIn ((a1 : Int32).toInt64) (0 : Int64) (3 : Int64) (fun r2 => br (r2 = (0 : Int32)) (post (-1 : Int32) σ1) (w_X12_isIn ((a2 : Int32).toInt64) (0 : Int64) (1 : Int64) (fun r5 => br (r5 = (0 : Int32)) (post (-1 : Int32) σ1) (br ((σ1.1 0 1) = (24 : Int32)) (post (-2 : Int32) σ1) (br ((σ1.1 0 2) = (10 : Int32)) (post (-2 : Int32) σ1) (w_X12_add σ1 (6 : Int32) a1 a2 (fun σ11 => post ((σ11.1 0 1) - (1 : Int32)) σ11))))))))
set_option maxHeartbeats 4000000 in
set_option maxRecDepth 100000 in
theorem c_X12_keeper (l : Launch) (D : va_G) (cy : Nat → ClassId) (ad : Nat → Nat) (tL : Nat) (σ : St) (a1 : Int32) (a2 : Int32) (post : Int32 → St → Prop) (hF : w_X12_keeper σ a1 a2 post) : Cti l yX12_keeper cX12_keeper 3 (some .int) 6 133 D cy ad tL dsM σ [.ref (ad 0), .int a1, .int a2] post := by
  refine cti_of (by decide) (Nat.le_of_ble_eq_true rfl) ?_
  intro p e s m args below meth c A hx hb hml hr hlk hg hown hA hK H locs hP hD hS hLB ls hl
  have hown : s.vm.findClass RX12 = some m.cls := hown
  have hl : lv_has ls 3 [(0, .ref (ad 0)), (1, .int a1), (2, .int a2)] := hl
  refine lv_aload_n hx hb dX12_keeper_0 rfl (lv_at hl 0 rfl) ?_
  refine lv_iconst (v := (0 : Int32)) hx hb dX12_keeper_1 (by decide) ?_
  refine wi_puti hx hb hg hown hK hP hD hS 0 0 rfl rfl cb_12 (by decide) kw_615 rfl rfl rfl dX12_keeper_2 (fun σ1 eσ1 H locs hP hD hS => ?_)
  have hF := hF σ1 eσ1
  refine lv_iload_n hx hb dX12_keeper_5 rfl (lv_at hl 1 rfl) ?_
  refine lv_i2l hx hb dX12_keeper_6 rfl ?_
  refine lv_lconst (v := (0 : Int64)) hx hb dX12_keeper_7 (by decide) ?_
  refine lv_ldc2 (v := (3 : Int64)) hx hb hown (hg _ kw_639) dX12_keeper_8 ?_
  refine wi_callSi (As := [.long ((a1 : Int32).toInt64), .long (0 : Int64), .long (3 : Int64)]) (c_X12_isIn l D cy ad tL σ1 ((a1 : Int32).toInt64) (0 : Int64) (3 : Int64) _ hF) sw_RX12_156 hx hb hml hown hg hK hP hD hS hA hLB rfl ⟨Nat.le_of_ble_eq_true rfl, Nat.le_of_ble_eq_true rfl⟩ hl.1 rfl (Nat.le_of_ble_eq_true rfl) dX12_keeper_11 (fun r2 σ3 hw H locs hP hD hS => ?_)
  obtain ⟨hF, rfl⟩ := hw
  refine lv_if_eq (tgt := 27) hx hb dX12_keeper_14 (by decide) (fun c4 => ?_) (fun c4 => ?_)
  · have hF := brT hF c4
    refine lv_iconst (v := (-1 : Int32)) hx hb dX12_keeper_27 (by decide) ?_
    exact wi_iret hx hb hr hlk hK hP hD hS dX12_keeper_28 hF
  · have hF := brF hF c4
    refine lv_iload_n hx hb dX12_keeper_17 rfl (lv_at hl 2 rfl) ?_
    refine lv_i2l hx hb dX12_keeper_18 rfl ?_
    refine lv_lconst (v := (0 : Int64)) hx hb dX12_keeper_19 (by decide) ?_
    refine lv_lconst (v := (1 : Int64)) hx hb dX12_keeper_20 (by decide) ?_
    refine wi_callSi (As := [.long ((a2 : Int32).toInt64), .long (0 : Int64), .long (1 : Int64)]) (c_X12_isIn l D cy ad tL σ1 ((a2 : Int32).toInt64) (0 : Int64) (1 : Int64) _ hF) sw_RX12_156 hx hb hml hown hg hK hP hD hS hA hLB rfl ⟨Nat.le_of_ble_eq_true rfl, Nat.le_of_ble_eq_true rfl⟩ hl.1 rfl (Nat.le_of_ble_eq_true rfl) dX12_keeper_21 (fun r5 σ6 hw H locs hP hD hS => ?_)
    obtain ⟨hF, rfl⟩ := hw
    refine lv_if_ne (tgt := 29) hx hb dX12_keeper_24 (by decide) (fun c7 => ?_) (fun c7 => ?_)
    · have hF := brF hF c7
      refine lv_aload_n hx hb dX12_keeper_29 rfl (lv_at hl 0 rfl) ?_
      refine wi_geti hx hb hg hown hK hP 0 1 rfl rfl cb_12 (by decide) kw_559 dX12_keeper_30 ?_
      refine lv_bipush (v := (24 : Int32)) hx hb dX12_keeper_33 (by decide) ?_
      refine lv_icmp_eq (tgt := 47) hx hb dX12_keeper_35 (by decide) (fun c8 => ?_) (fun c8 => ?_)
      · have hF := brT hF c8
        refine lv_bipush (v := (-2 : Int32)) hx hb dX12_keeper_47 (by decide) ?_
        exact wi_iret hx hb hr hlk hK hP hD hS dX12_keeper_49 hF
      · have hF := brF hF c8
        refine lv_aload_n hx hb dX12_keeper_38 rfl (lv_at hl 0 rfl) ?_
        refine wi_geti hx hb hg hown hK hP 0 2 rfl rfl cb_12 (by decide) kw_634 dX12_keeper_39 ?_
        refine lv_bipush (v := (10 : Int32)) hx hb dX12_keeper_42 (by decide) ?_
        refine lv_icmp_ne (tgt := 50) hx hb dX12_keeper_44 (by decide) (fun c9 => ?_) (fun c9 => ?_)
        · have hF := brF hF c9
          refine lv_aload_n hx hb dX12_keeper_50 rfl (lv_at hl 0 rfl) ?_
          refine lv_bipush (v := (6 : Int32)) hx hb dX12_keeper_51 (by decide) ?_
          refine lv_iload_n hx hb dX12_keeper_53 rfl (lv_at hl 1 rfl) ?_
          refine lv_iload_n hx hb dX12_keeper_54 rfl (lv_at hl 2 rfl) ?_
          refine wi_callVv (k := 0) (As := [.int (6 : Int32), .int a1, .int a2]) (c_X12_add l D cy ad tL σ1 (6 : Int32) a1 a2 _ hF) vw_RX12_163 rfl cb_12 hx hb hml hown hg hK hP hD hS hA hLB rfl ⟨Nat.le_of_ble_eq_true rfl, Nat.le_of_ble_eq_true rfl⟩ hl.1 rfl (Nat.le_of_ble_eq_true rfl) dX12_keeper_55 (fun σ11 hw H locs hP hD hS => ?_)
          have hF := hw
          refine lv_aload_n hx hb dX12_keeper_58 rfl (lv_at hl 0 rfl) ?_
          refine wi_geti hx hb hg hown hK hP 0 1 rfl rfl cb_12 (by decide) kw_559 dX12_keeper_59 ?_
          refine lv_iconst (v := (1 : Int32)) hx hb dX12_keeper_62 (by decide) ?_
          refine lv_isub hx hb dX12_keeper_63 ?_
          exact wi_iret hx hb hr hlk hK hP hD hS dX12_keeper_64 hF
        · have hF := brT hF c9
          refine lv_bipush (v := (-2 : Int32)) hx hb dX12_keeper_47 (by decide) ?_
          exact wi_iret hx hb hr hlk hK hP hD hS dX12_keeper_49 hF
    · have hF := brT hF c7
      refine lv_iconst (v := (-1 : Int32)) hx hb dX12_keeper_27 (by decide) ?_
      exact wi_iret hx hb hr hlk hK hP hD hS dX12_keeper_28 hF
def w_X12_gate (σ : St) (a1 : Int32) (a2 : Int32) (a3 : Int32) (a4 : Int32) (post : Int32 → St → Prop) : Prop := nm (upI σ 0 0 (0 : Int32)) (fun σ1 => w_X12_isIn ((a1 : Int32).toInt64) (0 : Int64) (4 : Int64) (fun r2 => br (r2 = (0 : Int32)) (post (-1 : Int32) σ1) (w_X12_isCell σ1 a2 (fun r5 => br (r5 = (0 : Int32)) (post (-1 : Int32) σ1) (jn (α := Prop) (jn (α := Prop) (br ((σ1.1 0 1) = (24 : Int32)) (post (-2 : Int32) σ1) (ck (σ1.1 0 1) 24 (nm (upI σ1 1 ((σ1.1 0 1)).toNatClampNeg a1) (fun σ11 => ck (σ11.1 0 1) 24 (nm (upI σ11 2 ((σ11.1 0 1)).toNatClampNeg (-2 : Int32)) (fun σ12 => ck (σ12.1 0 1) 24 (nm (upI σ12 4 ((σ12.1 0 1)).toNatClampNeg a2) (fun σ13 => jn (α := Int32 → Prop) (fun (y15 : Int32) => ck (σ13.1 0 1) 24 (nm (upI σ13 5 ((σ13.1 0 1)).toNatClampNeg y15) (fun σ16 => jn (α := Int32 → Prop) (fun (y18 : Int32) => ck (σ16.1 0 1) 24 (nm (upI σ16 6 ((σ16.1 0 1)).toNatClampNeg y18) (fun σ19 => ck (σ19.1 0 1) 24 (nm (upI σ19 7 ((σ19.1 0 1)).toNatClampNeg (vp_nar .boolean (0 : Int32))) (fun σ20 => nm (upI σ20 0 1 ((σ20.1 0 1) + (1 : Int32))) (fun σ21 => w_X12_changed σ21 (fun σ23 => post ((σ23.1 0 1) - (1 : Int32)) σ23))))))) (fun J17 => br (a1 = (4 : Int32)) (J17 a4) (J17 (-2 : Int32)))))) (fun J14 => br (a1 = (3 : Int32)) (J14 (-2 : Int32)) (J14 a3)))))))))) (fun J9 => br (a1 = (4 : Int32)) (w_X12_isCell σ1 a4 (fun r27 => br (r27 = (0 : Int32)) (post (-1 : Int32) σ1) (J9))) (J9))) (fun J8 => br (a1 = (3 : Int32)) (J8) (w_X12_isCell σ1 a3 (fun r31 => br (r31 = (0 : Int32)) (post (-1 : Int32) σ1) (J8)))))))))
set_option maxHeartbeats 4000000 in
set_option maxRecDepth 100000 in
theorem c_X12_gate (l : Launch) (D : va_G) (cy : Nat → ClassId) (ad : Nat → Nat) (tL : Nat) (σ : St) (a1 : Int32) (a2 : Int32) (a3 : Int32) (a4 : Int32) (post : Int32 → St → Prop) (hF : w_X12_gate σ a1 a2 a3 a4 post) : Cti l yX12_gate cX12_gate 5 (some .int) 5 110 D cy ad tL dsM σ [.ref (ad 0), .int a1, .int a2, .int a3, .int a4] post := by
  refine cti_of (by decide) (Nat.le_of_ble_eq_true rfl) ?_
  intro p e s m args below meth c A hx hb hml hr hlk hg hown hA hK H locs hP hD hS hLB ls hl
  have hown : s.vm.findClass RX12 = some m.cls := hown
  have hl : lv_has ls 5 [(0, .ref (ad 0)), (1, .int a1), (2, .int a2), (3, .int a3), (4, .int a4)] := hl
  refine lv_aload_n hx hb dX12_gate_0 rfl (lv_at hl 0 rfl) ?_
  refine lv_iconst (v := (0 : Int32)) hx hb dX12_gate_1 (by decide) ?_
  refine wi_puti hx hb hg hown hK hP hD hS 0 0 rfl rfl cb_12 (by decide) kw_615 rfl rfl rfl dX12_gate_2 (fun σ1 eσ1 H locs hP hD hS => ?_)
  have hF := hF σ1 eσ1
  refine lv_iload_n hx hb dX12_gate_5 rfl (lv_at hl 1 rfl) ?_
  refine lv_i2l hx hb dX12_gate_6 rfl ?_
  refine lv_lconst (v := (0 : Int64)) hx hb dX12_gate_7 (by decide) ?_
  refine lv_ldc2 (v := (4 : Int64)) hx hb hown (hg _ kw_647) dX12_gate_8 ?_
  refine wi_callSi (As := [.long ((a1 : Int32).toInt64), .long (0 : Int64), .long (4 : Int64)]) (c_X12_isIn l D cy ad tL σ1 ((a1 : Int32).toInt64) (0 : Int64) (4 : Int64) _ hF) sw_RX12_156 hx hb hml hown hg hK hP hD hS hA hLB rfl ⟨Nat.le_of_ble_eq_true rfl, Nat.le_of_ble_eq_true rfl⟩ hl.1 rfl (Nat.le_of_ble_eq_true rfl) dX12_gate_11 (fun r2 σ3 hw H locs hP hD hS => ?_)
  obtain ⟨hF, rfl⟩ := hw
  refine lv_if_eq (tgt := 52) hx hb dX12_gate_14 (by decide) (fun c4 => ?_) (fun c4 => ?_)
  · have hF := brT hF c4
    refine lv_iconst (v := (-1 : Int32)) hx hb dX12_gate_52 (by decide) ?_
    exact wi_iret hx hb hr hlk hK hP hD hS dX12_gate_53 hF
  · have hF := brF hF c4
    refine lv_aload_n hx hb dX12_gate_17 rfl (lv_at hl 0 rfl) ?_
    refine lv_iload_n hx hb dX12_gate_18 rfl (lv_at hl 2 rfl) ?_
    refine wi_callVi (k := 0) (As := [.int a2]) (c_X12_isCell l D cy ad tL σ1 a2 _ hF) vw_RX12_129 rfl cb_12 hx hb hml hown hg hK hP hD hS hA hLB rfl ⟨Nat.le_of_ble_eq_true rfl, Nat.le_of_ble_eq_true rfl⟩ hl.1 rfl (Nat.le_of_ble_eq_true rfl) dX12_gate_19 (fun r5 σ6 hw H locs hP hD hS => ?_)
    obtain ⟨hF, rfl⟩ := hw
    refine lv_if_eq (tgt := 52) hx hb dX12_gate_22 (by decide) (fun c7 => ?_) (fun c7 => ?_)
    · have hF := brT hF c7
      refine lv_iconst (v := (-1 : Int32)) hx hb dX12_gate_52 (by decide) ?_
      exact wi_iret hx hb hr hlk hK hP hD hS dX12_gate_53 hF
    · have hF := brF hF c7
      refine lv_iload_n hx hb dX12_gate_25 rfl (lv_at hl 1 rfl) ?_
      refine lv_iconst (v := (3 : Int32)) hx hb dX12_gate_26 (by decide) ?_
      refine jn_use hF (fun K => ∀ (H : Heap) (locs : List Loc) (ls : Array Slot), K → va_P D vwCl (wld cy ad dsM σ1) H → va_D A (wld cy ad dsM σ1) → va_S A s.heap H locs → lv_has ls 5 [(0, .ref (ad 0)), (1, .int a1), (2, .int a2), (3, .int a3), (4, .int a4)] → W p l e (rmO 5 110) s m args below meth c H locs 0 0 (MQ below (va_Qi post (cBk D cy ad dsM A) A) args s 0 0 A) (F0 m 38 ls [])) (fun H locs ls hF hP hD hS hl => ?_) (fun J8 hJ8 hF => ?_)
      · refine lv_iload_n hx hb dX12_gate_38 rfl (lv_at hl 1 rfl) ?_
        refine lv_iconst (v := (4 : Int32)) hx hb dX12_gate_39 (by decide) ?_
        refine jn_use hF (fun K => ∀ (H : Heap) (locs : List Loc) (ls : Array Slot), K → va_P D vwCl (wld cy ad dsM σ1) H → va_D A (wld cy ad dsM σ1) → va_S A s.heap H locs → lv_has ls 5 [(0, .ref (ad 0)), (1, .int a1), (2, .int a2), (3, .int a3), (4, .int a4)] → W p l e (rmO 5 110) s m args below meth c H locs 0 0 (MQ below (va_Qi post (cBk D cy ad dsM A) A) args s 0 0 A) (F0 m 54 ls [])) (fun H locs ls hF hP hD hS hl => ?_) (fun J9 hJ9 hF => ?_)
        · refine lv_aload_n hx hb dX12_gate_54 rfl (lv_at hl 0 rfl) ?_
          refine wi_geti hx hb hg hown hK hP 0 1 rfl rfl cb_12 (by decide) kw_559 dX12_gate_55 ?_
          refine lv_bipush (v := (24 : Int32)) hx hb dX12_gate_58 (by decide) ?_
          refine lv_icmp_ne (tgt := 66) hx hb dX12_gate_60 (by decide) (fun c10 => ?_) (fun c10 => ?_)
          · have hF := brF hF c10
            refine lv_aload_n hx hb dX12_gate_66 rfl (lv_at hl 0 rfl) ?_
            refine wi_getr hx hb hg hown hK hP 0 3 1 rfl rfl cb_12 (by decide) kw_560 dX12_gate_67 ?_
            refine lv_aload_n hx hb dX12_gate_70 rfl (lv_at hl 0 rfl) ?_
            refine wi_geti hx hb hg hown hK hP 0 1 rfl rfl cb_12 (by decide) kw_559 dX12_gate_71 ?_
            refine lv_iload_n hx hb dX12_gate_74 rfl (lv_at hl 1 rfl) ?_
            obtain ⟨hin, hF⟩ := hF
            refine wi_iast hx hb hK hP hD hS 1 rfl hin dX12_gate_75 (fun σ11 eσ11 H locs hP hD hS => ?_)
            have hF := hF σ11 eσ11
            refine lv_aload_n hx hb dX12_gate_76 rfl (lv_at hl 0 rfl) ?_
            refine wi_getr hx hb hg hown hK hP 0 4 2 rfl rfl cb_12 (by decide) kw_581 dX12_gate_77 ?_
            refine lv_aload_n hx hb dX12_gate_80 rfl (lv_at hl 0 rfl) ?_
            refine wi_geti hx hb hg hown hK hP 0 1 rfl rfl cb_12 (by decide) kw_559 dX12_gate_81 ?_
            refine lv_bipush (v := (-2 : Int32)) hx hb dX12_gate_84 (by decide) ?_
            obtain ⟨hin, hF⟩ := hF
            refine wi_iast hx hb hK hP hD hS 2 rfl hin dX12_gate_86 (fun σ12 eσ12 H locs hP hD hS => ?_)
            have hF := hF σ12 eσ12
            refine lv_aload_n hx hb dX12_gate_87 rfl (lv_at hl 0 rfl) ?_
            refine wi_getr hx hb hg hown hK hP 0 6 4 rfl rfl cb_12 (by decide) kw_561 dX12_gate_88 ?_
            refine lv_aload_n hx hb dX12_gate_91 rfl (lv_at hl 0 rfl) ?_
            refine wi_geti hx hb hg hown hK hP 0 1 rfl rfl cb_12 (by decide) kw_559 dX12_gate_92 ?_
            refine lv_iload_n hx hb dX12_gate_95 rfl (lv_at hl 2 rfl) ?_
            obtain ⟨hin, hF⟩ := hF
            refine wi_iast hx hb hK hP hD hS 4 rfl hin dX12_gate_96 (fun σ13 eσ13 H locs hP hD hS => ?_)
            have hF := hF σ13 eσ13
            refine lv_aload_n hx hb dX12_gate_97 rfl (lv_at hl 0 rfl) ?_
            refine wi_getr hx hb hg hown hK hP 0 7 5 rfl rfl cb_12 (by decide) kw_562 dX12_gate_98 ?_
            refine lv_aload_n hx hb dX12_gate_101 rfl (lv_at hl 0 rfl) ?_
            refine wi_geti hx hb hg hown hK hP 0 1 rfl rfl cb_12 (by decide) kw_559 dX12_gate_102 ?_
            refine lv_iload_n hx hb dX12_gate_105 rfl (lv_at hl 1 rfl) ?_
            refine lv_iconst (v := (3 : Int32)) hx hb dX12_gate_106 (by decide) ?_
            refine jn_use hF (fun K => ∀ (y15 : Int32) (H : Heap) (locs : List Loc) (ls : Array Slot), K y15 → va_P D vwCl (wld cy ad dsM σ13) H → va_D A (wld cy ad dsM σ13) → va_S A s.heap H locs → lv_has ls 5 [(0, .ref (ad 0)), (1, .int a1), (4, .int a4)] → W p l e (rmO 5 110) s m args below meth c H locs 0 0 (MQ below (va_Qi post (cBk D cy ad dsM A) A) args s 0 0 A) (F0 m 116 ls [.int y15, .int (σ13.1 0 1), .ref (ad 5)])) (fun y15 H locs ls hF hP hD hS hl => ?_) (fun J14 hJ14 hF => ?_)
            · obtain ⟨hin, hF⟩ := hF
              refine wi_iast hx hb hK hP hD hS 5 rfl hin dX12_gate_116 (fun σ16 eσ16 H locs hP hD hS => ?_)
              have hF := hF σ16 eσ16
              refine lv_aload_n hx hb dX12_gate_117 rfl (lv_at hl 0 rfl) ?_
              refine wi_getr hx hb hg hown hK hP 0 8 6 rfl rfl cb_12 (by decide) kw_563 dX12_gate_118 ?_
              refine lv_aload_n hx hb dX12_gate_121 rfl (lv_at hl 0 rfl) ?_
              refine wi_geti hx hb hg hown hK hP 0 1 rfl rfl cb_12 (by decide) kw_559 dX12_gate_122 ?_
              refine lv_iload_n hx hb dX12_gate_125 rfl (lv_at hl 1 rfl) ?_
              refine lv_iconst (v := (4 : Int32)) hx hb dX12_gate_126 (by decide) ?_
              refine jn_use hF (fun K => ∀ (y18 : Int32) (H : Heap) (locs : List Loc) (ls : Array Slot), K y18 → va_P D vwCl (wld cy ad dsM σ16) H → va_D A (wld cy ad dsM σ16) → va_S A s.heap H locs → lv_has ls 5 [(0, .ref (ad 0))] → W p l e (rmO 5 110) s m args below meth c H locs 0 0 (MQ below (va_Qi post (cBk D cy ad dsM A) A) args s 0 0 A) (F0 m 137 ls [.int y18, .int (σ16.1 0 1), .ref (ad 6)])) (fun y18 H locs ls hF hP hD hS hl => ?_) (fun J17 hJ17 hF => ?_)
              · obtain ⟨hin, hF⟩ := hF
                refine wi_iast hx hb hK hP hD hS 6 rfl hin dX12_gate_137 (fun σ19 eσ19 H locs hP hD hS => ?_)
                have hF := hF σ19 eσ19
                refine lv_aload_n hx hb dX12_gate_138 rfl (lv_at hl 0 rfl) ?_
                refine wi_getr hx hb hg hown hK hP 0 9 7 rfl rfl cb_12 (by decide) kw_582 dX12_gate_139 ?_
                refine lv_aload_n hx hb dX12_gate_142 rfl (lv_at hl 0 rfl) ?_
                refine wi_geti hx hb hg hown hK hP 0 1 rfl rfl cb_12 (by decide) kw_559 dX12_gate_143 ?_
                refine lv_iconst (v := (0 : Int32)) hx hb dX12_gate_146 (by decide) ?_
                obtain ⟨hin, hF⟩ := hF
                refine wi_zast hx hb hK hP hD hS 7 rfl hin dX12_gate_147 (fun σ20 eσ20 H locs hP hD hS => ?_)
                have hF := hF σ20 eσ20
                refine lv_aload_n hx hb dX12_gate_148 rfl (lv_at hl 0 rfl) ?_
                refine lv_dup hx hb dX12_gate_149 rfl ?_
                refine wi_geti hx hb hg hown hK hP 0 1 rfl rfl cb_12 (by decide) kw_559 dX12_gate_150 ?_
                refine lv_iconst (v := (1 : Int32)) hx hb dX12_gate_153 (by decide) ?_
                refine lv_iadd hx hb dX12_gate_154 ?_
                refine wi_puti hx hb hg hown hK hP hD hS 0 1 rfl rfl cb_12 (by decide) kw_559 rfl rfl rfl dX12_gate_155 (fun σ21 eσ21 H locs hP hD hS => ?_)
                have hF := hF σ21 eσ21
                refine lv_aload_n hx hb dX12_gate_158 rfl (lv_at hl 0 rfl) ?_
                refine wi_callVv (k := 0) (As := []) (c_X12_changed l D cy ad tL σ21 _ hF) vw_RX12_167 rfl cb_12 hx hb hml hown hg hK hP hD hS hA hLB rfl ⟨Nat.le_of_ble_eq_true rfl, Nat.le_of_ble_eq_true rfl⟩ hl.1 rfl (Nat.le_of_ble_eq_true rfl) dX12_gate_159 (fun σ23 hw H locs hP hD hS => ?_)
                have hF := hw
                refine lv_aload_n hx hb dX12_gate_162 rfl (lv_at hl 0 rfl) ?_
                refine wi_geti hx hb hg hown hK hP 0 1 rfl rfl cb_12 (by decide) kw_559 dX12_gate_163 ?_
                refine lv_iconst (v := (1 : Int32)) hx hb dX12_gate_166 (by decide) ?_
                refine lv_isub hx hb dX12_gate_167 ?_
                exact wi_iret hx hb hr hlk hK hP hD hS dX12_gate_168 hF
              · refine lv_icmp_ne (tgt := 135) hx hb dX12_gate_127 (by decide) (fun c24 => ?_) (fun c24 => ?_)
                · have hF := brF hF c24
                  refine lv_bipush (v := (-2 : Int32)) hx hb dX12_gate_135 (by decide) ?_
                  exact hJ17 (-2 : Int32) H locs ls hF hP hD hS (lv_sub hl [0] rfl)
                · have hF := brT hF c24
                  refine lv_iload hx hb dX12_gate_130 (lv_at hl 2 rfl) ?_
                  refine lv_goto (tgt := 137) hx hb dX12_gate_132 (by decide) ?_
                  exact hJ17 a4 H locs ls hF hP hD hS (lv_sub hl [0] rfl)
            · refine lv_icmp_ne (tgt := 115) hx hb dX12_gate_107 (by decide) (fun c25 => ?_) (fun c25 => ?_)
              · have hF := brF hF c25
                refine lv_iload_n hx hb dX12_gate_115 rfl (lv_at hl 3 rfl) ?_
                exact hJ14 a3 H locs ls hF hP hD hS (lv_sub hl [0, 1, 4] rfl)
              · have hF := brT hF c25
                refine lv_bipush (v := (-2 : Int32)) hx hb dX12_gate_110 (by decide) ?_
                refine lv_goto (tgt := 116) hx hb dX12_gate_112 (by decide) ?_
                exact hJ14 (-2 : Int32) H locs ls hF hP hD hS (lv_sub hl [0, 1, 4] rfl)
          · have hF := brT hF c10
            refine lv_bipush (v := (-2 : Int32)) hx hb dX12_gate_63 (by decide) ?_
            exact wi_iret hx hb hr hlk hK hP hD hS dX12_gate_65 hF
        · refine lv_icmp_ne (tgt := 54) hx hb dX12_gate_40 (by decide) (fun c26 => ?_) (fun c26 => ?_)
          · have hF := brF hF c26
            exact hJ9  H locs ls hF hP hD hS (lv_sub hl [0, 1, 2, 3, 4] rfl)
          · have hF := brT hF c26
            refine lv_aload_n hx hb dX12_gate_43 rfl (lv_at hl 0 rfl) ?_
            refine lv_iload hx hb dX12_gate_44 (lv_at hl 4 rfl) ?_
            refine wi_callVi (k := 0) (As := [.int a4]) (c_X12_isCell l D cy ad tL σ1 a4 _ hF) vw_RX12_129 rfl cb_12 hx hb hml hown hg hK hP hD hS hA hLB rfl ⟨Nat.le_of_ble_eq_true rfl, Nat.le_of_ble_eq_true rfl⟩ hl.1 rfl (Nat.le_of_ble_eq_true rfl) dX12_gate_46 (fun r27 σ28 hw H locs hP hD hS => ?_)
            obtain ⟨hF, rfl⟩ := hw
            refine lv_if_ne (tgt := 54) hx hb dX12_gate_49 (by decide) (fun c29 => ?_) (fun c29 => ?_)
            · have hF := brF hF c29
              exact hJ9  H locs ls hF hP hD hS (lv_sub hl [0, 1, 2, 3, 4] rfl)
            · have hF := brT hF c29
              refine lv_iconst (v := (-1 : Int32)) hx hb dX12_gate_52 (by decide) ?_
              exact wi_iret hx hb hr hlk hK hP hD hS dX12_gate_53 hF
      · refine lv_icmp_eq (tgt := 38) hx hb dX12_gate_27 (by decide) (fun c30 => ?_) (fun c30 => ?_)
        · have hF := brT hF c30
          exact hJ8  H locs ls hF hP hD hS (lv_sub hl [0, 1, 2, 3, 4] rfl)
        · have hF := brF hF c30
          refine lv_aload_n hx hb dX12_gate_30 rfl (lv_at hl 0 rfl) ?_
          refine lv_iload_n hx hb dX12_gate_31 rfl (lv_at hl 3 rfl) ?_
          refine wi_callVi (k := 0) (As := [.int a3]) (c_X12_isCell l D cy ad tL σ1 a3 _ hF) vw_RX12_129 rfl cb_12 hx hb hml hown hg hK hP hD hS hA hLB rfl ⟨Nat.le_of_ble_eq_true rfl, Nat.le_of_ble_eq_true rfl⟩ hl.1 rfl (Nat.le_of_ble_eq_true rfl) dX12_gate_32 (fun r31 σ32 hw H locs hP hD hS => ?_)
          obtain ⟨hF, rfl⟩ := hw
          refine lv_if_eq (tgt := 52) hx hb dX12_gate_35 (by decide) (fun c33 => ?_) (fun c33 => ?_)
          · have hF := brT hF c33
            refine lv_iconst (v := (-1 : Int32)) hx hb dX12_gate_52 (by decide) ?_
            exact wi_iret hx hb hr hlk hK hP hD hS dX12_gate_53 hF
          · have hF := brF hF c33
            exact hJ8  H locs ls hF hP hD hS (lv_sub hl [0, 1, 2, 3, 4] rfl)
