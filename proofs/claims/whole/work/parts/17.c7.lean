def w_X11_look (σ : St) (a1 : Int32) (a2 : Int32) (post : Int32 → Prop) : Prop := w_X4_isCell σ a1 (fun r1 => br (r1 = (0 : Int32)) (post (-1 : Int32)) (br (a2 = (0 : Int32)) (rd (σ.1 8) 24 a1 (fun v5 => post v5)) (br (a2 = (1 : Int32)) (rd (σ.1 9) 24 a1 (fun v7 => post v7)) (br (a2 = (2 : Int32)) (rd (σ.1 10) 24 a1 (fun v9 => post v9)) (br (a2 = (3 : Int32)) (rd (σ.1 11) 24 a1 (fun v11 => post v11)) (br (a2 = (4 : Int32)) (rd (σ.1 12) 24 a1 (fun v13 => post v13)) (post (-1 : Int32))))))))
set_option maxHeartbeats 4000000 in
set_option maxRecDepth 100000 in
theorem c_X11_look (l : Launch) (D : va_G) (cy : Nat → ClassId) (ad : Nat → Nat) (tL : Nat) (σ : St) (a1 : Int32) (a2 : Int32) (post : Int32 → Prop) (hF : w_X11_look σ a1 a2 post) : Cti l yX11_look cX11_look 3 (some .int) 1 21 D cy ad tL dsC σ [.ref (ad 0), .int a1, .int a2] (fun r u => post r ∧ σ = u) := by
  refine cti_of (by decide) (Nat.le_of_ble_eq_true rfl) ?_
  intro p e s m args below meth c A hx hb hml hr hlk hg hown hA hK H locs hP hD hS hLB ls hl
  have hown : s.vm.findClass RX11 = some m.cls := hown
  have hl : lv_has ls 3 [(0, .ref (ad 0)), (1, .int a1), (2, .int a2)] := hl
  refine lv_aload_n hx hb dX11_look_0 rfl (lv_at hl 0 rfl) ?_
  refine wi_getr hx hb hg hown hK hP 0 0 1 rfl rfl cb_11 (by decide) kw_349 dX11_look_1 ?_
  refine lv_iload_n hx hb dX11_look_4 rfl (lv_at hl 1 rfl) ?_
  refine wi_callVi (k := 1) (As := [.int a1]) (c_X4_isCell l D cy ad tL σ a1 _ hF) vw_RX11_67 rfl cb_4 hx hb hml hown hg hK hP hD hS hA hLB rfl ⟨Nat.le_of_ble_eq_true rfl, Nat.le_of_ble_eq_true rfl⟩ hl.1 rfl (Nat.le_of_ble_eq_true rfl) dX11_look_5 (fun r1 σ2 hw H locs hP hD hS => ?_)
  obtain ⟨hF, rfl⟩ := hw
  refine lv_if_ne (tgt := 13) hx hb dX11_look_8 (by decide) (fun c3 => ?_) (fun c3 => ?_)
  · have hF := brF hF c3
    refine lv_iload_n hx hb dX11_look_13 rfl (lv_at hl 2 rfl) ?_
    by_cases c4 : a2 = (0 : Int32)
    · have hF := brT hF c4
      refine lv_tableIn (off := 34) (tgt := 48) hx hb dX11_look_14 (by rw [c4]; decide) (by rw [c4]; decide) (by rw [c4]; rfl) (by decide) ?_
      refine lv_aload_n hx hb dX11_look_48 rfl (lv_at hl 0 rfl) ?_
      refine wi_getr hx hb hg hown hK hP 0 0 1 rfl rfl cb_11 (by decide) kw_349 dX11_look_49 ?_
      refine wi_getr hx hb hg hown hK hP 1 5 8 rfl rfl cb_4 (by decide) kw_501 dX11_look_52 ?_
      refine lv_iload_n hx hb dX11_look_55 rfl (lv_at hl 1 rfl) ?_
      obtain ⟨hin, hF⟩ := hF
      refine wi_iald hx hb hK hP 8 rfl hin dX11_look_56 (fun v5 ev5 => ?_)
      have hF := hF v5 ev5
      exact wi_iret hx hb hr hlk hK hP hD hS dX11_look_57 ⟨hF, rfl⟩
    · have hF := brF hF c4
      by_cases c6 : a2 = (1 : Int32)
      · have hF := brT hF c6
        refine lv_tableIn (off := 44) (tgt := 58) hx hb dX11_look_14 (by rw [c6]; decide) (by rw [c6]; decide) (by rw [c6]; rfl) (by decide) ?_
        refine lv_aload_n hx hb dX11_look_58 rfl (lv_at hl 0 rfl) ?_
        refine wi_getr hx hb hg hown hK hP 0 0 1 rfl rfl cb_11 (by decide) kw_349 dX11_look_59 ?_
        refine wi_getr hx hb hg hown hK hP 1 6 9 rfl rfl cb_4 (by decide) kw_502 dX11_look_62 ?_
        refine lv_iload_n hx hb dX11_look_65 rfl (lv_at hl 1 rfl) ?_
        obtain ⟨hin, hF⟩ := hF
        refine wi_iald hx hb hK hP 9 rfl hin dX11_look_66 (fun v7 ev7 => ?_)
        have hF := hF v7 ev7
        exact wi_iret hx hb hr hlk hK hP hD hS dX11_look_67 ⟨hF, rfl⟩
      · have hF := brF hF c6
        by_cases c8 : a2 = (2 : Int32)
        · have hF := brT hF c8
          refine lv_tableIn (off := 54) (tgt := 68) hx hb dX11_look_14 (by rw [c8]; decide) (by rw [c8]; decide) (by rw [c8]; rfl) (by decide) ?_
          refine lv_aload_n hx hb dX11_look_68 rfl (lv_at hl 0 rfl) ?_
          refine wi_getr hx hb hg hown hK hP 0 0 1 rfl rfl cb_11 (by decide) kw_349 dX11_look_69 ?_
          refine wi_getr hx hb hg hown hK hP 1 7 10 rfl rfl cb_4 (by decide) kw_405 dX11_look_72 ?_
          refine lv_iload_n hx hb dX11_look_75 rfl (lv_at hl 1 rfl) ?_
          obtain ⟨hin, hF⟩ := hF
          refine wi_iald hx hb hK hP 10 rfl hin dX11_look_76 (fun v9 ev9 => ?_)
          have hF := hF v9 ev9
          exact wi_iret hx hb hr hlk hK hP hD hS dX11_look_77 ⟨hF, rfl⟩
        · have hF := brF hF c8
          by_cases c10 : a2 = (3 : Int32)
          · have hF := brT hF c10
            refine lv_tableIn (off := 64) (tgt := 78) hx hb dX11_look_14 (by rw [c10]; decide) (by rw [c10]; decide) (by rw [c10]; rfl) (by decide) ?_
            refine lv_aload_n hx hb dX11_look_78 rfl (lv_at hl 0 rfl) ?_
            refine wi_getr hx hb hg hown hK hP 0 0 1 rfl rfl cb_11 (by decide) kw_349 dX11_look_79 ?_
            refine wi_getr hx hb hg hown hK hP 1 8 11 rfl rfl cb_4 (by decide) kw_503 dX11_look_82 ?_
            refine lv_iload_n hx hb dX11_look_85 rfl (lv_at hl 1 rfl) ?_
            obtain ⟨hin, hF⟩ := hF
            refine wi_iald hx hb hK hP 11 rfl hin dX11_look_86 (fun v11 ev11 => ?_)
            have hF := hF v11 ev11
            exact wi_iret hx hb hr hlk hK hP hD hS dX11_look_87 ⟨hF, rfl⟩
          · have hF := brF hF c10
            by_cases c12 : a2 = (4 : Int32)
            · have hF := brT hF c12
              refine lv_tableIn (off := 74) (tgt := 88) hx hb dX11_look_14 (by rw [c12]; decide) (by rw [c12]; decide) (by rw [c12]; rfl) (by decide) ?_
              refine lv_aload_n hx hb dX11_look_88 rfl (lv_at hl 0 rfl) ?_
              refine wi_getr hx hb hg hown hK hP 0 0 1 rfl rfl cb_11 (by decide) kw_349 dX11_look_89 ?_
              refine wi_getr hx hb hg hown hK hP 1 9 12 rfl rfl cb_4 (by decide) kw_504 dX11_look_92 ?_
              refine lv_iload_n hx hb dX11_look_95 rfl (lv_at hl 1 rfl) ?_
              obtain ⟨hin, hF⟩ := hF
              refine wi_iald hx hb hK hP 12 rfl hin dX11_look_96 (fun v13 ev13 => ?_)
              have hF := hF v13 ev13
              exact wi_iret hx hb hr hlk hK hP hD hS dX11_look_97 ⟨hF, rfl⟩
            · have hF := brF hF c12
              have nc4 := lv_neT (a := 0) c4 (by decide)
              have nc6 := lv_neT (a := 1) c6 (by decide)
              have nc8 := lv_neT (a := 2) c8 (by decide)
              have nc10 := lv_neT (a := 3) c10 (by decide)
              have nc12 := lv_neT (a := 4) c12 (by decide)
              refine lv_tableOut (tgt := 98) hx hb dX11_look_14 (by omega) (by decide) ?_
              refine lv_iconst (v := (-1 : Int32)) hx hb dX11_look_98 (by decide) ?_
              exact wi_iret hx hb hr hlk hK hP hD hS dX11_look_99 ⟨hF, rfl⟩
  · have hF := brT hF c3
    refine lv_iconst (v := (-1 : Int32)) hx hb dX11_look_11 (by decide) ?_
    exact wi_iret hx hb hr hlk hK hP hD hS dX11_look_12 ⟨hF, rfl⟩
def w_X11_isShelf (a1 : Int32) (post : Int32 → Prop) : Prop := br (a1 < (0 : Int32)) (post (0 : Int32)) (br ((8 : Int32) ≤ a1) (post (0 : Int32)) (post (1 : Int32)))
set_option maxHeartbeats 4000000 in
set_option maxRecDepth 100000 in
theorem c_X11_isShelf (l : Launch) (D : va_G) (cy : Nat → ClassId) (ad : Nat → Nat) (tL : Nat) (σ : St) (a1 : Int32) (post : Int32 → Prop) (hF : w_X11_isShelf a1 post) : Cti l yX11_isShelf cX11_isShelf 1 (some .boolean) 0 0 D cy ad tL dsC σ [.int a1] (fun r u => post r ∧ σ = u) := by
  refine cti_of (by decide) (Nat.le_of_ble_eq_true rfl) ?_
  intro p e s m args below meth c A hx hb hml hr hlk hg hown hA hK H locs hP hD hS hLB ls hl
  have hown : s.vm.findClass RX11 = some m.cls := hown
  have hl : lv_has ls 1 [(0, .int a1)] := hl
  refine lv_iload_n hx hb dX11_isShelf_0 rfl (lv_at hl 0 rfl) ?_
  refine lv_if_lt (tgt := 14) hx hb dX11_isShelf_1 (by decide) (fun c1 => ?_) (fun c1 => ?_)
  · have hF := brT hF c1
    refine lv_iconst (v := (0 : Int32)) hx hb dX11_isShelf_14 (by decide) ?_
    exact wi_zret hx hb hr hlk hK hP hD hS dX11_isShelf_15 (by decide) ⟨hF, rfl⟩
  · have hF := brF hF c1
    refine lv_iload_n hx hb dX11_isShelf_4 rfl (lv_at hl 0 rfl) ?_
    refine lv_bipush (v := (8 : Int32)) hx hb dX11_isShelf_5 (by decide) ?_
    refine lv_icmp_ge (tgt := 14) hx hb dX11_isShelf_7 (by decide) (fun c2 => ?_) (fun c2 => ?_)
    · have hF := brT hF c2
      refine lv_iconst (v := (0 : Int32)) hx hb dX11_isShelf_14 (by decide) ?_
      exact wi_zret hx hb hr hlk hK hP hD hS dX11_isShelf_15 (by decide) ⟨hF, rfl⟩
    · have hF := brF hF c2
      refine lv_iconst (v := (1 : Int32)) hx hb dX11_isShelf_10 (by decide) ?_
      refine lv_goto (tgt := 15) hx hb dX11_isShelf_11 (by decide) ?_
      exact wi_zret hx hb hr hlk hK hP hD hS dX11_isShelf_15 (by decide) ⟨hF, rfl⟩
