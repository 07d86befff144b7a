/-! WHAT FAILS: words and premises of the class's own throws -/
abbrev nmT : List String := ["java/lang/RuntimeException", "java/lang/Exception"]
abbrev ISE : String := "java/lang/IllegalStateException"
abbrev IAE : String := "java/lang/IllegalArgumentException"
def xT1 : List Cond := (vx_atS RX3 41 ISE nmT).filter goodWord
def xT2 : List Cond := (vx_atS RX11 276 IAE nmT).filter goodWord
def xT3 : List Cond := (vx_atS RX11 286 ISE nmT).filter goodWord
def gThr : List Cond := gAll ++ (xT1 ++ (xT2 ++ xT3))
theorem gThr_l {w : Cond} (h : w ∈ gAll) : w ∈ gThr := List.mem_append_left _ h
theorem gThr_1 {w : Cond} (h : w ∈ xT1) : w ∈ gThr := List.mem_append_right _ (List.mem_append_left _ h)
theorem gThr_2 {w : Cond} (h : w ∈ xT2) : w ∈ gThr := List.mem_append_right _ (List.mem_append_right _ (List.mem_append_left _ h))
theorem gThr_3 {w : Cond} (h : w ∈ xT3) : w ∈ gThr := List.mem_append_right _ (List.mem_append_right _ (List.mem_append_right _ h))
theorem gThr_good : GoodIn gThr gThr := fun w h => by
  refine ⟨h, ?_⟩
  rcases List.mem_append.mp h with h | h
  · exact (gAll_good w h).2
  rcases List.mem_append.mp h with h | h
  · exact good_of_word (List.mem_filter.mp h).2
  rcases List.mem_append.mp h with h | h
  · exact good_of_word (List.mem_filter.mp h).2
  · exact good_of_word (List.mem_filter.mp h).2
theorem goodVT {own : String} {idx : Nat} {y : MethodName} {cc : ByteArray} {maxL n : Nat} {ret : Option FieldType} (h : VWd own idx y cc maxL ret n) : GoodIn gThr (wsV own idx y.cls y (.code y cc maxL ret :: gThr)) := by
  obtain ⟨h1, h2, h3, h4, h5, -⟩ := h
  intro w hw
  have : w ∈ gThr := by
    simp only [wsV, List.mem_append, List.mem_cons, List.not_mem_nil, or_false] at hw
    rcases hw with (rfl | rfl | rfl | rfl) | rfl | hw
    · exact gThr_l h1
    · exact gThr_l h2
    · exact gThr_l h3
    · exact gThr_l h4
    · exact gThr_l h5
    · exact hw
  exact gThr_good w this
abbrev iS (c : String) : MethodName := ⟨c, "<init>", "(Ljava/lang/String;)V"⟩
def tPre (A : Nat → Prop) (U : State) (H : Heap) : Prop :=
  (va_Nw (.declares (iS "java/lang/RuntimeException")) U ∧ va_Nw (.declares (iS "java/lang/Exception")) U ∧ va_Nw (.declares (iS "java/lang/Throwable")) U ∧ va_Nw (.castable ISE ISE) U ∧ va_Nw (.castable IAE IAE) U ∧ va_Nc ISE IAE U) ∧
  ((∃ sa, vk_R RX3 39 "a bit fails" sa U) ∧ (∃ sa, vk_R RX11 274 "no such shelf" sa U) ∧ (∃ sa, vk_R RX11 284 "the row has no such place" sa U) ∧ ∃ sa, vk_R RX11 287 "no row is held" sa U) ∧
  vx_Zq Bundle.tN "UNASSIGNED_STACK" Bundle.steD A U H ∧ vx_Zq Bundle.tN "SUPPRESSED_SENTINEL" Bundle.listD A U H
theorem tPre.pass {A B : Nat → Prop} {s U : State} {H : Heap} (h : tPre A s s.heap) (hq : ∀ a : Nat, a < s.heap.size → ¬ A a → H[a]? = s.heap[a]?) (hAB : ∀ q, B q → A q) (hW : s.WarmedH U.vm) : tPre B U H := by
  obtain ⟨⟨a1, a2, a3, a4, a5, a6⟩, ⟨⟨s1, b1⟩, ⟨s2, b2⟩, ⟨s3, b3⟩, ⟨s4, b4⟩⟩, z1, z2⟩ := h
  exact ⟨⟨a1.warmD hW, a2.warmD hW, a3.warmD hW, a4.warmC hW, a5.warmC hW, a6.moved hW.alike⟩, ⟨⟨s1, b1.warm hW⟩, ⟨s2, b2.warm hW⟩, ⟨s3, b3.warm hW⟩, ⟨s4, b4.warm hW⟩⟩, ((z1.kept hq).narrow hAB).moved hW.alike, ((z2.kept hq).narrow hAB).moved hW.alike⟩
theorem tPre.same {A : Nat → Prop} {u U : State} {H : Heap} (e : u.vm = U.vm) (h : tPre A u H) : tPre A U H := by
  obtain ⟨⟨a1, a2, a3, a4, a5, a6⟩, ⟨⟨s1, b1⟩, ⟨s2, b2⟩, ⟨s3, b3⟩, ⟨s4, b4⟩⟩, z1, z2⟩ := h
  have al : u.vm.Alike U.vm := by rw [e]; exact Vm.Alike.refl _
  exact ⟨⟨a1.same rfl e, a2.same rfl e, a3.same rfl e, a4.same rfl e, a5.same rfl e, a6.moved al⟩, ⟨⟨s1, b1.same e.symm⟩, ⟨s2, b2.same e.symm⟩, ⟨s3, b3.same e.symm⟩, ⟨s4, b4.same e.symm⟩⟩, z1.moved al, z2.moved al⟩
theorem hatS {own : String} {ic : Nat} {args : Array Value} {s : State} {A : Nat → Prop} {H : Heap} (h1 : ∀ w ∈ (vx_atS own ic ISE nmT).filter goodWord, w.before args s = true) (h2 : ∀ w ∈ (vx_atS own ic ISE nmT).filter (fun w => !goodWord w), w ∈ ([.declares (iS "java/lang/RuntimeException"), .declares (iS "java/lang/Exception"), .declares (iS "java/lang/Throwable"), .castable ISE ISE] : List Cond)) (hT : tPre A s H) : ∀ w ∈ vx_atS own ic ISE nmT, w.before args s = true :=
  vx_hat h1 h2 (vx_c (va_Nw.use rfl hT.1.1) (vx_c (va_Nw.use rfl hT.1.2.1) (vx_c (va_Nw.use rfl hT.1.2.2.1) (vx_c (va_Nw.use rfl hT.1.2.2.2.1) vx_n))))
theorem vw_RX3_34 : VWd RX3 34 yX3_fail cX3_fail 1 none 0 := ⟨kw_86, kw_87, kw_88, kw_89, kw_83, by decide, by decide, by decide +kernel⟩
set_option maxHeartbeats 4000000 in
theorem c_X3_fail (l : Launch) (hl9 : l.stackTraces = false) (D : va_G) (cy : Nat → ClassId) (h0 sz : Nat) (nu ki kl so : Int32) : vx_Met l yX3_fail (.code yX3_fail cX3_fail 1 none :: gThr) { frames := 6, cells := 1, slots := 6, locals := 82 } (va_Pc [.ref h0] (fun U => U.heap.size = sz ∧ va_P D vwCl [(h0, heC nu ki kl so)] U.heap ∧ va_K D vwCl (tyl cy) U ∧ tPre (va_A [] sz) U U.heap)) (va_Qv (fun _ : Unit => ki < 5) (fun _ _ => True) (va_A [] sz)) (vx_X (fun _ : Unit => ¬ ki < 5) (fun E _ _ => E = ISE) (va_A [] sz)) 1 6 (va_A [] sz) := by
  refine vx_ofW (cc := cX3_fail) (maxL := 1) (ret := none) (by decide) rfl ?_
  intro p e s m args below meth c s₁ B hml htab hv
  obtain ⟨rfl, hsz, hP, hK, hT⟩ := hv
  have hx := B.exec
  have hb := B.bytes
  have hr := B.returns
  have hlk := B.notSynchronized
  have hts := atoms_spec (ws := .code yX3_fail cX3_fail 1 none :: gThr) B.pre
  have hgT : ∀ w ∈ gThr, w.before [Value.ref h0].toArray s = true := fun w hw => hts w (List.mem_cons_of_mem _ hw)
  have hg : ∀ w ∈ gAll, w.before [Value.ref h0].toArray s = true := fun w hw => hgT w (gThr_l hw)
  have hown : s.vm.findClass RX3 = some m.cls := findClass_of_methodNamed B.named
  have hl := lv_entry ([.ref h0]) (n := 1) (Nat.le_of_ble_eq_true rfl)
  rw [lg_entry_eq]
  generalize (lg_sl ([.ref h0]) ++ List.replicate (1 - (lg_sl ([.ref h0])).length) Slot.unset).toArray = ls at hl ⊢
  have hl : lv_has ls 1 [(0, .ref h0)] := hl
  have hS : va_S (va_A [] sz) s.heap s.heap [] := va_S.rf
  refine lv_aload_n hx hb dX3_fail_0 rfl (lv_at hl 0 rfl) ?_
  refine va_get (C := RX3) (T := TX3) (N := 4) hx hb hg ku_X3 hown hK hP 0 rfl rfl 1 (by decide) (hg _ kw_75) (fun _ h => h) (v := .int ki) rfl dX3_fail_1 ?_
  refine lv_iconst (v := (5 : Int32)) hx hb dX3_fail_4 (by decide) ?_
  refine lv_icmp_lt (tgt := 18) hx hb dX3_fail_5 (by decide) (fun c1 => ?_) (fun c1 => ?_)
  · refine vx_ret ?_
    refine W.widen (k := 1) (n := 6) (Nat.zero_le _) (Nat.zero_le _) ?_
    exact W.vret hx hb hr (fun t ht hW => ⟨⟨(), rfl, c1, trivial⟩, hS.F ht⟩) hS.2.2 dX3_fail_18 hlk
  · obtain ⟨sa, hsa⟩ := hT.2.1.1
    exact vx_throwS (own := RX3) (cls := ISE) (text := "a bit fails") (names := nmT) (ik := 37) (is := 39) (ic := 41) (sa := sa) (A := va_A [] sz) hx hb hl9 hown (by decide) (by decide) (hg _ kw_84) (hg _ kw_85) hsa (hatS (fun w hw => hgT w (gThr_1 hw)) (by decide +kernel) hT) (by decide +kernel) hT.2.2.1 hT.2.2.2 hS (by rw [hml]; exact hl.1) dX3_fail_8 dX3_fail_11 dX3_fail_12 dX3_fail_14 dX3_fail_17 (fun x hx => (htab x hx).elim) (by decide) (Nat.le_of_ble_eq_true rfl) (Nat.le_refl _) (Nat.le_refl _) hlk (fun t hal hz hk => ⟨(), c1, rfl, hz, fun q hq _ => hk q hq⟩) hS.2.2 (Nat.le_refl _) (Nat.le_refl _)
