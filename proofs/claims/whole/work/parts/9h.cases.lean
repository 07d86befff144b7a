/-! THE LAW: its cases without shelves -/
theorem vw_RL_21 : VWd RL 21 yX11_input cX11_input 2 (some .int) 1 := ⟨kw_843, kw_844, kw_845, kw_390, kw_397, by decide, by decide, by decide +kernel⟩
theorem vw_RL_25 : VWd RL 25 yX12_input cX12_input 2 (some .int) 1 := ⟨kw_846, kw_847, kw_848, kw_566, kw_645, by decide, by decide, by decide +kernel⟩
theorem vw_RL_26 : VWd RL 26 yX11_keeper cX11_keeper 3 (some .int) 2 := ⟨kw_849, kw_850, kw_851, kw_390, kw_398, by decide, by decide, by decide +kernel⟩
theorem vw_RL_30 : VWd RL 30 yX12_keeper cX12_keeper 3 (some .int) 2 := ⟨kw_852, kw_853, kw_854, kw_566, kw_646, by decide, by decide, by decide +kernel⟩
theorem vw_RL_31 : VWd RL 31 yX11_gate cX11_gate 8 (some .int) 4 := ⟨kw_855, kw_856, kw_857, kw_390, kw_404, by decide, by decide, by decide +kernel⟩
theorem vw_RL_35 : VWd RL 35 yX12_gate cX12_gate 5 (some .int) 4 := ⟨kw_858, kw_859, kw_860, kw_566, kw_648, by decide, by decide, by decide +kernel⟩
theorem vw_RL_36 : VWd RL 36 yX11_connect cX11_connect 4 (some .int) 2 := ⟨kw_861, kw_862, kw_863, kw_390, kw_407, by decide, by decide, by decide +kernel⟩
theorem vw_RL_39 : VWd RL 39 yX12_connect cX12_connect 4 (some .int) 2 := ⟨kw_864, kw_865, kw_866, kw_566, kw_652, by decide, by decide, by decide +kernel⟩
theorem vw_RL_40 : VWd RL 40 yX11_bound cX11_bound 5 (some .int) 3 := ⟨kw_867, kw_868, kw_869, kw_390, kw_414, by decide, by decide, by decide +kernel⟩
theorem vw_RL_44 : VWd RL 44 yX12_bound cX12_bound 5 (some .int) 3 := ⟨kw_870, kw_871, kw_872, kw_566, kw_654, by decide, by decide, by decide +kernel⟩
theorem vw_RL_50 : VWd RL 50 yX11_promise cX11_promise 5 (some .int) 3 := ⟨kw_879, kw_880, kw_881, kw_390, kw_423, by decide, by decide, by decide +kernel⟩
theorem vw_RL_53 : VWd RL 53 yX12_promise cX12_promise 4 (some .int) 3 := ⟨kw_882, kw_883, kw_884, kw_566, kw_660, by decide, by decide, by decide +kernel⟩
theorem vw_RL_54 : VWd RL 54 yX11_start cX11_start 2 (some .int) 0 := ⟨kw_885, kw_886, kw_887, kw_390, kw_424, by decide, by decide, by decide +kernel⟩
theorem vw_RL_58 : VWd RL 58 yX12_start cX12_start 2 (some .int) 0 := ⟨kw_888, kw_889, kw_890, kw_566, kw_687, by decide, by decide, by decide +kernel⟩
theorem vw_RL_59 : VWd RL 59 yX11_moment cX11_moment 4 (some .int) 3 := ⟨kw_891, kw_892, kw_893, kw_390, kw_427, by decide, by decide, by decide +kernel⟩
theorem vw_RL_62 : VWd RL 62 yX12_moment cX12_moment 4 (some .int) 3 := ⟨kw_894, kw_895, kw_896, kw_566, kw_709, by decide, by decide, by decide +kernel⟩
theorem vw_RL_63 : VWd RL 63 yX11_value cX11_value 2 (some .int) 1 := ⟨kw_897, kw_898, kw_899, kw_390, kw_428, by decide, by decide, by decide +kernel⟩
theorem vw_RL_66 : VWd RL 66 yX12_value cX12_value 2 (some .int) 1 := ⟨kw_900, kw_901, kw_902, kw_566, kw_710, by decide, by decide, by decide +kernel⟩
theorem vw_RL_67 : VWd RL 67 yX11_either cX11_either 4 (some .int) 1 := ⟨kw_903, kw_904, kw_905, kw_390, kw_433, by decide, by decide, by decide +kernel⟩
theorem vw_RL_70 : VWd RL 70 yX12_either cX12_either 2 (some .int) 1 := ⟨kw_906, kw_907, kw_908, kw_566, kw_711, by decide, by decide, by decide +kernel⟩
theorem vw_RL_71 : VWd RL 71 yX11_ticks cX11_ticks 3 (some .int) 2 := ⟨kw_909, kw_910, kw_911, kw_390, kw_437, by decide, by decide, by decide +kernel⟩
theorem vw_RL_74 : VWd RL 74 yX12_ticks cX12_ticks 3 (some .int) 2 := ⟨kw_912, kw_913, kw_914, kw_566, kw_712, by decide, by decide, by decide +kernel⟩
theorem vw_RL_75 : VWd RL 75 yX11_broken cX11_broken 4 (some .int) 1 := ⟨kw_915, kw_916, kw_917, kw_390, kw_445, by decide, by decide, by decide +kernel⟩
theorem vw_RL_78 : VWd RL 78 yX12_broken cX12_broken 3 (some .int) 1 := ⟨kw_918, kw_919, kw_920, kw_566, kw_713, by decide, by decide, by decide +kernel⟩
theorem vw_RL_79 : VWd RL 79 yX11_walk cX11_walk 2 (some .int) 0 := ⟨kw_921, kw_922, kw_923, kw_390, kw_457, by decide, by decide, by decide +kernel⟩
theorem vw_RL_82 : VWd RL 82 yX12_walk cX12_walk 6 (some .int) 0 := ⟨kw_924, kw_925, kw_926, kw_566, kw_748, by decide, by decide, by decide +kernel⟩
theorem vw_RL_83 : VWd RL 83 yX11_state cX11_state 3 (some .int) 2 := ⟨kw_927, kw_928, kw_929, kw_390, kw_458, by decide, by decide, by decide +kernel⟩
theorem vw_RL_86 : VWd RL 86 yX12_state cX12_state 3 (some .int) 2 := ⟨kw_930, kw_931, kw_932, kw_566, kw_758, by decide, by decide, by decide +kernel⟩
theorem vw_RL_87 : VWd RL 87 yX11_shown cX11_shown 3 (some .int) 2 := ⟨kw_933, kw_934, kw_935, kw_390, kw_466, by decide, by decide, by decide +kernel⟩
theorem vw_RL_90 : VWd RL 90 yX12_shown cX12_shown 3 (some .int) 2 := ⟨kw_936, kw_937, kw_938, kw_566, kw_759, by decide, by decide, by decide +kernel⟩
theorem vw_RL_91 : VWd RL 91 yX11_never cX11_never 3 (some .int) 2 := ⟨kw_939, kw_940, kw_941, kw_390, kw_467, by decide, by decide, by decide +kernel⟩
theorem vw_RL_94 : VWd RL 94 yX12_never cX12_never 3 (some .int) 2 := ⟨kw_942, kw_943, kw_944, kw_566, kw_760, by decide, by decide, by decide +kernel⟩
theorem vw_RL_95 : VWd RL 95 yX11_follow cX11_follow 2 (some .int) 1 := ⟨kw_945, kw_946, kw_947, kw_390, kw_473, by decide, by decide, by decide +kernel⟩
theorem vw_RL_98 : VWd RL 98 yX12_follow cX12_follow 4 (some .int) 1 := ⟨kw_948, kw_949, kw_950, kw_566, kw_761, by decide, by decide, by decide +kernel⟩
theorem vw_RL_99 : VWd RL 99 yX11_fewest cX11_fewest 2 (some .int) 1 := ⟨kw_951, kw_952, kw_953, kw_390, kw_479, by decide, by decide, by decide +kernel⟩
theorem vw_RL_102 : VWd RL 102 yX12_fewest cX12_fewest 5 (some .int) 1 := ⟨kw_954, kw_955, kw_956, kw_566, kw_762, by decide, by decide, by decide +kernel⟩
theorem vw_RL_103 : VWd RL 103 yX11_crossings cX11_crossings 1 (some .int) 0 := ⟨kw_957, kw_958, kw_959, kw_390, kw_482, by decide, by decide, by decide +kernel⟩
theorem vw_RL_106 : VWd RL 106 yX12_crossings cX12_crossings 3 (some .int) 0 := ⟨kw_960, kw_961, kw_962, kw_566, kw_799, by decide, by decide, by decide +kernel⟩
theorem vw_RL_107 : VWd RL 107 yX11_crossing cX11_crossing 4 (some .int) 2 := ⟨kw_963, kw_964, kw_965, kw_390, kw_493, by decide, by decide, by decide +kernel⟩
theorem vw_RL_110 : VWd RL 110 yX12_crossing cX12_crossing 4 (some .int) 2 := ⟨kw_966, kw_967, kw_968, kw_566, kw_809, by decide, by decide, by decide +kernel⟩
theorem vw_RL_111 : VWd RL 111 yX11_mend cX11_mend 4 (some .int) 1 := ⟨kw_969, kw_970, kw_971, kw_390, kw_497, by decide, by decide, by decide +kernel⟩
theorem vw_RL_114 : VWd RL 114 yX12_mend cX12_mend 5 (some .int) 1 := ⟨kw_972, kw_973, kw_974, kw_566, kw_810, by decide, by decide, by decide +kernel⟩
theorem vw_RL_115 : VWd RL 115 yX11_count cX11_count 2 (some .int) 1 := ⟨kw_975, kw_976, kw_977, kw_390, kw_498, by decide, by decide, by decide +kernel⟩
theorem vw_RL_118 : VWd RL 118 yX12_count cX12_count 2 (some .int) 1 := ⟨kw_978, kw_979, kw_980, kw_566, kw_811, by decide, by decide, by decide +kernel⟩
theorem vw_RL_119 : VWd RL 119 yX11_look cX11_look 3 (some .int) 2 := ⟨kw_981, kw_982, kw_983, kw_390, kw_500, by decide, by decide, by decide +kernel⟩
theorem vw_RL_122 : VWd RL 122 yX12_look_ cX12_look_ 3 (some .int) 2 := ⟨kw_984, kw_985, kw_986, kw_566, kw_812, by decide, by decide, by decide +kernel⟩
section LAWK
variable {p : Program} {l : Launch} {e : Env} {R : Room} {s : State} {m : MethodId} {args : Array Value} {below : List Frame} {meth : Method} {c : Code} {H : Heap} {locs : List Loc} {cells slots : Nat} {Q : State → Prop}
variable {ls : Array Slot} {D : va_G} {cy : Nat → ClassId} {ad ad2 : Nat → Nat} {tL : Nat} {cH : ClassId} {σ τ : St} {u : SU} {o b L i : Nat} {xs : Nat → Int32} {g : Nat → Int64} {A : Nat → Prop} {X : Nat → Sf}
theorem l_arg {cc : ByteArray} {pc j : Nat} {jn : Int} {rest : List Value} (hj : i + j < L) (hL : L ≤ 3072) (hjn : Int32.ofInt jn = nI j) (hx : p.tables.exec = Jvm.exec) (hb : c.code = cc) (hX : va_X b L xs s s.heap) (hbl : b < s.heap.size) (hbA : ¬ A b) (hS : va_S A s.heap H locs) (hl : lv_has ls 8 [(4, .int (nI i)), (0, .ref b), (1, .ref (ad 0)), (2, .ref (ad2 0)), (3, .ref o)]) (d0 : decode cc pc = .ok (.aload_n 0, 1)) (d1 : decode cc (pc + 1) = .ok (.iload 4, 2)) (d3 : decode cc (pc + 3) = .ok (.iconst jn, 1)) (d4 : decode cc (pc + 4) = .ok (.iadd, 1)) (d5 : decode cc (pc + 5) = .ok (.iaload, 1))
    (kk : W p l e R s m args below meth c H locs cells slots Q (F0 m (pc + 6) ls (.int (xs (i + j)) :: rest))) : W p l e R s m args below meth c H locs cells slots Q (F0 m pc ls rest) := by
  refine lv_aload_n hx hb d0 rfl (lv_at hl 1 rfl) ?_
  refine lv_iload hx hb d1 (lv_at hl 0 rfl) ?_
  refine lv_iconst (v := nI j) hx hb d3 hjn ?_
  refine lv_iadd hx hb d4 ?_
  rw [nI_add]
  refine va_sld hx hb hX hbl hbA hS (in_nI hj (by omega)) d5 ?_
  rw [cl_nI (by omega)]
  exact kk
theorem lc_input (hx : p.tables.exec = Jvm.exec) (hb : c.code = cL_law) (hml : c.maxLocals = 8) (hown : s.vm.findClass RL = some m.cls) (hg : ∀ w ∈ gAll, w.before args s = true) (hK : va_K D vwCl (tyH cy cH) s) (hA : ∀ q : Nat, s.heap.size ≤ q → A q) (hLB : lowB tL A s s.heap) (hX : va_X b L xs s s.heap) (hbl : b < s.heap.size) (hbA : ¬ A b) (hR : 11 ≤ R.frames ∧ 378 ≤ R.locals) (hc : cells ≤ R.cells ∧ slots ≤ R.slots) (hi : i + 6 ≤ L) (hL : L ≤ 3072) (hREP : REP σ τ) (hM : MSh τ X) (hSH : SHL cy u X) (hP : va_P D vwCl (lawW cy ad cH σ u ad2 τ o g) H) (hD : va_D A (lawW cy ad cH σ u ad2 τ o g)) (hS : va_S A s.heap H locs) (hl : lv_has ls 8 [(4, .int (nI i)), (0, .ref b), (1, .ref (ad 0)), (2, .ref (ad2 0)), (3, .ref o)])
    (kk : ∀ (σ' : St) (u' : SU) (τ' : St) (g' : Nat → Int64) (X' : Nat → Sf) (H1 : Heap) (locs1 : List Loc), REP σ' τ' → MSh τ' X' → SHL cy u' X' → va_P D vwCl (lawW cy ad cH σ' u' ad2 τ' o g') H1 → va_D A (lawW cy ad cH σ' u' ad2 τ' o g') → va_S A s.heap H1 locs1 → W p l e R s m args below meth c H1 locs1 (cells + 2) (slots + 62) Q (F0 m 1260 ls [])) : W p l e R s m args below meth c H locs cells slots Q (F0 m 176 ls []) := by
  refine lv_aload_n hx hb dL_law_176 rfl (lv_at hl 2 rfl) ?_
  refine l_arg (j := 1) (by omega) hL (by decide) hx hb hX hbl hbA hS hl dL_law_177 dL_law_178 dL_law_180 dL_law_181 dL_law_182 ?_
  refine l_cls (As := [.int (xs (i + 1))]) (rest := []) (c_X11_input l D cy ad tL σ _ _ (r_input hREP)) vw_RL_21 cb_11 hx hb hml hown hg hK hP hD hS hA hLB rfl ⟨by have := hR.1; omega, by have := hR.2; omega⟩ hc hl.1 rfl (Nat.le_of_ble_eq_true rfl) dL_law_183 (fun r σ1 hp H locs hP hD hS => ?_)
  refine lv_aload_n hx hb dL_law_186 rfl (lv_at hl 3 rfl) ?_
  refine l_arg (j := 1) (by omega) hL (by decide) hx hb hX hbl hbA hS hl dL_law_187 dL_law_188 dL_law_190 dL_law_191 dL_law_192 ?_
  refine l_ref (As := [.int (xs (i + 1))]) (rest := [.int r]) (c_X12_input l D cy ad2 tL τ _ _ hp) vw_RL_25 cb_12 hx hb hml hown hg hK hP hD hS hA hLB rfl ⟨by have := hR.1; omega, by have := hR.2; omega⟩ hc hl.1 rfl (Nat.le_of_ble_eq_true rfl) dL_law_193 (fun r1 τ1 hq H locs hP hD hS => ?_)
  obtain ⟨e1, h1, h2⟩ := hq
  subst e1
  exact lv_icmp_eq (tgt := 1260) hx hb dL_law_196 (by decide) (fun _ => W.widen (Nat.le_add_right _ _) (Nat.le_add_right _ _) (kk _ u _ g X H locs h1 (MSh_ag h2 hM) hSH hP hD hS)) (fun z => absurd rfl z)
theorem lc_keeper (hx : p.tables.exec = Jvm.exec) (hb : c.code = cL_law) (hml : c.maxLocals = 8) (hown : s.vm.findClass RL = some m.cls) (hg : ∀ w ∈ gAll, w.before args s = true) (hK : va_K D vwCl (tyH cy cH) s) (hA : ∀ q : Nat, s.heap.size ≤ q → A q) (hLB : lowB tL A s s.heap) (hX : va_X b L xs s s.heap) (hbl : b < s.heap.size) (hbA : ¬ A b) (hR : 11 ≤ R.frames ∧ 378 ≤ R.locals) (hc : cells ≤ R.cells ∧ slots ≤ R.slots) (hi : i + 6 ≤ L) (hL : L ≤ 3072) (hREP : REP σ τ) (hM : MSh τ X) (hSH : SHL cy u X) (hP : va_P D vwCl (lawW cy ad cH σ u ad2 τ o g) H) (hD : va_D A (lawW cy ad cH σ u ad2 τ o g)) (hS : va_S A s.heap H locs) (hl : lv_has ls 8 [(4, .int (nI i)), (0, .ref b), (1, .ref (ad 0)), (2, .ref (ad2 0)), (3, .ref o)])
    (kk : ∀ (σ' : St) (u' : SU) (τ' : St) (g' : Nat → Int64) (X' : Nat → Sf) (H1 : Heap) (locs1 : List Loc), REP σ' τ' → MSh τ' X' → SHL cy u' X' → va_P D vwCl (lawW cy ad cH σ' u' ad2 τ' o g') H1 → va_D A (lawW cy ad cH σ' u' ad2 τ' o g') → va_S A s.heap H1 locs1 → W p l e R s m args below meth c H1 locs1 (cells + 2) (slots + 62) Q (F0 m 1260 ls [])) : W p l e R s m args below meth c H locs cells slots Q (F0 m 201 ls []) := by
  refine lv_aload_n hx hb dL_law_201 rfl (lv_at hl 2 rfl) ?_
  refine l_arg (j := 1) (by omega) hL (by decide) hx hb hX hbl hbA hS hl dL_law_202 dL_law_203 dL_law_205 dL_law_206 dL_law_207 ?_
  refine l_arg (j := 2) (by omega) hL (by decide) hx hb hX hbl hbA hS hl dL_law_208 dL_law_209 dL_law_211 dL_law_212 dL_law_213 ?_
  refine l_cls (As := [.int (xs (i + 1)), .int (xs (i + 2))]) (rest := []) (c_X11_keeper l D cy ad tL σ _ _ _ (r_keeper hREP)) vw_RL_26 cb_11 hx hb hml hown hg hK hP hD hS hA hLB rfl ⟨by have := hR.1; omega, by have := hR.2; omega⟩ hc hl.1 rfl (Nat.le_of_ble_eq_true rfl) dL_law_214 (fun r σ1 hp H locs hP hD hS => ?_)
  refine lv_aload_n hx hb dL_law_217 rfl (lv_at hl 3 rfl) ?_
  refine l_arg (j := 1) (by omega) hL (by decide) hx hb hX hbl hbA hS hl dL_law_218 dL_law_219 dL_law_221 dL_law_222 dL_law_223 ?_
  refine l_arg (j := 2) (by omega) hL (by decide) hx hb hX hbl hbA hS hl dL_law_224 dL_law_225 dL_law_227 dL_law_228 dL_law_229 ?_
  refine l_ref (As := [.int (xs (i + 1)), .int (xs (i + 2))]) (rest := [.int r]) (c_X12_keeper l D cy ad2 tL τ _ _ _ hp) vw_RL_30 cb_12 hx hb hml hown hg hK hP hD hS hA hLB rfl ⟨by have := hR.1; omega, by have := hR.2; omega⟩ hc hl.1 rfl (Nat.le_of_ble_eq_true rfl) dL_law_230 (fun r1 τ1 hq H locs hP hD hS => ?_)
  obtain ⟨e1, h1, h2⟩ := hq
  subst e1
  exact lv_icmp_eq (tgt := 1260) hx hb dL_law_233 (by decide) (fun _ => W.widen (Nat.le_add_right _ _) (Nat.le_add_right _ _) (kk _ u _ g X H locs h1 (MSh_ag h2 hM) hSH hP hD hS)) (fun z => absurd rfl z)
theorem lc_gate (hx : p.tables.exec = Jvm.exec) (hb : c.code = cL_law) (hml : c.maxLocals = 8) (hown : s.vm.findClass RL = some m.cls) (hg : ∀ w ∈ gAll, w.before args s = true) (hK : va_K D vwCl (tyH cy cH) s) (hA : ∀ q : Nat, s.heap.size ≤ q → A q) (hLB : lowB tL A s s.heap) (hX : va_X b L xs s s.heap) (hbl : b < s.heap.size) (hbA : ¬ A b) (hR : 11 ≤ R.frames ∧ 378 ≤ R.locals) (hc : cells ≤ R.cells ∧ slots ≤ R.slots) (hi : i + 6 ≤ L) (hL : L ≤ 3072) (hREP : REP σ τ) (hM : MSh τ X) (hSH : SHL cy u X) (hP : va_P D vwCl (lawW cy ad cH σ u ad2 τ o g) H) (hD : va_D A (lawW cy ad cH σ u ad2 τ o g)) (hS : va_S A s.heap H locs) (hl : lv_has ls 8 [(4, .int (nI i)), (0, .ref b), (1, .ref (ad 0)), (2, .ref (ad2 0)), (3, .ref o)])
    (kk : ∀ (σ' : St) (u' : SU) (τ' : St) (g' : Nat → Int64) (X' : Nat → Sf) (H1 : Heap) (locs1 : List Loc), REP σ' τ' → MSh τ' X' → SHL cy u' X' → va_P D vwCl (lawW cy ad cH σ' u' ad2 τ' o g') H1 → va_D A (lawW cy ad cH σ' u' ad2 τ' o g') → va_S A s.heap H1 locs1 → W p l e R s m args below meth c H1 locs1 (cells + 2) (slots + 62) Q (F0 m 1260 ls [])) : W p l e R s m args below meth c H locs cells slots Q (F0 m 238 ls []) := by
  refine lv_aload_n hx hb dL_law_238 rfl (lv_at hl 2 rfl) ?_
  refine l_arg (j := 1) (by omega) hL (by decide) hx hb hX hbl hbA hS hl dL_law_239 dL_law_240 dL_law_242 dL_law_243 dL_law_244 ?_
  refine l_arg (j := 2) (by omega) hL (by decide) hx hb hX hbl hbA hS hl dL_law_245 dL_law_246 dL_law_248 dL_law_249 dL_law_250 ?_
  refine l_arg (j := 3) (by omega) hL (by decide) hx hb hX hbl hbA hS hl dL_law_251 dL_law_252 dL_law_254 dL_law_255 dL_law_256 ?_
  refine l_arg (j := 4) (by omega) hL (by decide) hx hb hX hbl hbA hS hl dL_law_257 dL_law_258 dL_law_260 dL_law_261 dL_law_262 ?_
  refine l_cls (As := [.int (xs (i + 1)), .int (xs (i + 2)), .int (xs (i + 3)), .int (xs (i + 4))]) (rest := []) (c_X11_gate l D cy ad tL σ _ _ _ _ _ (r_gate hREP)) vw_RL_31 cb_11 hx hb hml hown hg hK hP hD hS hA hLB rfl ⟨by have := hR.1; omega, by have := hR.2; omega⟩ hc hl.1 rfl (Nat.le_of_ble_eq_true rfl) dL_law_263 (fun r σ1 hp H locs hP hD hS => ?_)
  refine lv_aload_n hx hb dL_law_266 rfl (lv_at hl 3 rfl) ?_
  refine l_arg (j := 1) (by omega) hL (by decide) hx hb hX hbl hbA hS hl dL_law_267 dL_law_268 dL_law_270 dL_law_271 dL_law_272 ?_
  refine l_arg (j := 2) (by omega) hL (by decide) hx hb hX hbl hbA hS hl dL_law_273 dL_law_274 dL_law_276 dL_law_277 dL_law_278 ?_
  refine l_arg (j := 3) (by omega) hL (by decide) hx hb hX hbl hbA hS hl dL_law_279 dL_law_280 dL_law_282 dL_law_283 dL_law_284 ?_
  refine l_arg (j := 4) (by omega) hL (by decide) hx hb hX hbl hbA hS hl dL_law_285 dL_law_286 dL_law_288 dL_law_289 dL_law_290 ?_
  refine l_ref (As := [.int (xs (i + 1)), .int (xs (i + 2)), .int (xs (i + 3)), .int (xs (i + 4))]) (rest := [.int r]) (c_X12_gate l D cy ad2 tL τ _ _ _ _ _ hp) vw_RL_35 cb_12 hx hb hml hown hg hK hP hD hS hA hLB rfl ⟨by have := hR.1; omega, by have := hR.2; omega⟩ hc hl.1 rfl (Nat.le_of_ble_eq_true rfl) dL_law_291 (fun r1 τ1 hq H locs hP hD hS => ?_)
  obtain ⟨e1, h1, h2⟩ := hq
  subst e1
  exact lv_icmp_eq (tgt := 1260) hx hb dL_law_294 (by decide) (fun _ => W.widen (Nat.le_add_right _ _) (Nat.le_add_right _ _) (kk _ u _ g X H locs h1 (MSh_ag h2 hM) hSH hP hD hS)) (fun z => absurd rfl z)
theorem lc_connect (hx : p.tables.exec = Jvm.exec) (hb : c.code = cL_law) (hml : c.maxLocals = 8) (hown : s.vm.findClass RL = some m.cls) (hg : ∀ w ∈ gAll, w.before args s = true) (hK : va_K D vwCl (tyH cy cH) s) (hA : ∀ q : Nat, s.heap.size ≤ q → A q) (hLB : lowB tL A s s.heap) (hX : va_X b L xs s s.heap) (hbl : b < s.heap.size) (hbA : ¬ A b) (hR : 11 ≤ R.frames ∧ 378 ≤ R.locals) (hc : cells ≤ R.cells ∧ slots ≤ R.slots) (hi : i + 6 ≤ L) (hL : L ≤ 3072) (hREP : REP σ τ) (hM : MSh τ X) (hSH : SHL cy u X) (hP : va_P D vwCl (lawW cy ad cH σ u ad2 τ o g) H) (hD : va_D A (lawW cy ad cH σ u ad2 τ o g)) (hS : va_S A s.heap H locs) (hl : lv_has ls 8 [(4, .int (nI i)), (0, .ref b), (1, .ref (ad 0)), (2, .ref (ad2 0)), (3, .ref o)])
    (kk : ∀ (σ' : St) (u' : SU) (τ' : St) (g' : Nat → Int64) (X' : Nat → Sf) (H1 : Heap) (locs1 : List Loc), REP σ' τ' → MSh τ' X' → SHL cy u' X' → va_P D vwCl (lawW cy ad cH σ' u' ad2 τ' o g') H1 → va_D A (lawW cy ad cH σ' u' ad2 τ' o g') → va_S A s.heap H1 locs1 → W p l e R s m args below meth c H1 locs1 (cells + 2) (slots + 62) Q (F0 m 1260 ls [])) : W p l e R s m args below meth c H locs cells slots Q (F0 m 299 ls []) := by
  refine lv_aload_n hx hb dL_law_299 rfl (lv_at hl 2 rfl) ?_
  refine l_arg (j := 1) (by omega) hL (by decide) hx hb hX hbl hbA hS hl dL_law_300 dL_law_301 dL_law_303 dL_law_304 dL_law_305 ?_
  refine l_arg (j := 2) (by omega) hL (by decide) hx hb hX hbl hbA hS hl dL_law_306 dL_law_307 dL_law_309 dL_law_310 dL_law_311 ?_
  refine l_cls (As := [.int (xs (i + 1)), .int (xs (i + 2))]) (rest := []) (c_X11_connect l D cy ad tL σ _ _ _ (r_connect hREP)) vw_RL_36 cb_11 hx hb hml hown hg hK hP hD hS hA hLB rfl ⟨by have := hR.1; omega, by have := hR.2; omega⟩ hc hl.1 rfl (Nat.le_of_ble_eq_true rfl) dL_law_312 (fun r σ1 hp H locs hP hD hS => ?_)
  refine lv_aload_n hx hb dL_law_315 rfl (lv_at hl 3 rfl) ?_
  refine l_arg (j := 1) (by omega) hL (by decide) hx hb hX hbl hbA hS hl dL_law_316 dL_law_317 dL_law_319 dL_law_320 dL_law_321 ?_
  refine l_arg (j := 2) (by omega) hL (by decide) hx hb hX hbl hbA hS hl dL_law_322 dL_law_323 dL_law_325 dL_law_326 dL_law_327 ?_
  refine l_ref (As := [.int (xs (i + 1)), .int (xs (i + 2))]) (rest := [.int r]) (c_X12_connect l D cy ad2 tL τ _ _ _ hp) vw_RL_39 cb_12 hx hb hml hown hg hK hP hD hS hA hLB rfl ⟨by have := hR.1; omega, by have := hR.2; omega⟩ hc hl.1 rfl (Nat.le_of_ble_eq_true rfl) dL_law_328 (fun r1 τ1 hq H locs hP hD hS => ?_)
  obtain ⟨e1, h1, h2⟩ := hq
  subst e1
  exact lv_icmp_eq (tgt := 1260) hx hb dL_law_331 (by decide) (fun _ => W.widen (Nat.le_add_right _ _) (Nat.le_add_right _ _) (kk _ u _ g X H locs h1 (MSh_ag h2 hM) hSH hP hD hS)) (fun z => absurd rfl z)
theorem lc_bound (hx : p.tables.exec = Jvm.exec) (hb : c.code = cL_law) (hml : c.maxLocals = 8) (hown : s.vm.findClass RL = some m.cls) (hg : ∀ w ∈ gAll, w.before args s = true) (hK : va_K D vwCl (tyH cy cH) s) (hA : ∀ q : Nat, s.heap.size ≤ q → A q) (hLB : lowB tL A s s.heap) (hX : va_X b L xs s s.heap) (hbl : b < s.heap.size) (hbA : ¬ A b) (hR : 11 ≤ R.frames ∧ 378 ≤ R.locals) (hc : cells ≤ R.cells ∧ slots ≤ R.slots) (hi : i + 6 ≤ L) (hL : L ≤ 3072) (hREP : REP σ τ) (hM : MSh τ X) (hSH : SHL cy u X) (hP : va_P D vwCl (lawW cy ad cH σ u ad2 τ o g) H) (hD : va_D A (lawW cy ad cH σ u ad2 τ o g)) (hS : va_S A s.heap H locs) (hl : lv_has ls 8 [(4, .int (nI i)), (0, .ref b), (1, .ref (ad 0)), (2, .ref (ad2 0)), (3, .ref o)])
    (kk : ∀ (σ' : St) (u' : SU) (τ' : St) (g' : Nat → Int64) (X' : Nat → Sf) (H1 : Heap) (locs1 : List Loc), REP σ' τ' → MSh τ' X' → SHL cy u' X' → va_P D vwCl (lawW cy ad cH σ' u' ad2 τ' o g') H1 → va_D A (lawW cy ad cH σ' u' ad2 τ' o g') → va_S A s.heap H1 locs1 → W p l e R s m args below meth c H1 locs1 (cells + 2) (slots + 62) Q (F0 m 1260 ls [])) : W p l e R s m args below meth c H locs cells slots Q (F0 m 336 ls []) := by
  refine lv_aload_n hx hb dL_law_336 rfl (lv_at hl 2 rfl) ?_
  refine l_arg (j := 1) (by omega) hL (by decide) hx hb hX hbl hbA hS hl dL_law_337 dL_law_338 dL_law_340 dL_law_341 dL_law_342 ?_
  refine l_arg (j := 2) (by omega) hL (by decide) hx hb hX hbl hbA hS hl dL_law_343 dL_law_344 dL_law_346 dL_law_347 dL_law_348 ?_
  refine l_arg (j := 3) (by omega) hL (by decide) hx hb hX hbl hbA hS hl dL_law_349 dL_law_350 dL_law_352 dL_law_353 dL_law_354 ?_
  refine l_cls (As := [.int (xs (i + 1)), .int (xs (i + 2)), .int (xs (i + 3))]) (rest := []) (c_X11_bound l D cy ad tL σ _ _ _ _ (r_bound hREP)) vw_RL_40 cb_11 hx hb hml hown hg hK hP hD hS hA hLB rfl ⟨by have := hR.1; omega, by have := hR.2; omega⟩ hc hl.1 rfl (Nat.le_of_ble_eq_true rfl) dL_law_355 (fun r σ1 hp H locs hP hD hS => ?_)
  refine lv_aload_n hx hb dL_law_358 rfl (lv_at hl 3 rfl) ?_
  refine l_arg (j := 1) (by omega) hL (by decide) hx hb hX hbl hbA hS hl dL_law_359 dL_law_360 dL_law_362 dL_law_363 dL_law_364 ?_
  refine l_arg (j := 2) (by omega) hL (by decide) hx hb hX hbl hbA hS hl dL_law_365 dL_law_366 dL_law_368 dL_law_369 dL_law_370 ?_
  refine l_arg (j := 3) (by omega) hL (by decide) hx hb hX hbl hbA hS hl dL_law_371 dL_law_372 dL_law_374 dL_law_375 dL_law_376 ?_
  refine l_ref (As := [.int (xs (i + 1)), .int (xs (i + 2)), .int (xs (i + 3))]) (rest := [.int r]) (c_X12_bound l D cy ad2 tL τ _ _ _ _ hp) vw_RL_44 cb_12 hx hb hml hown hg hK hP hD hS hA hLB rfl ⟨by have := hR.1; omega, by have := hR.2; omega⟩ hc hl.1 rfl (Nat.le_of_ble_eq_true rfl) dL_law_377 (fun r1 τ1 hq H locs hP hD hS => ?_)
  obtain ⟨e1, h1, h2⟩ := hq
  subst e1
  exact lv_icmp_eq (tgt := 1260) hx hb dL_law_380 (by decide) (fun _ => W.widen (Nat.le_add_right _ _) (Nat.le_add_right _ _) (kk _ u _ g X H locs h1 (MSh_ag h2 hM) hSH hP hD hS)) (fun z => absurd rfl z)
theorem lc_promise (hx : p.tables.exec = Jvm.exec) (hb : c.code = cL_law) (hml : c.maxLocals = 8) (hown : s.vm.findClass RL = some m.cls) (hg : ∀ w ∈ gAll, w.before args s = true) (hK : va_K D vwCl (tyH cy cH) s) (hA : ∀ q : Nat, s.heap.size ≤ q → A q) (hLB : lowB tL A s s.heap) (hX : va_X b L xs s s.heap) (hbl : b < s.heap.size) (hbA : ¬ A b) (hR : 11 ≤ R.frames ∧ 378 ≤ R.locals) (hc : cells ≤ R.cells ∧ slots ≤ R.slots) (hi : i + 6 ≤ L) (hL : L ≤ 3072) (hREP : REP σ τ) (hM : MSh τ X) (hSH : SHL cy u X) (hP : va_P D vwCl (lawW cy ad cH σ u ad2 τ o g) H) (hD : va_D A (lawW cy ad cH σ u ad2 τ o g)) (hS : va_S A s.heap H locs) (hl : lv_has ls 8 [(4, .int (nI i)), (0, .ref b), (1, .ref (ad 0)), (2, .ref (ad2 0)), (3, .ref o)])
    (kk : ∀ (σ' : St) (u' : SU) (τ' : St) (g' : Nat → Int64) (X' : Nat → Sf) (H1 : Heap) (locs1 : List Loc), REP σ' τ' → MSh τ' X' → SHL cy u' X' → va_P D vwCl (lawW cy ad cH σ' u' ad2 τ' o g') H1 → va_D A (lawW cy ad cH σ' u' ad2 τ' o g') → va_S A s.heap H1 locs1 → W p l e R s m args below meth c H1 locs1 (cells + 2) (slots + 62) Q (F0 m 1260 ls [])) : W p l e R s m args below meth c H locs cells slots Q (F0 m 438 ls []) := by
  refine lv_aload_n hx hb dL_law_438 rfl (lv_at hl 2 rfl) ?_
  refine l_arg (j := 1) (by omega) hL (by decide) hx hb hX hbl hbA hS hl dL_law_439 dL_law_440 dL_law_442 dL_law_443 dL_law_444 ?_
  refine l_arg (j := 2) (by omega) hL (by decide) hx hb hX hbl hbA hS hl dL_law_445 dL_law_446 dL_law_448 dL_law_449 dL_law_450 ?_
  refine l_arg (j := 3) (by omega) hL (by decide) hx hb hX hbl hbA hS hl dL_law_451 dL_law_452 dL_law_454 dL_law_455 dL_law_456 ?_
  refine l_cls (As := [.int (xs (i + 1)), .int (xs (i + 2)), .int (xs (i + 3))]) (rest := []) (c_X11_promise l D cy ad tL σ _ _ _ _ (r_promise hREP)) vw_RL_50 cb_11 hx hb hml hown hg hK hP hD hS hA hLB rfl ⟨by have := hR.1; omega, by have := hR.2; omega⟩ hc hl.1 rfl (Nat.le_of_ble_eq_true rfl) dL_law_457 (fun r σ1 hp H locs hP hD hS => ?_)
  refine lv_aload_n hx hb dL_law_460 rfl (lv_at hl 3 rfl) ?_
  refine l_arg (j := 1) (by omega) hL (by decide) hx hb hX hbl hbA hS hl dL_law_461 dL_law_462 dL_law_464 dL_law_465 dL_law_466 ?_
  refine l_arg (j := 2) (by omega) hL (by decide) hx hb hX hbl hbA hS hl dL_law_467 dL_law_468 dL_law_470 dL_law_471 dL_law_472 ?_
  refine l_arg (j := 3) (by omega) hL (by decide) hx hb hX hbl hbA hS hl dL_law_473 dL_law_474 dL_law_476 dL_law_477 dL_law_478 ?_
  refine l_ref (As := [.int (xs (i + 1)), .int (xs (i + 2)), .int (xs (i + 3))]) (rest := [.int r]) (c_X12_promise l D cy ad2 tL τ _ _ _ _ hp) vw_RL_53 cb_12 hx hb hml hown hg hK hP hD hS hA hLB rfl ⟨by have := hR.1; omega, by have := hR.2; omega⟩ hc hl.1 rfl (Nat.le_of_ble_eq_true rfl) dL_law_479 (fun r1 τ1 hq H locs hP hD hS => ?_)
  obtain ⟨e1, h1, h2⟩ := hq
  subst e1
  exact lv_icmp_eq (tgt := 1260) hx hb dL_law_482 (by decide) (fun _ => W.widen (Nat.le_add_right _ _) (Nat.le_add_right _ _) (kk _ u _ g X H locs h1 (MSh_ag h2 hM) hSH hP hD hS)) (fun z => absurd rfl z)
theorem lc_start (hx : p.tables.exec = Jvm.exec) (hb : c.code = cL_law) (hml : c.maxLocals = 8) (hown : s.vm.findClass RL = some m.cls) (hg : ∀ w ∈ gAll, w.before args s = true) (hK : va_K D vwCl (tyH cy cH) s) (hA : ∀ q : Nat, s.heap.size ≤ q → A q) (hLB : lowB tL A s s.heap) (hX : va_X b L xs s s.heap) (hbl : b < s.heap.size) (hbA : ¬ A b) (hR : 11 ≤ R.frames ∧ 378 ≤ R.locals) (hc : cells ≤ R.cells ∧ slots ≤ R.slots) (hi : i + 6 ≤ L) (hL : L ≤ 3072) (hREP : REP σ τ) (hM : MSh τ X) (hSH : SHL cy u X) (hP : va_P D vwCl (lawW cy ad cH σ u ad2 τ o g) H) (hD : va_D A (lawW cy ad cH σ u ad2 τ o g)) (hS : va_S A s.heap H locs) (hl : lv_has ls 8 [(4, .int (nI i)), (0, .ref b), (1, .ref (ad 0)), (2, .ref (ad2 0)), (3, .ref o)])
    (kk : ∀ (σ' : St) (u' : SU) (τ' : St) (g' : Nat → Int64) (X' : Nat → Sf) (H1 : Heap) (locs1 : List Loc), REP σ' τ' → MSh τ' X' → SHL cy u' X' → va_P D vwCl (lawW cy ad cH σ' u' ad2 τ' o g') H1 → va_D A (lawW cy ad cH σ' u' ad2 τ' o g') → va_S A s.heap H1 locs1 → W p l e R s m args below meth c H1 locs1 (cells + 2) (slots + 62) Q (F0 m 1260 ls [])) : W p l e R s m args below meth c H locs cells slots Q (F0 m 487 ls []) := by
  refine lv_aload_n hx hb dL_law_487 rfl (lv_at hl 2 rfl) ?_
  refine l_cls (As := []) (rest := []) (c_X11_start l D cy ad tL σ  _ (r_start hREP)) vw_RL_54 cb_11 hx hb hml hown hg hK hP hD hS hA hLB rfl ⟨by have := hR.1; omega, by have := hR.2; omega⟩ hc hl.1 rfl (Nat.le_of_ble_eq_true rfl) dL_law_488 (fun r σ1 hp H locs hP hD hS => ?_)
  refine lv_aload_n hx hb dL_law_491 rfl (lv_at hl 3 rfl) ?_
  refine l_ref (As := []) (rest := [.int r]) (c_X12_start l D cy ad2 tL τ  _ hp) vw_RL_58 cb_12 hx hb hml hown hg hK hP hD hS hA hLB rfl ⟨by have := hR.1; omega, by have := hR.2; omega⟩ hc hl.1 rfl (Nat.le_of_ble_eq_true rfl) dL_law_492 (fun r1 τ1 hq H locs hP hD hS => ?_)
  obtain ⟨e1, h1, h2⟩ := hq
  subst e1
  exact lv_icmp_eq (tgt := 1260) hx hb dL_law_495 (by decide) (fun _ => W.widen (Nat.le_add_right _ _) (Nat.le_add_right _ _) (kk _ u _ g X H locs h1 (MSh_ag h2 hM) hSH hP hD hS)) (fun z => absurd rfl z)
theorem lc_moment (hx : p.tables.exec = Jvm.exec) (hb : c.code = cL_law) (hml : c.maxLocals = 8) (hown : s.vm.findClass RL = some m.cls) (hg : ∀ w ∈ gAll, w.before args s = true) (hK : va_K D vwCl (tyH cy cH) s) (hA : ∀ q : Nat, s.heap.size ≤ q → A q) (hLB : lowB tL A s s.heap) (hX : va_X b L xs s s.heap) (hbl : b < s.heap.size) (hbA : ¬ A b) (hR : 11 ≤ R.frames ∧ 378 ≤ R.locals) (hc : cells ≤ R.cells ∧ slots ≤ R.slots) (hi : i + 6 ≤ L) (hL : L ≤ 3072) (hREP : REP σ τ) (hM : MSh τ X) (hSH : SHL cy u X) (hP : va_P D vwCl (lawW cy ad cH σ u ad2 τ o g) H) (hD : va_D A (lawW cy ad cH σ u ad2 τ o g)) (hS : va_S A s.heap H locs) (hl : lv_has ls 8 [(4, .int (nI i)), (0, .ref b), (1, .ref (ad 0)), (2, .ref (ad2 0)), (3, .ref o)])
    (kk : ∀ (σ' : St) (u' : SU) (τ' : St) (g' : Nat → Int64) (X' : Nat → Sf) (H1 : Heap) (locs1 : List Loc), REP σ' τ' → MSh τ' X' → SHL cy u' X' → va_P D vwCl (lawW cy ad cH σ' u' ad2 τ' o g') H1 → va_D A (lawW cy ad cH σ' u' ad2 τ' o g') → va_S A s.heap H1 locs1 → W p l e R s m args below meth c H1 locs1 (cells + 2) (slots + 62) Q (F0 m 1260 ls [])) : W p l e R s m args below meth c H locs cells slots Q (F0 m 500 ls []) := by
  refine lv_aload_n hx hb dL_law_500 rfl (lv_at hl 2 rfl) ?_
  refine l_arg (j := 1) (by omega) hL (by decide) hx hb hX hbl hbA hS hl dL_law_501 dL_law_502 dL_law_504 dL_law_505 dL_law_506 ?_
  refine l_arg (j := 2) (by omega) hL (by decide) hx hb hX hbl hbA hS hl dL_law_507 dL_law_508 dL_law_510 dL_law_511 dL_law_512 ?_
  refine l_arg (j := 3) (by omega) hL (by decide) hx hb hX hbl hbA hS hl dL_law_513 dL_law_514 dL_law_516 dL_law_517 dL_law_518 ?_
  refine l_cls (As := [.int (xs (i + 1)), .int (xs (i + 2)), .int (xs (i + 3))]) (rest := []) (c_X11_moment l D cy ad tL σ _ _ _ _ (r_moment hREP)) vw_RL_59 cb_11 hx hb hml hown hg hK hP hD hS hA hLB rfl ⟨by have := hR.1; omega, by have := hR.2; omega⟩ hc hl.1 rfl (Nat.le_of_ble_eq_true rfl) dL_law_519 (fun r σ1 hp H locs hP hD hS => ?_)
  refine lv_aload_n hx hb dL_law_522 rfl (lv_at hl 3 rfl) ?_
  refine l_arg (j := 1) (by omega) hL (by decide) hx hb hX hbl hbA hS hl dL_law_523 dL_law_524 dL_law_526 dL_law_527 dL_law_528 ?_
  refine l_arg (j := 2) (by omega) hL (by decide) hx hb hX hbl hbA hS hl dL_law_529 dL_law_530 dL_law_532 dL_law_533 dL_law_534 ?_
  refine l_arg (j := 3) (by omega) hL (by decide) hx hb hX hbl hbA hS hl dL_law_535 dL_law_536 dL_law_538 dL_law_539 dL_law_540 ?_
  refine l_ref (As := [.int (xs (i + 1)), .int (xs (i + 2)), .int (xs (i + 3))]) (rest := [.int r]) (c_X12_moment l D cy ad2 tL τ _ _ _ _ hp) vw_RL_62 cb_12 hx hb hml hown hg hK hP hD hS hA hLB rfl ⟨by have := hR.1; omega, by have := hR.2; omega⟩ hc hl.1 rfl (Nat.le_of_ble_eq_true rfl) dL_law_541 (fun r1 τ1 hq H locs hP hD hS => ?_)
  obtain ⟨e1, h1, h2⟩ := hq
  subst e1
  exact lv_icmp_eq (tgt := 1260) hx hb dL_law_544 (by decide) (fun _ => W.widen (Nat.le_add_right _ _) (Nat.le_add_right _ _) (kk _ u _ g X H locs h1 (MSh_ag h2 hM) hSH hP hD hS)) (fun z => absurd rfl z)
theorem lc_value (hx : p.tables.exec = Jvm.exec) (hb : c.code = cL_law) (hml : c.maxLocals = 8) (hown : s.vm.findClass RL = some m.cls) (hg : ∀ w ∈ gAll, w.before args s = true) (hK : va_K D vwCl (tyH cy cH) s) (hA : ∀ q : Nat, s.heap.size ≤ q → A q) (hLB : lowB tL A s s.heap) (hX : va_X b L xs s s.heap) (hbl : b < s.heap.size) (hbA : ¬ A b) (hR : 11 ≤ R.frames ∧ 378 ≤ R.locals) (hc : cells ≤ R.cells ∧ slots ≤ R.slots) (hi : i + 6 ≤ L) (hL : L ≤ 3072) (hREP : REP σ τ) (hM : MSh τ X) (hSH : SHL cy u X) (hP : va_P D vwCl (lawW cy ad cH σ u ad2 τ o g) H) (hD : va_D A (lawW cy ad cH σ u ad2 τ o g)) (hS : va_S A s.heap H locs) (hl : lv_has ls 8 [(4, .int (nI i)), (0, .ref b), (1, .ref (ad 0)), (2, .ref (ad2 0)), (3, .ref o)])
    (kk : ∀ (σ' : St) (u' : SU) (τ' : St) (g' : Nat → Int64) (X' : Nat → Sf) (H1 : Heap) (locs1 : List Loc), REP σ' τ' → MSh τ' X' → SHL cy u' X' → va_P D vwCl (lawW cy ad cH σ' u' ad2 τ' o g') H1 → va_D A (lawW cy ad cH σ' u' ad2 τ' o g') → va_S A s.heap H1 locs1 → W p l e R s m args below meth c H1 locs1 (cells + 2) (slots + 62) Q (F0 m 1260 ls [])) : W p l e R s m args below meth c H locs cells slots Q (F0 m 549 ls []) := by
  refine lv_aload_n hx hb dL_law_549 rfl (lv_at hl 2 rfl) ?_
  refine l_arg (j := 1) (by omega) hL (by decide) hx hb hX hbl hbA hS hl dL_law_550 dL_law_551 dL_law_553 dL_law_554 dL_law_555 ?_
  refine l_cls (As := [.int (xs (i + 1))]) (rest := []) (c_X11_value l D cy ad tL σ _ _ (r_value hREP)) vw_RL_63 cb_11 hx hb hml hown hg hK hP hD hS hA hLB rfl ⟨by have := hR.1; omega, by have := hR.2; omega⟩ hc hl.1 rfl (Nat.le_of_ble_eq_true rfl) dL_law_556 (fun r σ1 hp H locs hP hD hS => ?_)
  obtain ⟨hp, rfl⟩ := hp
  refine lv_aload_n hx hb dL_law_559 rfl (lv_at hl 3 rfl) ?_
  refine l_arg (j := 1) (by omega) hL (by decide) hx hb hX hbl hbA hS hl dL_law_560 dL_law_561 dL_law_563 dL_law_564 dL_law_565 ?_
  refine l_ref (As := [.int (xs (i + 1))]) (rest := [.int r]) (c_X12_value l D cy ad2 tL τ _ _ hp) vw_RL_66 cb_12 hx hb hml hown hg hK hP hD hS hA hLB rfl ⟨by have := hR.1; omega, by have := hR.2; omega⟩ hc hl.1 rfl (Nat.le_of_ble_eq_true rfl) dL_law_566 (fun r1 τ1 hq H locs hP hD hS => ?_)
  obtain ⟨e1, h1, h2⟩ := hq
  subst e1
  exact lv_icmp_eq (tgt := 1260) hx hb dL_law_569 (by decide) (fun _ => W.widen (Nat.le_add_right _ _) (Nat.le_add_right _ _) (kk _ u _ g X H locs h1 (MSh_ag h2 hM) hSH hP hD hS)) (fun z => absurd rfl z)
theorem lc_either (hx : p.tables.exec = Jvm.exec) (hb : c.code = cL_law) (hml : c.maxLocals = 8) (hown : s.vm.findClass RL = some m.cls) (hg : ∀ w ∈ gAll, w.before args s = true) (hK : va_K D vwCl (tyH cy cH) s) (hA : ∀ q : Nat, s.heap.size ≤ q → A q) (hLB : lowB tL A s s.heap) (hX : va_X b L xs s s.heap) (hbl : b < s.heap.size) (hbA : ¬ A b) (hR : 11 ≤ R.frames ∧ 378 ≤ R.locals) (hc : cells ≤ R.cells ∧ slots ≤ R.slots) (hi : i + 6 ≤ L) (hL : L ≤ 3072) (hREP : REP σ τ) (hM : MSh τ X) (hSH : SHL cy u X) (hP : va_P D vwCl (lawW cy ad cH σ u ad2 τ o g) H) (hD : va_D A (lawW cy ad cH σ u ad2 τ o g)) (hS : va_S A s.heap H locs) (hl : lv_has ls 8 [(4, .int (nI i)), (0, .ref b), (1, .ref (ad 0)), (2, .ref (ad2 0)), (3, .ref o)])
    (kk : ∀ (σ' : St) (u' : SU) (τ' : St) (g' : Nat → Int64) (X' : Nat → Sf) (H1 : Heap) (locs1 : List Loc), REP σ' τ' → MSh τ' X' → SHL cy u' X' → va_P D vwCl (lawW cy ad cH σ' u' ad2 τ' o g') H1 → va_D A (lawW cy ad cH σ' u' ad2 τ' o g') → va_S A s.heap H1 locs1 → W p l e R s m args below meth c H1 locs1 (cells + 2) (slots + 62) Q (F0 m 1260 ls [])) : W p l e R s m args below meth c H locs cells slots Q (F0 m 574 ls []) := by
  refine lv_aload_n hx hb dL_law_574 rfl (lv_at hl 2 rfl) ?_
  refine l_arg (j := 1) (by omega) hL (by decide) hx hb hX hbl hbA hS hl dL_law_575 dL_law_576 dL_law_578 dL_law_579 dL_law_580 ?_
  refine l_cls (As := [.int (xs (i + 1))]) (rest := []) (c_X11_either l D cy ad tL σ _ _ (r_either hREP)) vw_RL_67 cb_11 hx hb hml hown hg hK hP hD hS hA hLB rfl ⟨by have := hR.1; omega, by have := hR.2; omega⟩ hc hl.1 rfl (Nat.le_of_ble_eq_true rfl) dL_law_581 (fun r σ1 hp H locs hP hD hS => ?_)
  obtain ⟨hp, rfl⟩ := hp
  refine lv_aload_n hx hb dL_law_584 rfl (lv_at hl 3 rfl) ?_
  refine l_arg (j := 1) (by omega) hL (by decide) hx hb hX hbl hbA hS hl dL_law_585 dL_law_586 dL_law_588 dL_law_589 dL_law_590 ?_
  refine l_ref (As := [.int (xs (i + 1))]) (rest := [.int r]) (c_X12_either l D cy ad2 tL τ _ _ hp) vw_RL_70 cb_12 hx hb hml hown hg hK hP hD hS hA hLB rfl ⟨by have := hR.1; omega, by have := hR.2; omega⟩ hc hl.1 rfl (Nat.le_of_ble_eq_true rfl) dL_law_591 (fun r1 τ1 hq H locs hP hD hS => ?_)
  obtain ⟨e1, h1, h2⟩ := hq
  subst e1
  exact lv_icmp_eq (tgt := 1260) hx hb dL_law_594 (by decide) (fun _ => W.widen (Nat.le_add_right _ _) (Nat.le_add_right _ _) (kk _ u _ g X H locs h1 (MSh_ag h2 hM) hSH hP hD hS)) (fun z => absurd rfl z)
theorem lc_ticks (hx : p.tables.exec = Jvm.exec) (hb : c.code = cL_law) (hml : c.maxLocals = 8) (hown : s.vm.findClass RL = some m.cls) (hg : ∀ w ∈ gAll, w.before args s = true) (hK : va_K D vwCl (tyH cy cH) s) (hA : ∀ q : Nat, s.heap.size ≤ q → A q) (hLB : lowB tL A s s.heap) (hX : va_X b L xs s s.heap) (hbl : b < s.heap.size) (hbA : ¬ A b) (hR : 11 ≤ R.frames ∧ 378 ≤ R.locals) (hc : cells ≤ R.cells ∧ slots ≤ R.slots) (hi : i + 6 ≤ L) (hL : L ≤ 3072) (hREP : REP σ τ) (hM : MSh τ X) (hSH : SHL cy u X) (hP : va_P D vwCl (lawW cy ad cH σ u ad2 τ o g) H) (hD : va_D A (lawW cy ad cH σ u ad2 τ o g)) (hS : va_S A s.heap H locs) (hl : lv_has ls 8 [(4, .int (nI i)), (0, .ref b), (1, .ref (ad 0)), (2, .ref (ad2 0)), (3, .ref o)])
    (kk : ∀ (σ' : St) (u' : SU) (τ' : St) (g' : Nat → Int64) (X' : Nat → Sf) (H1 : Heap) (locs1 : List Loc), REP σ' τ' → MSh τ' X' → SHL cy u' X' → va_P D vwCl (lawW cy ad cH σ' u' ad2 τ' o g') H1 → va_D A (lawW cy ad cH σ' u' ad2 τ' o g') → va_S A s.heap H1 locs1 → W p l e R s m args below meth c H1 locs1 (cells + 2) (slots + 62) Q (F0 m 1260 ls [])) : W p l e R s m args below meth c H locs cells slots Q (F0 m 599 ls []) := by
  refine lv_aload_n hx hb dL_law_599 rfl (lv_at hl 2 rfl) ?_
  refine l_arg (j := 1) (by omega) hL (by decide) hx hb hX hbl hbA hS hl dL_law_600 dL_law_601 dL_law_603 dL_law_604 dL_law_605 ?_
  refine l_arg (j := 2) (by omega) hL (by decide) hx hb hX hbl hbA hS hl dL_law_606 dL_law_607 dL_law_609 dL_law_610 dL_law_611 ?_
  refine l_cls (As := [.int (xs (i + 1)), .int (xs (i + 2))]) (rest := []) (c_X11_ticks l D cy ad tL σ _ _ _ (r_ticks hREP)) vw_RL_71 cb_11 hx hb hml hown hg hK hP hD hS hA hLB rfl ⟨by have := hR.1; omega, by have := hR.2; omega⟩ hc hl.1 rfl (Nat.le_of_ble_eq_true rfl) dL_law_612 (fun r σ1 hp H locs hP hD hS => ?_)
  obtain ⟨hp, rfl⟩ := hp
  refine lv_aload_n hx hb dL_law_615 rfl (lv_at hl 3 rfl) ?_
  refine l_arg (j := 1) (by omega) hL (by decide) hx hb hX hbl hbA hS hl dL_law_616 dL_law_617 dL_law_619 dL_law_620 dL_law_621 ?_
  refine l_arg (j := 2) (by omega) hL (by decide) hx hb hX hbl hbA hS hl dL_law_622 dL_law_623 dL_law_625 dL_law_626 dL_law_627 ?_
  refine l_ref (As := [.int (xs (i + 1)), .int (xs (i + 2))]) (rest := [.int r]) (c_X12_ticks l D cy ad2 tL τ _ _ _ hp) vw_RL_74 cb_12 hx hb hml hown hg hK hP hD hS hA hLB rfl ⟨by have := hR.1; omega, by have := hR.2; omega⟩ hc hl.1 rfl (Nat.le_of_ble_eq_true rfl) dL_law_628 (fun r1 τ1 hq H locs hP hD hS => ?_)
  obtain ⟨e1, h1, h2⟩ := hq
  subst e1
  exact lv_icmp_eq (tgt := 1260) hx hb dL_law_631 (by decide) (fun _ => W.widen (Nat.le_add_right _ _) (Nat.le_add_right _ _) (kk _ u _ g X H locs h1 (MSh_ag h2 hM) hSH hP hD hS)) (fun z => absurd rfl z)
theorem lc_broken (hx : p.tables.exec = Jvm.exec) (hb : c.code = cL_law) (hml : c.maxLocals = 8) (hown : s.vm.findClass RL = some m.cls) (hg : ∀ w ∈ gAll, w.before args s = true) (hK : va_K D vwCl (tyH cy cH) s) (hA : ∀ q : Nat, s.heap.size ≤ q → A q) (hLB : lowB tL A s s.heap) (hX : va_X b L xs s s.heap) (hbl : b < s.heap.size) (hbA : ¬ A b) (hR : 11 ≤ R.frames ∧ 378 ≤ R.locals) (hc : cells ≤ R.cells ∧ slots ≤ R.slots) (hi : i + 6 ≤ L) (hL : L ≤ 3072) (hREP : REP σ τ) (hM : MSh τ X) (hSH : SHL cy u X) (hP : va_P D vwCl (lawW cy ad cH σ u ad2 τ o g) H) (hD : va_D A (lawW cy ad cH σ u ad2 τ o g)) (hS : va_S A s.heap H locs) (hl : lv_has ls 8 [(4, .int (nI i)), (0, .ref b), (1, .ref (ad 0)), (2, .ref (ad2 0)), (3, .ref o)])
    (kk : ∀ (σ' : St) (u' : SU) (τ' : St) (g' : Nat → Int64) (X' : Nat → Sf) (H1 : Heap) (locs1 : List Loc), REP σ' τ' → MSh τ' X' → SHL cy u' X' → va_P D vwCl (lawW cy ad cH σ' u' ad2 τ' o g') H1 → va_D A (lawW cy ad cH σ' u' ad2 τ' o g') → va_S A s.heap H1 locs1 → W p l e R s m args below meth c H1 locs1 (cells + 2) (slots + 62) Q (F0 m 1260 ls [])) : W p l e R s m args below meth c H locs cells slots Q (F0 m 636 ls []) := by
  refine lv_aload_n hx hb dL_law_636 rfl (lv_at hl 2 rfl) ?_
  refine l_arg (j := 1) (by omega) hL (by decide) hx hb hX hbl hbA hS hl dL_law_637 dL_law_638 dL_law_640 dL_law_641 dL_law_642 ?_
  refine l_cls (As := [.int (xs (i + 1))]) (rest := []) (c_X11_broken l D cy ad tL σ _ _ (r_broken hREP)) vw_RL_75 cb_11 hx hb hml hown hg hK hP hD hS hA hLB rfl ⟨by have := hR.1; omega, by have := hR.2; omega⟩ hc hl.1 rfl (Nat.le_of_ble_eq_true rfl) dL_law_643 (fun r σ1 hp H locs hP hD hS => ?_)
  obtain ⟨hp, rfl⟩ := hp
  refine lv_aload_n hx hb dL_law_646 rfl (lv_at hl 3 rfl) ?_
  refine l_arg (j := 1) (by omega) hL (by decide) hx hb hX hbl hbA hS hl dL_law_647 dL_law_648 dL_law_650 dL_law_651 dL_law_652 ?_
  refine l_ref (As := [.int (xs (i + 1))]) (rest := [.int r]) (c_X12_broken l D cy ad2 tL τ _ _ hp) vw_RL_78 cb_12 hx hb hml hown hg hK hP hD hS hA hLB rfl ⟨by have := hR.1; omega, by have := hR.2; omega⟩ hc hl.1 rfl (Nat.le_of_ble_eq_true rfl) dL_law_653 (fun r1 τ1 hq H locs hP hD hS => ?_)
  obtain ⟨e1, h1, h2⟩ := hq
  subst e1
  exact lv_icmp_eq (tgt := 1260) hx hb dL_law_656 (by decide) (fun _ => W.widen (Nat.le_add_right _ _) (Nat.le_add_right _ _) (kk _ u _ g X H locs h1 (MSh_ag h2 hM) hSH hP hD hS)) (fun z => absurd rfl z)
theorem lc_walk (hx : p.tables.exec = Jvm.exec) (hb : c.code = cL_law) (hml : c.maxLocals = 8) (hown : s.vm.findClass RL = some m.cls) (hg : ∀ w ∈ gAll, w.before args s = true) (hK : va_K D vwCl (tyH cy cH) s) (hA : ∀ q : Nat, s.heap.size ≤ q → A q) (hLB : lowB tL A s s.heap) (hX : va_X b L xs s s.heap) (hbl : b < s.heap.size) (hbA : ¬ A b) (hR : 11 ≤ R.frames ∧ 378 ≤ R.locals) (hc : cells ≤ R.cells ∧ slots ≤ R.slots) (hi : i + 6 ≤ L) (hL : L ≤ 3072) (hREP : REP σ τ) (hM : MSh τ X) (hSH : SHL cy u X) (hP : va_P D vwCl (lawW cy ad cH σ u ad2 τ o g) H) (hD : va_D A (lawW cy ad cH σ u ad2 τ o g)) (hS : va_S A s.heap H locs) (hl : lv_has ls 8 [(4, .int (nI i)), (0, .ref b), (1, .ref (ad 0)), (2, .ref (ad2 0)), (3, .ref o)])
    (kk : ∀ (σ' : St) (u' : SU) (τ' : St) (g' : Nat → Int64) (X' : Nat → Sf) (H1 : Heap) (locs1 : List Loc), REP σ' τ' → MSh τ' X' → SHL cy u' X' → va_P D vwCl (lawW cy ad cH σ' u' ad2 τ' o g') H1 → va_D A (lawW cy ad cH σ' u' ad2 τ' o g') → va_S A s.heap H1 locs1 → W p l e R s m args below meth c H1 locs1 (cells + 2) (slots + 62) Q (F0 m 1260 ls [])) : W p l e R s m args below meth c H locs cells slots Q (F0 m 661 ls []) := by
  refine lv_aload_n hx hb dL_law_661 rfl (lv_at hl 2 rfl) ?_
  refine l_cls (As := []) (rest := []) (c_X11_walk l D cy ad tL σ  _ (r_walk hREP)) vw_RL_79 cb_11 hx hb hml hown hg hK hP hD hS hA hLB rfl ⟨by have := hR.1; omega, by have := hR.2; omega⟩ hc hl.1 rfl (Nat.le_of_ble_eq_true rfl) dL_law_662 (fun r σ1 hp H locs hP hD hS => ?_)
  refine lv_aload_n hx hb dL_law_665 rfl (lv_at hl 3 rfl) ?_
  refine l_ref (As := []) (rest := [.int r]) (c_X12_walk l D cy ad2 tL τ  _ hp) vw_RL_82 cb_12 hx hb hml hown hg hK hP hD hS hA hLB rfl ⟨by have := hR.1; omega, by have := hR.2; omega⟩ hc hl.1 rfl (Nat.le_of_ble_eq_true rfl) dL_law_666 (fun r1 τ1 hq H locs hP hD hS => ?_)
  obtain ⟨e1, h1, h2⟩ := hq
  subst e1
  exact lv_icmp_eq (tgt := 1260) hx hb dL_law_669 (by decide) (fun _ => W.widen (Nat.le_add_right _ _) (Nat.le_add_right _ _) (kk _ u _ g X H locs h1 (MSh_ag h2 hM) hSH hP hD hS)) (fun z => absurd rfl z)
theorem lc_state (hx : p.tables.exec = Jvm.exec) (hb : c.code = cL_law) (hml : c.maxLocals = 8) (hown : s.vm.findClass RL = some m.cls) (hg : ∀ w ∈ gAll, w.before args s = true) (hK : va_K D vwCl (tyH cy cH) s) (hA : ∀ q : Nat, s.heap.size ≤ q → A q) (hLB : lowB tL A s s.heap) (hX : va_X b L xs s s.heap) (hbl : b < s.heap.size) (hbA : ¬ A b) (hR : 11 ≤ R.frames ∧ 378 ≤ R.locals) (hc : cells ≤ R.cells ∧ slots ≤ R.slots) (hi : i + 6 ≤ L) (hL : L ≤ 3072) (hREP : REP σ τ) (hM : MSh τ X) (hSH : SHL cy u X) (hP : va_P D vwCl (lawW cy ad cH σ u ad2 τ o g) H) (hD : va_D A (lawW cy ad cH σ u ad2 τ o g)) (hS : va_S A s.heap H locs) (hl : lv_has ls 8 [(4, .int (nI i)), (0, .ref b), (1, .ref (ad 0)), (2, .ref (ad2 0)), (3, .ref o)])
    (kk : ∀ (σ' : St) (u' : SU) (τ' : St) (g' : Nat → Int64) (X' : Nat → Sf) (H1 : Heap) (locs1 : List Loc), REP σ' τ' → MSh τ' X' → SHL cy u' X' → va_P D vwCl (lawW cy ad cH σ' u' ad2 τ' o g') H1 → va_D A (lawW cy ad cH σ' u' ad2 τ' o g') → va_S A s.heap H1 locs1 → W p l e R s m args below meth c H1 locs1 (cells + 2) (slots + 62) Q (F0 m 1260 ls [])) : W p l e R s m args below meth c H locs cells slots Q (F0 m 674 ls []) := by
  refine lv_aload_n hx hb dL_law_674 rfl (lv_at hl 2 rfl) ?_
  refine l_arg (j := 1) (by omega) hL (by decide) hx hb hX hbl hbA hS hl dL_law_675 dL_law_676 dL_law_678 dL_law_679 dL_law_680 ?_
  refine l_arg (j := 2) (by omega) hL (by decide) hx hb hX hbl hbA hS hl dL_law_681 dL_law_682 dL_law_684 dL_law_685 dL_law_686 ?_
  refine l_cls (As := [.int (xs (i + 1)), .int (xs (i + 2))]) (rest := []) (c_X11_state l D cy ad tL σ _ _ _ (r_state hREP)) vw_RL_83 cb_11 hx hb hml hown hg hK hP hD hS hA hLB rfl ⟨by have := hR.1; omega, by have := hR.2; omega⟩ hc hl.1 rfl (Nat.le_of_ble_eq_true rfl) dL_law_687 (fun r σ1 hp H locs hP hD hS => ?_)
  obtain ⟨hp, rfl⟩ := hp
  refine lv_aload_n hx hb dL_law_690 rfl (lv_at hl 3 rfl) ?_
  refine l_arg (j := 1) (by omega) hL (by decide) hx hb hX hbl hbA hS hl dL_law_691 dL_law_692 dL_law_694 dL_law_695 dL_law_696 ?_
  refine l_arg (j := 2) (by omega) hL (by decide) hx hb hX hbl hbA hS hl dL_law_697 dL_law_698 dL_law_700 dL_law_701 dL_law_702 ?_
  refine l_ref (As := [.int (xs (i + 1)), .int (xs (i + 2))]) (rest := [.int r]) (c_X12_state l D cy ad2 tL τ _ _ _ hp) vw_RL_86 cb_12 hx hb hml hown hg hK hP hD hS hA hLB rfl ⟨by have := hR.1; omega, by have := hR.2; omega⟩ hc hl.1 rfl (Nat.le_of_ble_eq_true rfl) dL_law_703 (fun r1 τ1 hq H locs hP hD hS => ?_)
  obtain ⟨e1, h1, h2⟩ := hq
  subst e1
  exact lv_icmp_eq (tgt := 1260) hx hb dL_law_706 (by decide) (fun _ => W.widen (Nat.le_add_right _ _) (Nat.le_add_right _ _) (kk _ u _ g X H locs h1 (MSh_ag h2 hM) hSH hP hD hS)) (fun z => absurd rfl z)
theorem lc_shown (hx : p.tables.exec = Jvm.exec) (hb : c.code = cL_law) (hml : c.maxLocals = 8) (hown : s.vm.findClass RL = some m.cls) (hg : ∀ w ∈ gAll, w.before args s = true) (hK : va_K D vwCl (tyH cy cH) s) (hA : ∀ q : Nat, s.heap.size ≤ q → A q) (hLB : lowB tL A s s.heap) (hX : va_X b L xs s s.heap) (hbl : b < s.heap.size) (hbA : ¬ A b) (hR : 11 ≤ R.frames ∧ 378 ≤ R.locals) (hc : cells ≤ R.cells ∧ slots ≤ R.slots) (hi : i + 6 ≤ L) (hL : L ≤ 3072) (hREP : REP σ τ) (hM : MSh τ X) (hSH : SHL cy u X) (hP : va_P D vwCl (lawW cy ad cH σ u ad2 τ o g) H) (hD : va_D A (lawW cy ad cH σ u ad2 τ o g)) (hS : va_S A s.heap H locs) (hl : lv_has ls 8 [(4, .int (nI i)), (0, .ref b), (1, .ref (ad 0)), (2, .ref (ad2 0)), (3, .ref o)])
    (kk : ∀ (σ' : St) (u' : SU) (τ' : St) (g' : Nat → Int64) (X' : Nat → Sf) (H1 : Heap) (locs1 : List Loc), REP σ' τ' → MSh τ' X' → SHL cy u' X' → va_P D vwCl (lawW cy ad cH σ' u' ad2 τ' o g') H1 → va_D A (lawW cy ad cH σ' u' ad2 τ' o g') → va_S A s.heap H1 locs1 → W p l e R s m args below meth c H1 locs1 (cells + 2) (slots + 62) Q (F0 m 1260 ls [])) : W p l e R s m args below meth c H locs cells slots Q (F0 m 711 ls []) := by
  refine lv_aload_n hx hb dL_law_711 rfl (lv_at hl 2 rfl) ?_
  refine l_arg (j := 1) (by omega) hL (by decide) hx hb hX hbl hbA hS hl dL_law_712 dL_law_713 dL_law_715 dL_law_716 dL_law_717 ?_
  refine l_arg (j := 2) (by omega) hL (by decide) hx hb hX hbl hbA hS hl dL_law_718 dL_law_719 dL_law_721 dL_law_722 dL_law_723 ?_
  refine l_cls (As := [.int (xs (i + 1)), .int (xs (i + 2))]) (rest := []) (c_X11_shown l D cy ad tL σ _ _ _ (r_shown hREP)) vw_RL_87 cb_11 hx hb hml hown hg hK hP hD hS hA hLB rfl ⟨by have := hR.1; omega, by have := hR.2; omega⟩ hc hl.1 rfl (Nat.le_of_ble_eq_true rfl) dL_law_724 (fun r σ1 hp H locs hP hD hS => ?_)
  obtain ⟨hp, rfl⟩ := hp
  refine lv_aload_n hx hb dL_law_727 rfl (lv_at hl 3 rfl) ?_
  refine l_arg (j := 1) (by omega) hL (by decide) hx hb hX hbl hbA hS hl dL_law_728 dL_law_729 dL_law_731 dL_law_732 dL_law_733 ?_
  refine l_arg (j := 2) (by omega) hL (by decide) hx hb hX hbl hbA hS hl dL_law_734 dL_law_735 dL_law_737 dL_law_738 dL_law_739 ?_
  refine l_ref (As := [.int (xs (i + 1)), .int (xs (i + 2))]) (rest := [.int r]) (c_X12_shown l D cy ad2 tL τ _ _ _ hp) vw_RL_90 cb_12 hx hb hml hown hg hK hP hD hS hA hLB rfl ⟨by have := hR.1; omega, by have := hR.2; omega⟩ hc hl.1 rfl (Nat.le_of_ble_eq_true rfl) dL_law_740 (fun r1 τ1 hq H locs hP hD hS => ?_)
  obtain ⟨e1, h1, h2⟩ := hq
  subst e1
  exact lv_icmp_eq (tgt := 1260) hx hb dL_law_743 (by decide) (fun _ => W.widen (Nat.le_add_right _ _) (Nat.le_add_right _ _) (kk _ u _ g X H locs h1 (MSh_ag h2 hM) hSH hP hD hS)) (fun z => absurd rfl z)
theorem lc_never (hx : p.tables.exec = Jvm.exec) (hb : c.code = cL_law) (hml : c.maxLocals = 8) (hown : s.vm.findClass RL = some m.cls) (hg : ∀ w ∈ gAll, w.before args s = true) (hK : va_K D vwCl (tyH cy cH) s) (hA : ∀ q : Nat, s.heap.size ≤ q → A q) (hLB : lowB tL A s s.heap) (hX : va_X b L xs s s.heap) (hbl : b < s.heap.size) (hbA : ¬ A b) (hR : 11 ≤ R.frames ∧ 378 ≤ R.locals) (hc : cells ≤ R.cells ∧ slots ≤ R.slots) (hi : i + 6 ≤ L) (hL : L ≤ 3072) (hREP : REP σ τ) (hM : MSh τ X) (hSH : SHL cy u X) (hP : va_P D vwCl (lawW cy ad cH σ u ad2 τ o g) H) (hD : va_D A (lawW cy ad cH σ u ad2 τ o g)) (hS : va_S A s.heap H locs) (hl : lv_has ls 8 [(4, .int (nI i)), (0, .ref b), (1, .ref (ad 0)), (2, .ref (ad2 0)), (3, .ref o)])
    (kk : ∀ (σ' : St) (u' : SU) (τ' : St) (g' : Nat → Int64) (X' : Nat → Sf) (H1 : Heap) (locs1 : List Loc), REP σ' τ' → MSh τ' X' → SHL cy u' X' → va_P D vwCl (lawW cy ad cH σ' u' ad2 τ' o g') H1 → va_D A (lawW cy ad cH σ' u' ad2 τ' o g') → va_S A s.heap H1 locs1 → W p l e R s m args below meth c H1 locs1 (cells + 2) (slots + 62) Q (F0 m 1260 ls [])) : W p l e R s m args below meth c H locs cells slots Q (F0 m 748 ls []) := by
  refine lv_aload_n hx hb dL_law_748 rfl (lv_at hl 2 rfl) ?_
  refine l_arg (j := 1) (by omega) hL (by decide) hx hb hX hbl hbA hS hl dL_law_749 dL_law_750 dL_law_752 dL_law_753 dL_law_754 ?_
  refine l_arg (j := 2) (by omega) hL (by decide) hx hb hX hbl hbA hS hl dL_law_755 dL_law_756 dL_law_758 dL_law_759 dL_law_760 ?_
  refine l_cls (As := [.int (xs (i + 1)), .int (xs (i + 2))]) (rest := []) (c_X11_never l D cy ad tL σ _ _ _ (r_never hREP)) vw_RL_91 cb_11 hx hb hml hown hg hK hP hD hS hA hLB rfl ⟨by have := hR.1; omega, by have := hR.2; omega⟩ hc hl.1 rfl (Nat.le_of_ble_eq_true rfl) dL_law_761 (fun r σ1 hp H locs hP hD hS => ?_)
  obtain ⟨hp, rfl⟩ := hp
  refine lv_aload_n hx hb dL_law_764 rfl (lv_at hl 3 rfl) ?_
  refine l_arg (j := 1) (by omega) hL (by decide) hx hb hX hbl hbA hS hl dL_law_765 dL_law_766 dL_law_768 dL_law_769 dL_law_770 ?_
  refine l_arg (j := 2) (by omega) hL (by decide) hx hb hX hbl hbA hS hl dL_law_771 dL_law_772 dL_law_774 dL_law_775 dL_law_776 ?_
  refine l_ref (As := [.int (xs (i + 1)), .int (xs (i + 2))]) (rest := [.int r]) (c_X12_never l D cy ad2 tL τ _ _ _ hp) vw_RL_94 cb_12 hx hb hml hown hg hK hP hD hS hA hLB rfl ⟨by have := hR.1; omega, by have := hR.2; omega⟩ hc hl.1 rfl (Nat.le_of_ble_eq_true rfl) dL_law_777 (fun r1 τ1 hq H locs hP hD hS => ?_)
  obtain ⟨e1, h1, h2⟩ := hq
  subst e1
  exact lv_icmp_eq (tgt := 1260) hx hb dL_law_780 (by decide) (fun _ => W.widen (Nat.le_add_right _ _) (Nat.le_add_right _ _) (kk _ u _ g X H locs h1 (MSh_ag h2 hM) hSH hP hD hS)) (fun z => absurd rfl z)
theorem lc_follow (hx : p.tables.exec = Jvm.exec) (hb : c.code = cL_law) (hml : c.maxLocals = 8) (hown : s.vm.findClass RL = some m.cls) (hg : ∀ w ∈ gAll, w.before args s = true) (hK : va_K D vwCl (tyH cy cH) s) (hA : ∀ q : Nat, s.heap.size ≤ q → A q) (hLB : lowB tL A s s.heap) (hX : va_X b L xs s s.heap) (hbl : b < s.heap.size) (hbA : ¬ A b) (hR : 11 ≤ R.frames ∧ 378 ≤ R.locals) (hc : cells ≤ R.cells ∧ slots ≤ R.slots) (hi : i + 6 ≤ L) (hL : L ≤ 3072) (hREP : REP σ τ) (hM : MSh τ X) (hSH : SHL cy u X) (hP : va_P D vwCl (lawW cy ad cH σ u ad2 τ o g) H) (hD : va_D A (lawW cy ad cH σ u ad2 τ o g)) (hS : va_S A s.heap H locs) (hl : lv_has ls 8 [(4, .int (nI i)), (0, .ref b), (1, .ref (ad 0)), (2, .ref (ad2 0)), (3, .ref o)])
    (kk : ∀ (σ' : St) (u' : SU) (τ' : St) (g' : Nat → Int64) (X' : Nat → Sf) (H1 : Heap) (locs1 : List Loc), REP σ' τ' → MSh τ' X' → SHL cy u' X' → va_P D vwCl (lawW cy ad cH σ' u' ad2 τ' o g') H1 → va_D A (lawW cy ad cH σ' u' ad2 τ' o g') → va_S A s.heap H1 locs1 → W p l e R s m args below meth c H1 locs1 (cells + 2) (slots + 62) Q (F0 m 1260 ls [])) : W p l e R s m args below meth c H locs cells slots Q (F0 m 785 ls []) := by
  refine lv_aload_n hx hb dL_law_785 rfl (lv_at hl 2 rfl) ?_
  refine l_arg (j := 1) (by omega) hL (by decide) hx hb hX hbl hbA hS hl dL_law_786 dL_law_787 dL_law_789 dL_law_790 dL_law_791 ?_
  refine l_cls (As := [.int (xs (i + 1))]) (rest := []) (c_X11_follow l D cy ad tL σ _ _ (r_follow hREP)) vw_RL_95 cb_11 hx hb hml hown hg hK hP hD hS hA hLB rfl ⟨by have := hR.1; omega, by have := hR.2; omega⟩ hc hl.1 rfl (Nat.le_of_ble_eq_true rfl) dL_law_792 (fun r σ1 hp H locs hP hD hS => ?_)
  refine lv_aload_n hx hb dL_law_795 rfl (lv_at hl 3 rfl) ?_
  refine l_arg (j := 1) (by omega) hL (by decide) hx hb hX hbl hbA hS hl dL_law_796 dL_law_797 dL_law_799 dL_law_800 dL_law_801 ?_
  refine l_ref (As := [.int (xs (i + 1))]) (rest := [.int r]) (c_X12_follow l D cy ad2 tL τ _ _ hp) vw_RL_98 cb_12 hx hb hml hown hg hK hP hD hS hA hLB rfl ⟨by have := hR.1; omega, by have := hR.2; omega⟩ hc hl.1 rfl (Nat.le_of_ble_eq_true rfl) dL_law_802 (fun r1 τ1 hq H locs hP hD hS => ?_)
  obtain ⟨e1, h1, h2⟩ := hq
  subst e1
  exact lv_icmp_eq (tgt := 1260) hx hb dL_law_805 (by decide) (fun _ => W.widen (Nat.le_add_right _ _) (Nat.le_add_right _ _) (kk _ u _ g X H locs h1 (MSh_ag h2 hM) hSH hP hD hS)) (fun z => absurd rfl z)
theorem lc_fewest (hx : p.tables.exec = Jvm.exec) (hb : c.code = cL_law) (hml : c.maxLocals = 8) (hown : s.vm.findClass RL = some m.cls) (hg : ∀ w ∈ gAll, w.before args s = true) (hK : va_K D vwCl (tyH cy cH) s) (hA : ∀ q : Nat, s.heap.size ≤ q → A q) (hLB : lowB tL A s s.heap) (hX : va_X b L xs s s.heap) (hbl : b < s.heap.size) (hbA : ¬ A b) (hR : 11 ≤ R.frames ∧ 378 ≤ R.locals) (hc : cells ≤ R.cells ∧ slots ≤ R.slots) (hi : i + 6 ≤ L) (hL : L ≤ 3072) (hREP : REP σ τ) (hM : MSh τ X) (hSH : SHL cy u X) (hP : va_P D vwCl (lawW cy ad cH σ u ad2 τ o g) H) (hD : va_D A (lawW cy ad cH σ u ad2 τ o g)) (hS : va_S A s.heap H locs) (hl : lv_has ls 8 [(4, .int (nI i)), (0, .ref b), (1, .ref (ad 0)), (2, .ref (ad2 0)), (3, .ref o)])
    (kk : ∀ (σ' : St) (u' : SU) (τ' : St) (g' : Nat → Int64) (X' : Nat → Sf) (H1 : Heap) (locs1 : List Loc), REP σ' τ' → MSh τ' X' → SHL cy u' X' → va_P D vwCl (lawW cy ad cH σ' u' ad2 τ' o g') H1 → va_D A (lawW cy ad cH σ' u' ad2 τ' o g') → va_S A s.heap H1 locs1 → W p l e R s m args below meth c H1 locs1 (cells + 2) (slots + 62) Q (F0 m 1260 ls [])) : W p l e R s m args below meth c H locs cells slots Q (F0 m 810 ls []) := by
  refine lv_aload_n hx hb dL_law_810 rfl (lv_at hl 2 rfl) ?_
  refine l_arg (j := 1) (by omega) hL (by decide) hx hb hX hbl hbA hS hl dL_law_811 dL_law_812 dL_law_814 dL_law_815 dL_law_816 ?_
  refine l_cls (As := [.int (xs (i + 1))]) (rest := []) (c_X11_fewest l D cy ad tL σ _ _ (r_fewest hREP)) vw_RL_99 cb_11 hx hb hml hown hg hK hP hD hS hA hLB rfl ⟨by have := hR.1; omega, by have := hR.2; omega⟩ hc hl.1 rfl (Nat.le_of_ble_eq_true rfl) dL_law_817 (fun r σ1 hp H locs hP hD hS => ?_)
  refine lv_aload_n hx hb dL_law_820 rfl (lv_at hl 3 rfl) ?_
  refine l_arg (j := 1) (by omega) hL (by decide) hx hb hX hbl hbA hS hl dL_law_821 dL_law_822 dL_law_824 dL_law_825 dL_law_826 ?_
  refine l_ref (As := [.int (xs (i + 1))]) (rest := [.int r]) (c_X12_fewest l D cy ad2 tL τ _ _ hp) vw_RL_102 cb_12 hx hb hml hown hg hK hP hD hS hA hLB rfl ⟨by have := hR.1; omega, by have := hR.2; omega⟩ hc hl.1 rfl (Nat.le_of_ble_eq_true rfl) dL_law_827 (fun r1 τ1 hq H locs hP hD hS => ?_)
  obtain ⟨e1, h1, h2⟩ := hq
  subst e1
  exact lv_icmp_eq (tgt := 1260) hx hb dL_law_830 (by decide) (fun _ => W.widen (Nat.le_add_right _ _) (Nat.le_add_right _ _) (kk _ u _ g X H locs h1 (MSh_ag h2 hM) hSH hP hD hS)) (fun z => absurd rfl z)
theorem lc_crossings (hx : p.tables.exec = Jvm.exec) (hb : c.code = cL_law) (hml : c.maxLocals = 8) (hown : s.vm.findClass RL = some m.cls) (hg : ∀ w ∈ gAll, w.before args s = true) (hK : va_K D vwCl (tyH cy cH) s) (hA : ∀ q : Nat, s.heap.size ≤ q → A q) (hLB : lowB tL A s s.heap) (hX : va_X b L xs s s.heap) (hbl : b < s.heap.size) (hbA : ¬ A b) (hR : 11 ≤ R.frames ∧ 378 ≤ R.locals) (hc : cells ≤ R.cells ∧ slots ≤ R.slots) (hi : i + 6 ≤ L) (hL : L ≤ 3072) (hREP : REP σ τ) (hM : MSh τ X) (hSH : SHL cy u X) (hP : va_P D vwCl (lawW cy ad cH σ u ad2 τ o g) H) (hD : va_D A (lawW cy ad cH σ u ad2 τ o g)) (hS : va_S A s.heap H locs) (hl : lv_has ls 8 [(4, .int (nI i)), (0, .ref b), (1, .ref (ad 0)), (2, .ref (ad2 0)), (3, .ref o)])
    (kk : ∀ (σ' : St) (u' : SU) (τ' : St) (g' : Nat → Int64) (X' : Nat → Sf) (H1 : Heap) (locs1 : List Loc), REP σ' τ' → MSh τ' X' → SHL cy u' X' → va_P D vwCl (lawW cy ad cH σ' u' ad2 τ' o g') H1 → va_D A (lawW cy ad cH σ' u' ad2 τ' o g') → va_S A s.heap H1 locs1 → W p l e R s m args below meth c H1 locs1 (cells + 2) (slots + 62) Q (F0 m 1260 ls [])) : W p l e R s m args below meth c H locs cells slots Q (F0 m 835 ls []) := by
  refine lv_aload_n hx hb dL_law_835 rfl (lv_at hl 2 rfl) ?_
  refine l_cls (As := []) (rest := []) (c_X11_crossings l D cy ad tL σ  _ (r_crossings hREP)) vw_RL_103 cb_11 hx hb hml hown hg hK hP hD hS hA hLB rfl ⟨by have := hR.1; omega, by have := hR.2; omega⟩ hc hl.1 rfl (Nat.le_of_ble_eq_true rfl) dL_law_836 (fun r σ1 hp H locs hP hD hS => ?_)
  obtain ⟨hp, rfl⟩ := hp
  refine lv_aload_n hx hb dL_law_839 rfl (lv_at hl 3 rfl) ?_
  refine l_ref (As := []) (rest := [.int r]) (c_X12_crossings l D cy ad2 tL τ  _ hp) vw_RL_106 cb_12 hx hb hml hown hg hK hP hD hS hA hLB rfl ⟨by have := hR.1; omega, by have := hR.2; omega⟩ hc hl.1 rfl (Nat.le_of_ble_eq_true rfl) dL_law_840 (fun r1 τ1 hq H locs hP hD hS => ?_)
  obtain ⟨e1, h1, h2⟩ := hq
  subst e1
  exact lv_icmp_eq (tgt := 1260) hx hb dL_law_843 (by decide) (fun _ => W.widen (Nat.le_add_right _ _) (Nat.le_add_right _ _) (kk _ u _ g X H locs h1 (MSh_ag h2 hM) hSH hP hD hS)) (fun z => absurd rfl z)
theorem lc_crossing (hx : p.tables.exec = Jvm.exec) (hb : c.code = cL_law) (hml : c.maxLocals = 8) (hown : s.vm.findClass RL = some m.cls) (hg : ∀ w ∈ gAll, w.before args s = true) (hK : va_K D vwCl (tyH cy cH) s) (hA : ∀ q : Nat, s.heap.size ≤ q → A q) (hLB : lowB tL A s s.heap) (hX : va_X b L xs s s.heap) (hbl : b < s.heap.size) (hbA : ¬ A b) (hR : 11 ≤ R.frames ∧ 378 ≤ R.locals) (hc : cells ≤ R.cells ∧ slots ≤ R.slots) (hi : i + 6 ≤ L) (hL : L ≤ 3072) (hREP : REP σ τ) (hM : MSh τ X) (hSH : SHL cy u X) (hP : va_P D vwCl (lawW cy ad cH σ u ad2 τ o g) H) (hD : va_D A (lawW cy ad cH σ u ad2 τ o g)) (hS : va_S A s.heap H locs) (hl : lv_has ls 8 [(4, .int (nI i)), (0, .ref b), (1, .ref (ad 0)), (2, .ref (ad2 0)), (3, .ref o)])
    (kk : ∀ (σ' : St) (u' : SU) (τ' : St) (g' : Nat → Int64) (X' : Nat → Sf) (H1 : Heap) (locs1 : List Loc), REP σ' τ' → MSh τ' X' → SHL cy u' X' → va_P D vwCl (lawW cy ad cH σ' u' ad2 τ' o g') H1 → va_D A (lawW cy ad cH σ' u' ad2 τ' o g') → va_S A s.heap H1 locs1 → W p l e R s m args below meth c H1 locs1 (cells + 2) (slots + 62) Q (F0 m 1260 ls [])) : W p l e R s m args below meth c H locs cells slots Q (F0 m 848 ls []) := by
  refine lv_aload_n hx hb dL_law_848 rfl (lv_at hl 2 rfl) ?_
  refine l_arg (j := 1) (by omega) hL (by decide) hx hb hX hbl hbA hS hl dL_law_849 dL_law_850 dL_law_852 dL_law_853 dL_law_854 ?_
  refine l_arg (j := 2) (by omega) hL (by decide) hx hb hX hbl hbA hS hl dL_law_855 dL_law_856 dL_law_858 dL_law_859 dL_law_860 ?_
  refine l_cls (As := [.int (xs (i + 1)), .int (xs (i + 2))]) (rest := []) (c_X11_crossing l D cy ad tL σ _ _ _ (r_crossing hREP)) vw_RL_107 cb_11 hx hb hml hown hg hK hP hD hS hA hLB rfl ⟨by have := hR.1; omega, by have := hR.2; omega⟩ hc hl.1 rfl (Nat.le_of_ble_eq_true rfl) dL_law_861 (fun r σ1 hp H locs hP hD hS => ?_)
  obtain ⟨hp, rfl⟩ := hp
  refine lv_aload_n hx hb dL_law_864 rfl (lv_at hl 3 rfl) ?_
  refine l_arg (j := 1) (by omega) hL (by decide) hx hb hX hbl hbA hS hl dL_law_865 dL_law_866 dL_law_868 dL_law_869 dL_law_870 ?_
  refine l_arg (j := 2) (by omega) hL (by decide) hx hb hX hbl hbA hS hl dL_law_871 dL_law_872 dL_law_874 dL_law_875 dL_law_876 ?_
  refine l_ref (As := [.int (xs (i + 1)), .int (xs (i + 2))]) (rest := [.int r]) (c_X12_crossing l D cy ad2 tL τ _ _ _ hp) vw_RL_110 cb_12 hx hb hml hown hg hK hP hD hS hA hLB rfl ⟨by have := hR.1; omega, by have := hR.2; omega⟩ hc hl.1 rfl (Nat.le_of_ble_eq_true rfl) dL_law_877 (fun r1 τ1 hq H locs hP hD hS => ?_)
  obtain ⟨e1, h1, h2⟩ := hq
  subst e1
  exact lv_icmp_eq (tgt := 1260) hx hb dL_law_880 (by decide) (fun _ => W.widen (Nat.le_add_right _ _) (Nat.le_add_right _ _) (kk _ u _ g X H locs h1 (MSh_ag h2 hM) hSH hP hD hS)) (fun z => absurd rfl z)
theorem lc_mend (hx : p.tables.exec = Jvm.exec) (hb : c.code = cL_law) (hml : c.maxLocals = 8) (hown : s.vm.findClass RL = some m.cls) (hg : ∀ w ∈ gAll, w.before args s = true) (hK : va_K D vwCl (tyH cy cH) s) (hA : ∀ q : Nat, s.heap.size ≤ q → A q) (hLB : lowB tL A s s.heap) (hX : va_X b L xs s s.heap) (hbl : b < s.heap.size) (hbA : ¬ A b) (hR : 11 ≤ R.frames ∧ 378 ≤ R.locals) (hc : cells ≤ R.cells ∧ slots ≤ R.slots) (hi : i + 6 ≤ L) (hL : L ≤ 3072) (hREP : REP σ τ) (hM : MSh τ X) (hSH : SHL cy u X) (hP : va_P D vwCl (lawW cy ad cH σ u ad2 τ o g) H) (hD : va_D A (lawW cy ad cH σ u ad2 τ o g)) (hS : va_S A s.heap H locs) (hl : lv_has ls 8 [(4, .int (nI i)), (0, .ref b), (1, .ref (ad 0)), (2, .ref (ad2 0)), (3, .ref o)])
    (kk : ∀ (σ' : St) (u' : SU) (τ' : St) (g' : Nat → Int64) (X' : Nat → Sf) (H1 : Heap) (locs1 : List Loc), REP σ' τ' → MSh τ' X' → SHL cy u' X' → va_P D vwCl (lawW cy ad cH σ' u' ad2 τ' o g') H1 → va_D A (lawW cy ad cH σ' u' ad2 τ' o g') → va_S A s.heap H1 locs1 → W p l e R s m args below meth c H1 locs1 (cells + 2) (slots + 62) Q (F0 m 1260 ls [])) : W p l e R s m args below meth c H locs cells slots Q (F0 m 885 ls []) := by
  refine lv_aload_n hx hb dL_law_885 rfl (lv_at hl 2 rfl) ?_
  refine l_arg (j := 1) (by omega) hL (by decide) hx hb hX hbl hbA hS hl dL_law_886 dL_law_887 dL_law_889 dL_law_890 dL_law_891 ?_
  refine l_cls (As := [.int (xs (i + 1))]) (rest := []) (c_X11_mend l D cy ad tL σ _ _ (r_mend hREP)) vw_RL_111 cb_11 hx hb hml hown hg hK hP hD hS hA hLB rfl ⟨by have := hR.1; omega, by have := hR.2; omega⟩ hc hl.1 rfl (Nat.le_of_ble_eq_true rfl) dL_law_892 (fun r σ1 hp H locs hP hD hS => ?_)
  refine lv_aload_n hx hb dL_law_895 rfl (lv_at hl 3 rfl) ?_
  refine l_arg (j := 1) (by omega) hL (by decide) hx hb hX hbl hbA hS hl dL_law_896 dL_law_897 dL_law_899 dL_law_900 dL_law_901 ?_
  refine l_ref (As := [.int (xs (i + 1))]) (rest := [.int r]) (c_X12_mend l D cy ad2 tL τ _ _ hp) vw_RL_114 cb_12 hx hb hml hown hg hK hP hD hS hA hLB rfl ⟨by have := hR.1; omega, by have := hR.2; omega⟩ hc hl.1 rfl (Nat.le_of_ble_eq_true rfl) dL_law_902 (fun r1 τ1 hq H locs hP hD hS => ?_)
  obtain ⟨e1, h1, h2⟩ := hq
  subst e1
  exact lv_icmp_eq (tgt := 1260) hx hb dL_law_905 (by decide) (fun _ => W.widen (Nat.le_add_right _ _) (Nat.le_add_right _ _) (kk _ u _ g X H locs h1 (MSh_ag h2 hM) hSH hP hD hS)) (fun z => absurd rfl z)
theorem lc_count (hx : p.tables.exec = Jvm.exec) (hb : c.code = cL_law) (hml : c.maxLocals = 8) (hown : s.vm.findClass RL = some m.cls) (hg : ∀ w ∈ gAll, w.before args s = true) (hK : va_K D vwCl (tyH cy cH) s) (hA : ∀ q : Nat, s.heap.size ≤ q → A q) (hLB : lowB tL A s s.heap) (hX : va_X b L xs s s.heap) (hbl : b < s.heap.size) (hbA : ¬ A b) (hR : 11 ≤ R.frames ∧ 378 ≤ R.locals) (hc : cells ≤ R.cells ∧ slots ≤ R.slots) (hi : i + 6 ≤ L) (hL : L ≤ 3072) (hREP : REP σ τ) (hM : MSh τ X) (hSH : SHL cy u X) (hP : va_P D vwCl (lawW cy ad cH σ u ad2 τ o g) H) (hD : va_D A (lawW cy ad cH σ u ad2 τ o g)) (hS : va_S A s.heap H locs) (hl : lv_has ls 8 [(4, .int (nI i)), (0, .ref b), (1, .ref (ad 0)), (2, .ref (ad2 0)), (3, .ref o)])
    (kk : ∀ (σ' : St) (u' : SU) (τ' : St) (g' : Nat → Int64) (X' : Nat → Sf) (H1 : Heap) (locs1 : List Loc), REP σ' τ' → MSh τ' X' → SHL cy u' X' → va_P D vwCl (lawW cy ad cH σ' u' ad2 τ' o g') H1 → va_D A (lawW cy ad cH σ' u' ad2 τ' o g') → va_S A s.heap H1 locs1 → W p l e R s m args below meth c H1 locs1 (cells + 2) (slots + 62) Q (F0 m 1260 ls [])) : W p l e R s m args below meth c H locs cells slots Q (F0 m 910 ls []) := by
  refine lv_aload_n hx hb dL_law_910 rfl (lv_at hl 2 rfl) ?_
  refine l_arg (j := 1) (by omega) hL (by decide) hx hb hX hbl hbA hS hl dL_law_911 dL_law_912 dL_law_914 dL_law_915 dL_law_916 ?_
  refine l_cls (As := [.int (xs (i + 1))]) (rest := []) (c_X11_count l D cy ad tL σ _ _ (r_count hREP)) vw_RL_115 cb_11 hx hb hml hown hg hK hP hD hS hA hLB rfl ⟨by have := hR.1; omega, by have := hR.2; omega⟩ hc hl.1 rfl (Nat.le_of_ble_eq_true rfl) dL_law_917 (fun r σ1 hp H locs hP hD hS => ?_)
  obtain ⟨hp, rfl⟩ := hp
  refine lv_aload_n hx hb dL_law_920 rfl (lv_at hl 3 rfl) ?_
  refine l_arg (j := 1) (by omega) hL (by decide) hx hb hX hbl hbA hS hl dL_law_921 dL_law_922 dL_law_924 dL_law_925 dL_law_926 ?_
  refine l_ref (As := [.int (xs (i + 1))]) (rest := [.int r]) (c_X12_count l D cy ad2 tL τ _ _ hp) vw_RL_118 cb_12 hx hb hml hown hg hK hP hD hS hA hLB rfl ⟨by have := hR.1; omega, by have := hR.2; omega⟩ hc hl.1 rfl (Nat.le_of_ble_eq_true rfl) dL_law_927 (fun r1 τ1 hq H locs hP hD hS => ?_)
  obtain ⟨e1, h1, h2⟩ := hq
  subst e1
  exact lv_icmp_eq (tgt := 1260) hx hb dL_law_930 (by decide) (fun _ => W.widen (Nat.le_add_right _ _) (Nat.le_add_right _ _) (kk _ u _ g X H locs h1 (MSh_ag h2 hM) hSH hP hD hS)) (fun z => absurd rfl z)
theorem lc_look (hx : p.tables.exec = Jvm.exec) (hb : c.code = cL_law) (hml : c.maxLocals = 8) (hown : s.vm.findClass RL = some m.cls) (hg : ∀ w ∈ gAll, w.before args s = true) (hK : va_K D vwCl (tyH cy cH) s) (hA : ∀ q : Nat, s.heap.size ≤ q → A q) (hLB : lowB tL A s s.heap) (hX : va_X b L xs s s.heap) (hbl : b < s.heap.size) (hbA : ¬ A b) (hR : 11 ≤ R.frames ∧ 378 ≤ R.locals) (hc : cells ≤ R.cells ∧ slots ≤ R.slots) (hi : i + 6 ≤ L) (hL : L ≤ 3072) (hREP : REP σ τ) (hM : MSh τ X) (hSH : SHL cy u X) (hP : va_P D vwCl (lawW cy ad cH σ u ad2 τ o g) H) (hD : va_D A (lawW cy ad cH σ u ad2 τ o g)) (hS : va_S A s.heap H locs) (hl : lv_has ls 8 [(4, .int (nI i)), (0, .ref b), (1, .ref (ad 0)), (2, .ref (ad2 0)), (3, .ref o)])
    (kk : ∀ (σ' : St) (u' : SU) (τ' : St) (g' : Nat → Int64) (X' : Nat → Sf) (H1 : Heap) (locs1 : List Loc), REP σ' τ' → MSh τ' X' → SHL cy u' X' → va_P D vwCl (lawW cy ad cH σ' u' ad2 τ' o g') H1 → va_D A (lawW cy ad cH σ' u' ad2 τ' o g') → va_S A s.heap H1 locs1 → W p l e R s m args below meth c H1 locs1 (cells + 2) (slots + 62) Q (F0 m 1260 ls [])) : W p l e R s m args below meth c H locs cells slots Q (F0 m 935 ls []) := by
  refine lv_aload_n hx hb dL_law_935 rfl (lv_at hl 2 rfl) ?_
  refine l_arg (j := 1) (by omega) hL (by decide) hx hb hX hbl hbA hS hl dL_law_936 dL_law_937 dL_law_939 dL_law_940 dL_law_941 ?_
  refine l_arg (j := 2) (by omega) hL (by decide) hx hb hX hbl hbA hS hl dL_law_942 dL_law_943 dL_law_945 dL_law_946 dL_law_947 ?_
  refine l_cls (As := [.int (xs (i + 1)), .int (xs (i + 2))]) (rest := []) (c_X11_look l D cy ad tL σ _ _ _ (r_look hREP)) vw_RL_119 cb_11 hx hb hml hown hg hK hP hD hS hA hLB rfl ⟨by have := hR.1; omega, by have := hR.2; omega⟩ hc hl.1 rfl (Nat.le_of_ble_eq_true rfl) dL_law_948 (fun r σ1 hp H locs hP hD hS => ?_)
  obtain ⟨hp, rfl⟩ := hp
  refine lv_aload_n hx hb dL_law_951 rfl (lv_at hl 3 rfl) ?_
  refine l_arg (j := 1) (by omega) hL (by decide) hx hb hX hbl hbA hS hl dL_law_952 dL_law_953 dL_law_955 dL_law_956 dL_law_957 ?_
  refine l_arg (j := 2) (by omega) hL (by decide) hx hb hX hbl hbA hS hl dL_law_958 dL_law_959 dL_law_961 dL_law_962 dL_law_963 ?_
  refine l_ref (As := [.int (xs (i + 1)), .int (xs (i + 2))]) (rest := [.int r]) (c_X12_look_ l D cy ad2 tL τ _ _ _ hp) vw_RL_122 cb_12 hx hb hml hown hg hK hP hD hS hA hLB rfl ⟨by have := hR.1; omega, by have := hR.2; omega⟩ hc hl.1 rfl (Nat.le_of_ble_eq_true rfl) dL_law_964 (fun r1 τ1 hq H locs hP hD hS => ?_)
  obtain ⟨e1, h1, h2⟩ := hq
  subst e1
  exact lv_icmp_eq (tgt := 1260) hx hb dL_law_967 (by decide) (fun _ => W.widen (Nat.le_add_right _ _) (Nat.le_add_right _ _) (kk _ u _ g X H locs h1 (MSh_ag h2 hM) hSH hP hD hS)) (fun z => absurd rfl z)
end LAWK
