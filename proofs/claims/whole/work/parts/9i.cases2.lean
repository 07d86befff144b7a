/-! THE LAW: still and the shelf calls that throw nothing -/
theorem vw_RL_123 : VWd RL 123 yX11_keep cX11_keep 4 (some .int) 3 := ⟨kw_987, kw_988, kw_989, kw_390, kw_531, by decide, by decide, by decide +kernel⟩
theorem vw_RL_126 : VWd RL 126 yX12_keep cX12_keep 6 (some .int) 3 := ⟨kw_990, kw_991, kw_992, kw_566, kw_814, by decide, by decide, by decide +kernel⟩
theorem vw_RL_127 : VWd RL 127 yX11_make cX11_make 4 (some .int) 3 := ⟨kw_993, kw_994, kw_995, kw_390, kw_532, by decide, by decide, by decide +kernel⟩
theorem vw_RL_130 : VWd RL 130 yX12_make cX12_make 5 (some .int) 3 := ⟨kw_996, kw_997, kw_998, kw_566, kw_817, by decide, by decide, by decide +kernel⟩
theorem vw_RL_140 : VWd RL 140 yX11_copy cX11_copy 9 (some .int) 5 := ⟨kw_1008, kw_1009, kw_1010, kw_390, kw_538, by decide, by decide, by decide +kernel⟩
theorem vw_RL_144 : VWd RL 144 yX12_copy cX12_copy 7 (some .int) 5 := ⟨kw_1011, kw_1012, kw_1013, kw_566, kw_820, by decide, by decide, by decide +kernel⟩
theorem vw_RL_145 : VWd RL 145 yX11_weight cX11_weight 3 (some .int) 1 := ⟨kw_1014, kw_1015, kw_1016, kw_390, kw_543, by decide, by decide, by decide +kernel⟩
theorem vw_RL_148 : VWd RL 148 yX12_weight cX12_weight 3 (some .int) 1 := ⟨kw_1017, kw_1018, kw_1019, kw_566, kw_825, by decide, by decide, by decide +kernel⟩
theorem vw_RL_45 : VWd RL 45 yX11_still cX11_still 5 (some .int) 2 := ⟨kw_873, kw_874, kw_875, kw_390, kw_415, by decide, by decide, by decide +kernel⟩
theorem vw_RL_49 : VWd RL 49 yX12_still cX12_still 4 (some .int) 2 := ⟨kw_876, kw_877, kw_878, kw_566, kw_655, by decide, by decide, by decide +kernel⟩
section LAWK2
variable {p : Program} {l : Launch} {e : Env} {R : Room} {s : State} {m : MethodId} {args : Array Value} {below : List Frame} {meth : Method} {c : Code} {H : Heap} {locs : List Loc} {cells slots : Nat} {Q : State → Prop}
variable {ls : Array Slot} {D : va_G} {cy : Nat → ClassId} {ad ad2 : Nat → Nat} {tL : Nat} {cH : ClassId} {σ τ : St} {u : SU} {o b L i : Nat} {xs : Nat → Int32} {g : Nat → Int64} {A : Nat → Prop} {X : Nat → Sf}
theorem lc_keep (hx : p.tables.exec = Jvm.exec) (hb : c.code = cL_law) (hml : c.maxLocals = 8) (hown : s.vm.findClass RL = some m.cls) (hg : ∀ w ∈ gAll, w.before args s = true) (hK : va_K D vwCl (tyH cy cH) s) (hA : ∀ q : Nat, s.heap.size ≤ q → A q) (hLB : lowB tL A s s.heap) (hX : va_X b L xs s s.heap) (hbl : b < s.heap.size) (hbA : ¬ A b) (hR : 11 ≤ R.frames ∧ 378 ≤ R.locals) (hc2 : cells + 2 ≤ R.cells ∧ slots + 62 ≤ R.slots) (hY : yPre s) (hi : i + 6 ≤ L) (hL : L ≤ 3072) (hREP : REP σ τ) (hM : MSh τ X) (hSH : SHL cy u X) (hP : va_P D vwCl (lawW cy ad cH σ u ad2 τ o g) H) (hD : va_D A (lawW cy ad cH σ u ad2 τ o g)) (hS : va_S A s.heap H locs) (hl : lv_has ls 8 [(4, .int (nI i)), (0, .ref b), (1, .ref (ad 0)), (2, .ref (ad2 0)), (3, .ref o)])
    (kk : ∀ (σ' : St) (u' : SU) (τ' : St) (g' : Nat → Int64) (X' : Nat → Sf) (H1 : Heap) (locs1 : List Loc), REP σ' τ' → MSh τ' X' → SHL cy u' X' → va_P D vwCl (lawW cy ad cH σ' u' ad2 τ' o g') H1 → va_D A (lawW cy ad cH σ' u' ad2 τ' o g') → va_S A s.heap H1 locs1 → W p l e R s m args below meth c H1 locs1 (cells + 2) (slots + 62) Q (F0 m 1260 ls [])) : W p l e R s m args below meth c H locs cells slots Q (F0 m 972 ls []) := by
  obtain ⟨N, fs, sl, bd, P, r0, bb, hw, hcC, hm⟩ := hREP
  have hc : cells ≤ R.cells ∧ slots ≤ R.slots := ⟨by omega, by omega⟩
  refine lv_aload_n hx hb dL_law_972 rfl (lv_at hl 2 rfl) ?_
  refine l_arg (j := 1) (by omega) hL (by decide) hx hb hX hbl hbA hS hl dL_law_973 dL_law_974 dL_law_976 dL_law_977 dL_law_978 ?_
  refine l_arg (j := 2) (by omega) hL (by decide) hx hb hX hbl hbA hS hl dL_law_979 dL_law_980 dL_law_982 dL_law_983 dL_law_984 ?_
  refine l_arg (j := 3) (by omega) hL (by decide) hx hb hX hbl hbA hS hl dL_law_985 dL_law_986 dL_law_988 dL_law_989 dL_law_990 ?_
  refine l_shelf (As := [.int (xs (i + 1)), .int (xs (i + 2)), .int (xs (i + 3))]) (rest := []) (fun sz => c_X11_keep l D cy ad tL cH σ u X hSH N bd r0 hcC.1 hw.1 hcC.2.2.2.2.2.1 hw.2.2.2.1.1 _ _ _ sz) vw_RL_123 cb_11 hx hb hml hown hg hK hY hP hD hS hA hLB rfl ⟨by have := hR.1; omega, by have := hR.2; omega⟩ hc2 hl.1 rfl (Nat.le_of_ble_eq_true rfl) dL_law_991 (fun r u1 hp H locs hP hD hS => ?_)
  refine lv_aload_n hx hb dL_law_994 rfl (lv_at hl 3 rfl) ?_
  refine l_arg (j := 1) (by omega) hL (by decide) hx hb hX hbl hbA hS hl dL_law_995 dL_law_996 dL_law_998 dL_law_999 dL_law_1000 ?_
  refine l_arg (j := 2) (by omega) hL (by decide) hx hb hX hbl hbA hS hl dL_law_1001 dL_law_1002 dL_law_1004 dL_law_1005 dL_law_1006 ?_
  refine l_arg (j := 3) (by omega) hL (by decide) hx hb hX hbl hbA hS hl dL_law_1007 dL_law_1008 dL_law_1010 dL_law_1011 dL_law_1012 ?_
  refine l_ref (As := [.int (xs (i + 1)), .int (xs (i + 2)), .int (xs (i + 3))]) (rest := [.int r]) (c_X12_keep l D cy ad2 tL τ _ _ _ _ (r_keep hw hcC hm hM hp)) vw_RL_126 cb_12 hx hb hml hown hg hK hP hD hS hA hLB rfl ⟨by have := hR.1; omega, by have := hR.2; omega⟩ hc2 hl.1 rfl (Nat.le_of_ble_eq_true rfl) dL_law_1013 (fun r1 τ1 hq H locs hP hD hS => ?_)
  obtain ⟨e1, h1, X1, h2, h3⟩ := hq
  subst e1
  exact lv_icmp_eq (tgt := 1260) hx hb dL_law_1016 (by decide) (fun _ => W.widen (Nat.le_refl _) (Nat.le_refl _) (kk _ u1 _ g X1 H locs h1 h2 h3 hP hD hS)) (fun z => absurd rfl z)
theorem lc_make (hx : p.tables.exec = Jvm.exec) (hb : c.code = cL_law) (hml : c.maxLocals = 8) (hown : s.vm.findClass RL = some m.cls) (hg : ∀ w ∈ gAll, w.before args s = true) (hK : va_K D vwCl (tyH cy cH) s) (hA : ∀ q : Nat, s.heap.size ≤ q → A q) (hLB : lowB tL A s s.heap) (hX : va_X b L xs s s.heap) (hbl : b < s.heap.size) (hbA : ¬ A b) (hR : 11 ≤ R.frames ∧ 378 ≤ R.locals) (hc2 : cells + 2 ≤ R.cells ∧ slots + 62 ≤ R.slots) (hY : yPre s) (hi : i + 6 ≤ L) (hL : L ≤ 3072) (hREP : REP σ τ) (hM : MSh τ X) (hSH : SHL cy u X) (hP : va_P D vwCl (lawW cy ad cH σ u ad2 τ o g) H) (hD : va_D A (lawW cy ad cH σ u ad2 τ o g)) (hS : va_S A s.heap H locs) (hl : lv_has ls 8 [(4, .int (nI i)), (0, .ref b), (1, .ref (ad 0)), (2, .ref (ad2 0)), (3, .ref o)])
    (kk : ∀ (σ' : St) (u' : SU) (τ' : St) (g' : Nat → Int64) (X' : Nat → Sf) (H1 : Heap) (locs1 : List Loc), REP σ' τ' → MSh τ' X' → SHL cy u' X' → va_P D vwCl (lawW cy ad cH σ' u' ad2 τ' o g') H1 → va_D A (lawW cy ad cH σ' u' ad2 τ' o g') → va_S A s.heap H1 locs1 → W p l e R s m args below meth c H1 locs1 (cells + 2) (slots + 62) Q (F0 m 1260 ls [])) : W p l e R s m args below meth c H locs cells slots Q (F0 m 1021 ls []) := by
  obtain ⟨N, fs, sl, bd, P, r0, bb, hw, hcC, hm⟩ := hREP
  have hc : cells ≤ R.cells ∧ slots ≤ R.slots := ⟨by omega, by omega⟩
  refine lv_aload_n hx hb dL_law_1021 rfl (lv_at hl 2 rfl) ?_
  refine l_arg (j := 1) (by omega) hL (by decide) hx hb hX hbl hbA hS hl dL_law_1022 dL_law_1023 dL_law_1025 dL_law_1026 dL_law_1027 ?_
  refine l_arg (j := 2) (by omega) hL (by decide) hx hb hX hbl hbA hS hl dL_law_1028 dL_law_1029 dL_law_1031 dL_law_1032 dL_law_1033 ?_
  refine l_arg (j := 3) (by omega) hL (by decide) hx hb hX hbl hbA hS hl dL_law_1034 dL_law_1035 dL_law_1037 dL_law_1038 dL_law_1039 ?_
  refine l_shelf (As := [.int (xs (i + 1)), .int (xs (i + 2)), .int (xs (i + 3))]) (rest := []) (fun sz => c_X11_make l D cy ad tL cH σ u X hSH _ _ _ sz) vw_RL_127 cb_11 hx hb hml hown hg hK hY hP hD hS hA hLB rfl ⟨by have := hR.1; omega, by have := hR.2; omega⟩ hc2 hl.1 rfl (Nat.le_of_ble_eq_true rfl) dL_law_1040 (fun r u1 hp H locs hP hD hS => ?_)
  refine lv_aload_n hx hb dL_law_1043 rfl (lv_at hl 3 rfl) ?_
  refine l_arg (j := 1) (by omega) hL (by decide) hx hb hX hbl hbA hS hl dL_law_1044 dL_law_1045 dL_law_1047 dL_law_1048 dL_law_1049 ?_
  refine l_arg (j := 2) (by omega) hL (by decide) hx hb hX hbl hbA hS hl dL_law_1050 dL_law_1051 dL_law_1053 dL_law_1054 dL_law_1055 ?_
  refine l_arg (j := 3) (by omega) hL (by decide) hx hb hX hbl hbA hS hl dL_law_1056 dL_law_1057 dL_law_1059 dL_law_1060 dL_law_1061 ?_
  refine l_ref (As := [.int (xs (i + 1)), .int (xs (i + 2)), .int (xs (i + 3))]) (rest := [.int r]) (c_X12_make l D cy ad2 tL τ _ _ _ _ (r_make hw hcC hm hM hp)) vw_RL_130 cb_12 hx hb hml hown hg hK hP hD hS hA hLB rfl ⟨by have := hR.1; omega, by have := hR.2; omega⟩ hc2 hl.1 rfl (Nat.le_of_ble_eq_true rfl) dL_law_1062 (fun r1 τ1 hq H locs hP hD hS => ?_)
  obtain ⟨e1, h1, X1, h2, h3⟩ := hq
  subst e1
  exact lv_icmp_eq (tgt := 1260) hx hb dL_law_1065 (by decide) (fun _ => W.widen (Nat.le_refl _) (Nat.le_refl _) (kk _ u1 _ g X1 H locs h1 h2 h3 hP hD hS)) (fun z => absurd rfl z)
theorem lc_copy (hx : p.tables.exec = Jvm.exec) (hb : c.code = cL_law) (hml : c.maxLocals = 8) (hown : s.vm.findClass RL = some m.cls) (hg : ∀ w ∈ gAll, w.before args s = true) (hK : va_K D vwCl (tyH cy cH) s) (hA : ∀ q : Nat, s.heap.size ≤ q → A q) (hLB : lowB tL A s s.heap) (hX : va_X b L xs s s.heap) (hbl : b < s.heap.size) (hbA : ¬ A b) (hR : 11 ≤ R.frames ∧ 378 ≤ R.locals) (hc2 : cells + 2 ≤ R.cells ∧ slots + 62 ≤ R.slots) (hY : yPre s) (hi : i + 6 ≤ L) (hL : L ≤ 3072) (hREP : REP σ τ) (hM : MSh τ X) (hSH : SHL cy u X) (hP : va_P D vwCl (lawW cy ad cH σ u ad2 τ o g) H) (hD : va_D A (lawW cy ad cH σ u ad2 τ o g)) (hS : va_S A s.heap H locs) (hl : lv_has ls 8 [(4, .int (nI i)), (0, .ref b), (1, .ref (ad 0)), (2, .ref (ad2 0)), (3, .ref o)])
    (kk : ∀ (σ' : St) (u' : SU) (τ' : St) (g' : Nat → Int64) (X' : Nat → Sf) (H1 : Heap) (locs1 : List Loc), REP σ' τ' → MSh τ' X' → SHL cy u' X' → va_P D vwCl (lawW cy ad cH σ' u' ad2 τ' o g') H1 → va_D A (lawW cy ad cH σ' u' ad2 τ' o g') → va_S A s.heap H1 locs1 → W p l e R s m args below meth c H1 locs1 (cells + 2) (slots + 62) Q (F0 m 1260 ls [])) : W p l e R s m args below meth c H locs cells slots Q (F0 m 1137 ls []) := by
  obtain ⟨N, fs, sl, bd, P, r0, bb, hw, hcC, hm⟩ := hREP
  have hc : cells ≤ R.cells ∧ slots ≤ R.slots := ⟨by omega, by omega⟩
  refine lv_aload_n hx hb dL_law_1137 rfl (lv_at hl 2 rfl) ?_
  refine l_arg (j := 1) (by omega) hL (by decide) hx hb hX hbl hbA hS hl dL_law_1138 dL_law_1139 dL_law_1141 dL_law_1142 dL_law_1143 ?_
  refine l_arg (j := 2) (by omega) hL (by decide) hx hb hX hbl hbA hS hl dL_law_1144 dL_law_1145 dL_law_1147 dL_law_1148 dL_law_1149 ?_
  refine l_arg (j := 3) (by omega) hL (by decide) hx hb hX hbl hbA hS hl dL_law_1150 dL_law_1151 dL_law_1153 dL_law_1154 dL_law_1155 ?_
  refine l_arg (j := 4) (by omega) hL (by decide) hx hb hX hbl hbA hS hl dL_law_1156 dL_law_1157 dL_law_1159 dL_law_1160 dL_law_1161 ?_
  refine l_arg (j := 5) (by omega) hL (by decide) hx hb hX hbl hbA hS hl dL_law_1162 dL_law_1163 dL_law_1165 dL_law_1166 dL_law_1167 ?_
  refine l_shelf (As := [.int (xs (i + 1)), .int (xs (i + 2)), .int (xs (i + 3)), .int (xs (i + 4)), .int (xs (i + 5))]) (rest := []) (fun sz => c_X11_copy l D cy ad tL cH σ u X hSH _ _ _ _ _ sz) vw_RL_140 cb_11 hx hb hml hown hg hK hY hP hD hS hA hLB rfl ⟨by have := hR.1; omega, by have := hR.2; omega⟩ hc hl.1 rfl (Nat.le_of_ble_eq_true rfl) dL_law_1168 (fun r u1 hp H locs hP hD hS => ?_)
  refine lv_aload_n hx hb dL_law_1171 rfl (lv_at hl 3 rfl) ?_
  refine l_arg (j := 1) (by omega) hL (by decide) hx hb hX hbl hbA hS hl dL_law_1172 dL_law_1173 dL_law_1175 dL_law_1176 dL_law_1177 ?_
  refine l_arg (j := 2) (by omega) hL (by decide) hx hb hX hbl hbA hS hl dL_law_1178 dL_law_1179 dL_law_1181 dL_law_1182 dL_law_1183 ?_
  refine l_arg (j := 3) (by omega) hL (by decide) hx hb hX hbl hbA hS hl dL_law_1184 dL_law_1185 dL_law_1187 dL_law_1188 dL_law_1189 ?_
  refine l_arg (j := 4) (by omega) hL (by decide) hx hb hX hbl hbA hS hl dL_law_1190 dL_law_1191 dL_law_1193 dL_law_1194 dL_law_1195 ?_
  refine l_arg (j := 5) (by omega) hL (by decide) hx hb hX hbl hbA hS hl dL_law_1196 dL_law_1197 dL_law_1199 dL_law_1200 dL_law_1201 ?_
  refine l_ref (As := [.int (xs (i + 1)), .int (xs (i + 2)), .int (xs (i + 3)), .int (xs (i + 4)), .int (xs (i + 5))]) (rest := [.int r]) (c_X12_copy l D cy ad2 tL τ _ _ _ _ _ _ (r_copy hw hcC hm hM hp)) vw_RL_144 cb_12 hx hb hml hown hg hK hP hD hS hA hLB rfl ⟨by have := hR.1; omega, by have := hR.2; omega⟩ hc hl.1 rfl (Nat.le_of_ble_eq_true rfl) dL_law_1202 (fun r1 τ1 hq H locs hP hD hS => ?_)
  obtain ⟨e1, h1, X1, h2, h3⟩ := hq
  subst e1
  exact lv_icmp_eq (tgt := 1260) hx hb dL_law_1205 (by decide) (fun _ => W.widen (Nat.le_add_right _ _) (Nat.le_add_right _ _) (kk _ u1 _ g X1 H locs h1 h2 h3 hP hD hS)) (fun z => absurd rfl z)
theorem lc_weight (hx : p.tables.exec = Jvm.exec) (hb : c.code = cL_law) (hml : c.maxLocals = 8) (hown : s.vm.findClass RL = some m.cls) (hg : ∀ w ∈ gAll, w.before args s = true) (hK : va_K D vwCl (tyH cy cH) s) (hA : ∀ q : Nat, s.heap.size ≤ q → A q) (hLB : lowB tL A s s.heap) (hX : va_X b L xs s s.heap) (hbl : b < s.heap.size) (hbA : ¬ A b) (hR : 11 ≤ R.frames ∧ 378 ≤ R.locals) (hc2 : cells + 2 ≤ R.cells ∧ slots + 62 ≤ R.slots) (hY : yPre s) (hi : i + 6 ≤ L) (hL : L ≤ 3072) (hREP : REP σ τ) (hM : MSh τ X) (hSH : SHL cy u X) (hP : va_P D vwCl (lawW cy ad cH σ u ad2 τ o g) H) (hD : va_D A (lawW cy ad cH σ u ad2 τ o g)) (hS : va_S A s.heap H locs) (hl : lv_has ls 8 [(4, .int (nI i)), (0, .ref b), (1, .ref (ad 0)), (2, .ref (ad2 0)), (3, .ref o)])
    (kk : ∀ (σ' : St) (u' : SU) (τ' : St) (g' : Nat → Int64) (X' : Nat → Sf) (H1 : Heap) (locs1 : List Loc), REP σ' τ' → MSh τ' X' → SHL cy u' X' → va_P D vwCl (lawW cy ad cH σ' u' ad2 τ' o g') H1 → va_D A (lawW cy ad cH σ' u' ad2 τ' o g') → va_S A s.heap H1 locs1 → W p l e R s m args below meth c H1 locs1 (cells + 2) (slots + 62) Q (F0 m 1260 ls [])) : W p l e R s m args below meth c H locs cells slots Q (F0 m 1210 ls []) := by
  obtain ⟨N, fs, sl, bd, P, r0, bb, hw, hcC, hm⟩ := hREP
  have hc : cells ≤ R.cells ∧ slots ≤ R.slots := ⟨by omega, by omega⟩
  refine lv_aload_n hx hb dL_law_1210 rfl (lv_at hl 2 rfl) ?_
  refine l_arg (j := 1) (by omega) hL (by decide) hx hb hX hbl hbA hS hl dL_law_1211 dL_law_1212 dL_law_1214 dL_law_1215 dL_law_1216 ?_
  refine l_shelf (As := [.int (xs (i + 1))]) (rest := []) (fun sz => c_X11_weight l D cy ad tL cH σ u X hSH _ sz) vw_RL_145 cb_11 hx hb hml hown hg hK hY hP hD hS hA hLB rfl ⟨by have := hR.1; omega, by have := hR.2; omega⟩ hc hl.1 rfl (Nat.le_of_ble_eq_true rfl) dL_law_1217 (fun r u1 hp H locs hP hD hS => ?_)
  refine lv_aload_n hx hb dL_law_1220 rfl (lv_at hl 3 rfl) ?_
  refine l_arg (j := 1) (by omega) hL (by decide) hx hb hX hbl hbA hS hl dL_law_1221 dL_law_1222 dL_law_1224 dL_law_1225 dL_law_1226 ?_
  refine l_ref (As := [.int (xs (i + 1))]) (rest := [.int r]) (c_X12_weight l D cy ad2 tL τ _ _ (r_weight hw hcC hm hM hp)) vw_RL_148 cb_12 hx hb hml hown hg hK hP hD hS hA hLB rfl ⟨by have := hR.1; omega, by have := hR.2; omega⟩ hc hl.1 rfl (Nat.le_of_ble_eq_true rfl) dL_law_1227 (fun r1 τ1 hq H locs hP hD hS => ?_)
  obtain ⟨e1, h1, X1, h2, h3⟩ := hq
  subst e1
  exact lv_icmp_eq (tgt := 1260) hx hb dL_law_1230 (by decide) (fun _ => W.widen (Nat.le_add_right _ _) (Nat.le_add_right _ _) (kk _ u1 _ g X1 H locs h1 h2 h3 hP hD hS)) (fun z => absurd rfl z)
theorem lc_still (hx : p.tables.exec = Jvm.exec) (hb : c.code = cL_law) (hml : c.maxLocals = 8) (hown : s.vm.findClass RL = some m.cls) (hg : ∀ w ∈ gAll, w.before args s = true) (hK : va_K D vwCl (tyH cy cH) s) (hA : ∀ q : Nat, s.heap.size ≤ q → A q) (hLB : lowB tL A s s.heap) (hX : va_X b L xs s s.heap) (hbl : b < s.heap.size) (hbA : ¬ A b) (hR : 11 ≤ R.frames ∧ 378 ≤ R.locals) (hc : cells ≤ R.cells ∧ slots ≤ R.slots) (hi : i + 6 ≤ L) (hL : L ≤ 3072) (hREP : REP σ τ) (hM : MSh τ X) (hSH : SHL cy u X) (hP : va_P D vwCl (lawW cy ad cH σ u ad2 τ o g) H) (hD : va_D A (lawW cy ad cH σ u ad2 τ o g)) (hS : va_S A s.heap H locs) (hl : lv_has ls 8 [(4, .int (nI i)), (0, .ref b), (1, .ref (ad 0)), (2, .ref (ad2 0)), (3, .ref o)])
    (kk : ∀ (σ' : St) (u' : SU) (τ' : St) (g' : Nat → Int64) (X' : Nat → Sf) (H1 : Heap) (locs1 : List Loc), REP σ' τ' → MSh τ' X' → SHL cy u' X' → va_P D vwCl (lawW cy ad cH σ' u' ad2 τ' o g') H1 → va_D A (lawW cy ad cH σ' u' ad2 τ' o g') → va_S A s.heap H1 locs1 → W p l e R s m args below meth c H1 locs1 (cells + 2) (slots + 62) Q (F0 m 1260 ls [])) : W p l e R s m args below meth c H locs cells slots Q (F0 m 385 ls []) := by
  by_cases z : xs (i + 2) = 0
  · refine lv_aload_n hx hb dL_law_385 rfl (lv_at hl 2 rfl) ?_
    refine l_arg (j := 1) (by omega) hL (by decide) hx hb hX hbl hbA hS hl dL_law_386 dL_law_387 dL_law_389 dL_law_390 dL_law_391 ?_
    refine l_arg (j := 2) (by omega) hL (by decide) hx hb hX hbl hbA hS hl dL_law_392 dL_law_393 dL_law_395 dL_law_396 dL_law_397 ?_
    refine lv_if_eq (tgt := 405) hx hb dL_law_398 (by decide) (fun _ => ?_) (fun y => absurd z y)
    refine lv_iconst (v := bI false) hx hb dL_law_405 (by decide) ?_
    refine l_cls (As := [.int (xs (i + 1)), .int (bI false)]) (rest := []) (c_X11_still l D cy ad tL σ _ _ _ (r_still hREP)) vw_RL_45 cb_11 hx hb hml hown hg hK hP hD hS hA hLB rfl ⟨by have := hR.1; omega, by have := hR.2; omega⟩ hc hl.1 rfl (Nat.le_of_ble_eq_true rfl) dL_law_406 (fun r σ1 hp H locs hP hD hS => ?_)
    refine lv_aload_n hx hb dL_law_409 rfl (lv_at hl 3 rfl) ?_
    refine l_arg (j := 1) (by omega) hL (by decide) hx hb hX hbl hbA hS hl dL_law_410 dL_law_411 dL_law_413 dL_law_414 dL_law_415 ?_
    refine l_arg (j := 2) (by omega) hL (by decide) hx hb hX hbl hbA hS hl dL_law_416 dL_law_417 dL_law_419 dL_law_420 dL_law_421 ?_
    refine lv_if_eq (tgt := 429) hx hb dL_law_422 (by decide) (fun _ => ?_) (fun y => absurd z y)
    refine lv_iconst (v := bI false) hx hb dL_law_429 (by decide) ?_
    refine l_ref (As := [.int (xs (i + 1)), .int (bI false)]) (rest := [.int r]) (c_X12_still l D cy ad2 tL τ _ _ _ hp) vw_RL_49 cb_12 hx hb hml hown hg hK hP hD hS hA hLB rfl ⟨by have := hR.1; omega, by have := hR.2; omega⟩ hc hl.1 rfl (Nat.le_of_ble_eq_true rfl) dL_law_430 (fun r1 τ1 hq H locs hP hD hS => ?_)
    obtain ⟨e1, h1, h2⟩ := hq
    subst e1
    exact lv_icmp_eq (tgt := 1260) hx hb dL_law_433 (by decide) (fun _ => W.widen (Nat.le_add_right _ _) (Nat.le_add_right _ _) (kk _ u _ g X H locs h1 (MSh_ag h2 hM) hSH hP hD hS)) (fun z => absurd rfl z)
  · refine lv_aload_n hx hb dL_law_385 rfl (lv_at hl 2 rfl) ?_
    refine l_arg (j := 1) (by omega) hL (by decide) hx hb hX hbl hbA hS hl dL_law_386 dL_law_387 dL_law_389 dL_law_390 dL_law_391 ?_
    refine l_arg (j := 2) (by omega) hL (by decide) hx hb hX hbl hbA hS hl dL_law_392 dL_law_393 dL_law_395 dL_law_396 dL_law_397 ?_
    refine lv_if_eq (tgt := 405) hx hb dL_law_398 (by decide) (fun y => absurd y z) (fun _ => ?_)
    refine lv_iconst (v := bI true) hx hb dL_law_401 (by decide) ?_
    refine lv_goto (tgt := 406) hx hb dL_law_402 (by decide) ?_
    refine l_cls (As := [.int (xs (i + 1)), .int (bI true)]) (rest := []) (c_X11_still l D cy ad tL σ _ _ _ (r_still hREP)) vw_RL_45 cb_11 hx hb hml hown hg hK hP hD hS hA hLB rfl ⟨by have := hR.1; omega, by have := hR.2; omega⟩ hc hl.1 rfl (Nat.le_of_ble_eq_true rfl) dL_law_406 (fun r σ1 hp H locs hP hD hS => ?_)
    refine lv_aload_n hx hb dL_law_409 rfl (lv_at hl 3 rfl) ?_
    refine l_arg (j := 1) (by omega) hL (by decide) hx hb hX hbl hbA hS hl dL_law_410 dL_law_411 dL_law_413 dL_law_414 dL_law_415 ?_
    refine l_arg (j := 2) (by omega) hL (by decide) hx hb hX hbl hbA hS hl dL_law_416 dL_law_417 dL_law_419 dL_law_420 dL_law_421 ?_
    refine lv_if_eq (tgt := 429) hx hb dL_law_422 (by decide) (fun y => absurd y z) (fun _ => ?_)
    refine lv_iconst (v := bI true) hx hb dL_law_425 (by decide) ?_
    refine lv_goto (tgt := 430) hx hb dL_law_426 (by decide) ?_
    refine l_ref (As := [.int (xs (i + 1)), .int (bI true)]) (rest := [.int r]) (c_X12_still l D cy ad2 tL τ _ _ _ hp) vw_RL_49 cb_12 hx hb hml hown hg hK hP hD hS hA hLB rfl ⟨by have := hR.1; omega, by have := hR.2; omega⟩ hc hl.1 rfl (Nat.le_of_ble_eq_true rfl) dL_law_430 (fun r1 τ1 hq H locs hP hD hS => ?_)
    obtain ⟨e1, h1, h2⟩ := hq
    subst e1
    exact lv_icmp_eq (tgt := 1260) hx hb dL_law_433 (by decide) (fun _ => W.widen (Nat.le_add_right _ _) (Nat.le_add_right _ _) (kk _ u _ g X H locs h1 (MSh_ag h2 hM) hSH hP hD hS)) (fun z => absurd rfl z)
end LAWK2
