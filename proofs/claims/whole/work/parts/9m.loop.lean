/-! THE LAW: its loop -/
section LAWL
variable {p : Program} {l : Launch} {e : Env} {R : Room} {s : State} {m : MethodId} {args : Array Value} {below : List Frame} {meth : Method} {c : Code} {Q : State → Prop}
variable {D : va_G} {cy : Nat → ClassId} {ad ad2 : Nat → Nat} {tL : Nat} {cH : ClassId} {o b L : Nat} {xs : Nat → Int32} {A : Nat → Prop}
set_option maxHeartbeats 8000000 in
theorem l_loop (hl9 : l.stackTraces = false) (hx : p.tables.exec = Jvm.exec) (hb : c.code = cL_law) (hml : c.maxLocals = 8) (hown : s.vm.findClass RL = some m.cls) (hgL : ∀ w ∈ gLaw, w.before args s = true) (hK : va_K D vwCl (tyH cy cH) s) (hA : ∀ q : Nat, s.heap.size ≤ q → A q) (hLB : lowB tL A s s.heap) (hX : va_X b L xs s s.heap) (hbl : b < s.heap.size) (hbA : ¬ A b) (hR : 11 ≤ R.frames ∧ 378 ≤ R.locals) (hY : yPre s) (hT : tPre A s s.heap) (hL : L ≤ 3072) {C S : Nat} (hCS : C ≤ R.cells ∧ S ≤ R.slots)
    (fin : ∀ (H : Heap) (locs : List Loc) (ls : Array Slot) (cells slots : Nat), cells ≤ C → slots ≤ S → va_S A s.heap H locs → W p l e R s m args below meth c H locs cells slots Q (F0 m 1266 ls [])) :
    ∀ (n i : Nat), L < i + 6 * n + 6 → i ≤ 3078 → ∀ (cells slots : Nat) (σ : St) (u : SU) (τ : St) (g : Nat → Int64) (X : Nat → Sf) (H : Heap) (locs : List Loc) (ls : Array Slot), cells + 2 * n ≤ C → slots + 62 * n ≤ S → REP σ τ → MSh τ X → SHL cy u X → va_P D vwCl (lawW cy ad cH σ u ad2 τ o g) H → va_D A (lawW cy ad cH σ u ad2 τ o g) → va_S A s.heap H locs → lv_has ls 8 [(4, .int (nI i)), (0, .ref b), (1, .ref (ad 0)), (2, .ref (ad2 0)), (3, .ref o)] → W p l e R s m args below meth c H locs cells slots Q (F0 m 23 ls []) := by
  have hg : ∀ w ∈ gAll, w.before args s = true := fun w h => hgL w (gLaw_a h)
  have hg2 : ∀ w ∈ gThr2, w.before args s = true := fun w h => hgL w (gLaw_2 h)
  intro n
  induction n with
  | zero =>
    intro i hn hi cells slots σ u τ g X H locs ls hcl hsl hREP hM hSH hP hD hS hl
    refine lv_iload hx hb dL_law_23 (lv_at hl 0 rfl) ?_
    refine lv_aload_n hx hb dL_law_25 rfl (lv_at hl 1 rfl) ?_
    refine va_slen hx hb hX hbl hbA hS dL_law_26 ?_
    refine lv_bipush (v := (6 : Int32)) hx hb dL_law_27 (by decide) ?_
    refine lv_isub hx hb dL_law_29 ?_
    exact lv_icmp_gt (tgt := 1266) hx hb dL_law_30 (by decide) (fun _ => fin H locs ls cells slots (by omega) (by omega) hS) (fun z => absurd ((lt6 hL (by omega)).mpr (by omega)) z)
  | succ n ih =>
    intro i hn hi cells slots σ u τ g X H locs ls hcl hsl hREP hM hSH hP hD hS hl
    refine lv_iload hx hb dL_law_23 (lv_at hl 0 rfl) ?_
    refine lv_aload_n hx hb dL_law_25 rfl (lv_at hl 1 rfl) ?_
    refine va_slen hx hb hX hbl hbA hS dL_law_26 ?_
    refine lv_bipush (v := (6 : Int32)) hx hb dL_law_27 (by decide) ?_
    refine lv_isub hx hb dL_law_29 ?_
    refine lv_icmp_gt (tgt := 1266) hx hb dL_law_30 (by decide) (fun _ => fin H locs ls cells slots (by omega) (by omega) hS) (fun z => ?_)
    have hi6 : i + 6 ≤ L := by
      have : ¬ L < i + 6 := fun y => z ((lt6 hL (by omega)).mpr y)
      omega
    have hc : cells ≤ R.cells ∧ slots ≤ R.slots := ⟨by have := hCS.1; omega, by have := hCS.2; omega⟩
    have hc2 : cells + 2 ≤ R.cells ∧ slots + 62 ≤ R.slots := ⟨by have := hCS.1; omega, by have := hCS.2; omega⟩
    have nx : ∀ (σ : St) (u : SU) (τ : St) (g : Nat → Int64) (X : Nat → Sf) (H : Heap) (locs : List Loc) (ls : Array Slot), lv_has ls 8 [(4, .int (nI i)), (0, .ref b), (1, .ref (ad 0)), (2, .ref (ad2 0)), (3, .ref o)] → REP σ τ → MSh τ X → SHL cy u X → va_P D vwCl (lawW cy ad cH σ u ad2 τ o g) H → va_D A (lawW cy ad cH σ u ad2 τ o g) → va_S A s.heap H locs → W p l e R s m args below meth c H locs (cells + 2) (slots + 62) Q (F0 m 1260 ls []) := by
      intro σ u τ g X H locs ls hl h1 h2 h3 hP hD hS
      refine lv_iinc (k := 0) hx hb dL_law_1260 hl rfl rfl (by decide) rfl (fun ls hl => ?_)
      have hl : lv_has ls 8 [(4, .int (nI i + nI 6)), (0, .ref b), (1, .ref (ad 0)), (2, .ref (ad2 0)), (3, .ref o)] := hl
      rw [nI_add] at hl
      refine lv_goto (tgt := 23) hx hb dL_law_1263 (by decide) ?_
      exact ih (i + 6) (by omega) (by omega) _ _ σ u τ g X H locs ls (by omega) (by omega) h1 h2 h3 hP hD hS hl
    refine lv_aload_n hx hb dL_law_33 rfl (lv_at hl 1 rfl) ?_
    refine lv_iload hx hb dL_law_34 (lv_at hl 0 rfl) ?_
    refine va_sld hx hb hX hbl hbA hS (in_nI (show i < L by omega) (by omega)) dL_law_36 ?_
    rw [cl_nI (by omega)]
    refine lv_bipush (v := (31 : Int32)) hx hb dL_law_37 (by decide) ?_
    refine lv_iand hx hb dL_law_39 ?_
    obtain ⟨k, hk, ek⟩ := and31 (xs i)
    rw [ek]
    have kk := fun (σ : St) (u : SU) (τ : St) (g : Nat → Int64) (X : Nat → Sf) (H : Heap) (locs : List Loc) => nx σ u τ g X H locs ls hl
    rcases (show k = 0 ∨ k = 1 ∨ k = 2 ∨ k = 3 ∨ k = 4 ∨ k = 5 ∨ k = 6 ∨ k = 7 ∨ k = 8 ∨ k = 9 ∨ k = 10 ∨ k = 11 ∨ k = 12 ∨ k = 13 ∨ k = 14 ∨ k = 15 ∨ k = 16 ∨ k = 17 ∨ k = 18 ∨ k = 19 ∨ k = 20 ∨ k = 21 ∨ k = 22 ∨ k = 23 ∨ k = 24 ∨ k = 25 ∨ k = 26 ∨ k = 27 ∨ k = 28 ∨ k = 29 ∨ k = 30 ∨ k = 31 by omega) with rfl | rfl | rfl | rfl | rfl | rfl | rfl | rfl | rfl | rfl | rfl | rfl | rfl | rfl | rfl | rfl | rfl | rfl | rfl | rfl | rfl | rfl | rfl | rfl | rfl | rfl | rfl | rfl | rfl | rfl | rfl | rfl
    · exact lv_tableIn (tgt := 176) hx hb dL_law_40 (by decide) (by decide) rfl (by decide) (lc_input hx hb hml hown hg hK hA hLB hX hbl hbA hR hc hi6 hL hREP hM hSH hP hD hS hl kk)
    · exact lv_tableIn (tgt := 201) hx hb dL_law_40 (by decide) (by decide) rfl (by decide) (lc_keeper hx hb hml hown hg hK hA hLB hX hbl hbA hR hc hi6 hL hREP hM hSH hP hD hS hl kk)
    · exact lv_tableIn (tgt := 238) hx hb dL_law_40 (by decide) (by decide) rfl (by decide) (lc_gate hx hb hml hown hg hK hA hLB hX hbl hbA hR hc hi6 hL hREP hM hSH hP hD hS hl kk)
    · exact lv_tableIn (tgt := 299) hx hb dL_law_40 (by decide) (by decide) rfl (by decide) (lc_connect hx hb hml hown hg hK hA hLB hX hbl hbA hR hc hi6 hL hREP hM hSH hP hD hS hl kk)
    · exact lv_tableIn (tgt := 336) hx hb dL_law_40 (by decide) (by decide) rfl (by decide) (lc_bound hx hb hml hown hg hK hA hLB hX hbl hbA hR hc hi6 hL hREP hM hSH hP hD hS hl kk)
    · exact lv_tableIn (tgt := 385) hx hb dL_law_40 (by decide) (by decide) rfl (by decide) (lc_still hx hb hml hown hg hK hA hLB hX hbl hbA hR hc hi6 hL hREP hM hSH hP hD hS hl kk)
    · exact lv_tableIn (tgt := 438) hx hb dL_law_40 (by decide) (by decide) rfl (by decide) (lc_promise hx hb hml hown hg hK hA hLB hX hbl hbA hR hc hi6 hL hREP hM hSH hP hD hS hl kk)
    · exact lv_tableIn (tgt := 487) hx hb dL_law_40 (by decide) (by decide) rfl (by decide) (lc_start hx hb hml hown hg hK hA hLB hX hbl hbA hR hc hi6 hL hREP hM hSH hP hD hS hl kk)
    · exact lv_tableIn (tgt := 500) hx hb dL_law_40 (by decide) (by decide) rfl (by decide) (lc_moment hx hb hml hown hg hK hA hLB hX hbl hbA hR hc hi6 hL hREP hM hSH hP hD hS hl kk)
    · exact lv_tableIn (tgt := 549) hx hb dL_law_40 (by decide) (by decide) rfl (by decide) (lc_value hx hb hml hown hg hK hA hLB hX hbl hbA hR hc hi6 hL hREP hM hSH hP hD hS hl kk)
    · exact lv_tableIn (tgt := 574) hx hb dL_law_40 (by decide) (by decide) rfl (by decide) (lc_either hx hb hml hown hg hK hA hLB hX hbl hbA hR hc hi6 hL hREP hM hSH hP hD hS hl kk)
    · exact lv_tableIn (tgt := 599) hx hb dL_law_40 (by decide) (by decide) rfl (by decide) (lc_ticks hx hb hml hown hg hK hA hLB hX hbl hbA hR hc hi6 hL hREP hM hSH hP hD hS hl kk)
    · exact lv_tableIn (tgt := 636) hx hb dL_law_40 (by decide) (by decide) rfl (by decide) (lc_broken hx hb hml hown hg hK hA hLB hX hbl hbA hR hc hi6 hL hREP hM hSH hP hD hS hl kk)
    · exact lv_tableIn (tgt := 661) hx hb dL_law_40 (by decide) (by decide) rfl (by decide) (lc_walk hx hb hml hown hg hK hA hLB hX hbl hbA hR hc hi6 hL hREP hM hSH hP hD hS hl kk)
    · exact lv_tableIn (tgt := 674) hx hb dL_law_40 (by decide) (by decide) rfl (by decide) (lc_state hx hb hml hown hg hK hA hLB hX hbl hbA hR hc hi6 hL hREP hM hSH hP hD hS hl kk)
    · exact lv_tableIn (tgt := 711) hx hb dL_law_40 (by decide) (by decide) rfl (by decide) (lc_shown hx hb hml hown hg hK hA hLB hX hbl hbA hR hc hi6 hL hREP hM hSH hP hD hS hl kk)
    · exact lv_tableIn (tgt := 748) hx hb dL_law_40 (by decide) (by decide) rfl (by decide) (lc_never hx hb hml hown hg hK hA hLB hX hbl hbA hR hc hi6 hL hREP hM hSH hP hD hS hl kk)
    · exact lv_tableIn (tgt := 785) hx hb dL_law_40 (by decide) (by decide) rfl (by decide) (lc_follow hx hb hml hown hg hK hA hLB hX hbl hbA hR hc hi6 hL hREP hM hSH hP hD hS hl kk)
    · exact lv_tableIn (tgt := 810) hx hb dL_law_40 (by decide) (by decide) rfl (by decide) (lc_fewest hx hb hml hown hg hK hA hLB hX hbl hbA hR hc hi6 hL hREP hM hSH hP hD hS hl kk)
    · exact lv_tableIn (tgt := 835) hx hb dL_law_40 (by decide) (by decide) rfl (by decide) (lc_crossings hx hb hml hown hg hK hA hLB hX hbl hbA hR hc hi6 hL hREP hM hSH hP hD hS hl kk)
    · exact lv_tableIn (tgt := 848) hx hb dL_law_40 (by decide) (by decide) rfl (by decide) (lc_crossing hx hb hml hown hg hK hA hLB hX hbl hbA hR hc hi6 hL hREP hM hSH hP hD hS hl kk)
    · exact lv_tableIn (tgt := 885) hx hb dL_law_40 (by decide) (by decide) rfl (by decide) (lc_mend hx hb hml hown hg hK hA hLB hX hbl hbA hR hc hi6 hL hREP hM hSH hP hD hS hl kk)
    · exact lv_tableIn (tgt := 910) hx hb dL_law_40 (by decide) (by decide) rfl (by decide) (lc_count hx hb hml hown hg hK hA hLB hX hbl hbA hR hc hi6 hL hREP hM hSH hP hD hS hl kk)
    · exact lv_tableIn (tgt := 935) hx hb dL_law_40 (by decide) (by decide) rfl (by decide) (lc_look hx hb hml hown hg hK hA hLB hX hbl hbA hR hc hi6 hL hREP hM hSH hP hD hS hl kk)
    · exact lv_tableIn (tgt := 972) hx hb dL_law_40 (by decide) (by decide) rfl (by decide) (lc_keep hx hb hml hown hg hK hA hLB hX hbl hbA hR hc2 hY hi6 hL hREP hM hSH hP hD hS hl kk)
    · exact lv_tableIn (tgt := 1021) hx hb dL_law_40 (by decide) (by decide) rfl (by decide) (lc_make hx hb hml hown hg hK hA hLB hX hbl hbA hR hc2 hY hi6 hL hREP hM hSH hP hD hS hl kk)
    · exact lv_tableIn (tgt := 1070) hx hb dL_law_40 (by decide) (by decide) rfl (by decide) (lc_element hl9 hx hb hml hown hgL hK hA hLB hX hbl hbA hR hc2 hY hT hi6 hL hREP hM hSH hP hD hS hl nx)
    · exact lv_tableIn (tgt := 1137) hx hb dL_law_40 (by decide) (by decide) rfl (by decide) (lc_copy hx hb hml hown hg hK hA hLB hX hbl hbA hR hc2 hY hi6 hL hREP hM hSH hP hD hS hl kk)
    · exact lv_tableIn (tgt := 1210) hx hb dL_law_40 (by decide) (by decide) rfl (by decide) (lc_weight hx hb hml hown hg hK hA hLB hX hbl hbA hR hc2 hY hi6 hL hREP hM hSH hP hD hS hl kk)
    · exact lv_tableIn (tgt := 1235) hx hb dL_law_40 (by decide) (by decide) rfl (by decide) (lc_toss hl9 hx hb hml hown hg2 hK hA hLB hX hbl hbA hR hc2 hY hT hi6 hL hREP hM hSH hP hD hS hl kk)
    · exact lv_tableOut (tgt := 1260) hx hb dL_law_40 (Or.inr (by decide)) (by decide) (W.widen (Nat.le_add_right _ _) (Nat.le_add_right _ _) (nx σ u τ g X H locs ls hl hREP hM hSH hP hD hS))
    · exact lv_tableOut (tgt := 1260) hx hb dL_law_40 (Or.inr (by decide)) (by decide) (W.widen (Nat.le_add_right _ _) (Nat.le_add_right _ _) (nx σ u τ g X H locs ls hl hREP hM hSH hP hD hS))
end LAWL
