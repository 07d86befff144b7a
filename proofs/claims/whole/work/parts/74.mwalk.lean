/-! THE WALK (the reference): parts of it -/
def MWs (σ : St) (N : Ne) (w : Wk) : Prop := σ.1 0 27 = nI (wk_s w) ∧ ∀ k, k < wk_s w → (∀ c, bt (σ.1 16 k) c = EV N (sq_v (wk_i w k)) c) ∧ (∀ i, i < 16 → σ.1 17 (16 * k + i) = nI (sq_t (wk_i w k) i)) ∧ σ.1 18 k = (if k = 0 then -1 else nI (sq_f (wk_i w k))) ∧ σ.1 19 k = nI (sq_c (wk_i w k)) ∧ σ.1 20 k = nI (sq_i (wk_i w k)) ∧ σ.1 21 k = nI (sq_o (wk_i w k)) ∧ σ.1 22 k = nI (sq_d (wk_i w k))
def MWf (σ : St) (w : Wk) : Prop := ∀ k, k < wk_s w → σ.1 23 k = if k < wk_l w then nI (wk_c w k - opn w k) else -2
def MWm (σ : St) (w : Wk) : Prop := ∀ m, m < wk_m w → σ.1 24 m = nI (wk_w w m).1 ∧ σ.1 25 m = nI (wk_w w m).2.1 ∧ σ.1 26 m = nI (wk_w w m).2.2
def MVn (σ : St) (nv : Nat → NV) : Prop := ∀ p, p < 8 → σ.1 28 p = bI (nv p).1 ∧ ((nv p).1 = true → σ.1 27 (5 * p) = (nv p).2.1 ∧ σ.1 27 (5 * p + 1) = nI (nv p).2.2.1 ∧ σ.1 27 (5 * p + 2) = nI (nv p).2.2.2.1 ∧ σ.1 27 (5 * p + 3) = nI (nv p).2.2.2.2.1 ∧ σ.1 27 (5 * p + 4) = nI (nv p).2.2.2.2.2)
def MWc (σ : St) (w : Wk) : Prop := σ.1 0 25 = 1 ∧ σ.1 0 26 = bI (wk_x w) ∧ σ.1 0 28 = nI (wk_l w) ∧ σ.1 0 29 = nI (wk_m w) ∧ σ.1 0 38 = nI (wk_m w)
def MW (σ : St) (N : Ne) (w : Wk) : Prop := MWc σ w ∧ MWs σ N w ∧ MWf σ w ∧ MWm σ w ∧ MVn σ (wk_n w)
theorem MWs_ag {σ σ' : St} {N : Ne} {w : Wk} (h : ag [16, 17, 18, 19, 20, 21, 22] [(0, 27)] σ σ') (hW : MWs σ N w) : MWs σ' N w := by
  refine ⟨by rw [(h 0 27 (by simp)).1]; exact hW.1, fun k hk => ?_⟩
  obtain ⟨h1, h2, h3, h4, h5, h6, h7⟩ := hW.2 k hk
  refine ⟨fun c => ?_, fun i hi => ?_, ?_, ?_, ?_, ?_, ?_⟩
  · rw [(h 16 k (by simp)).1]; exact h1 c
  · rw [(h 17 _ (by simp)).1]; exact h2 i hi
  · rw [(h 18 k (by simp)).1]; exact h3
  · rw [(h 19 k (by simp)).1]; exact h4
  · rw [(h 20 k (by simp)).1]; exact h5
  · rw [(h 21 k (by simp)).1]; exact h6
  · rw [(h 22 k (by simp)).1]; exact h7
theorem MWf_ag {σ σ' : St} {w : Wk} (h : ag [23] [] σ σ') (hW : MWf σ w) : MWf σ' w := fun k hk => by rw [(h 23 k (by simp)).1]; exact hW k hk
theorem MWm_ag {σ σ' : St} {w : Wk} (h : ag [24, 25, 26] [] σ σ') (hW : MWm σ w) : MWm σ' w := fun k hk => by rw [(h 24 k (by simp)).1, (h 25 k (by simp)).1, (h 26 k (by simp)).1]; exact hW k hk
theorem MVn_ag {σ σ' : St} {nv : Nat → NV} (h : ag [27, 28] [] σ σ') (hW : MVn σ nv) : MVn σ' nv := fun k hk => by
  have e := fun j => (h 27 j (by simp)).1
  rw [(h 28 k (by simp)).1, e, e, e, e, e]; exact hW k hk
theorem MWc_ag {σ σ' : St} {w : Wk} (h : ag [] [(0, 25), (0, 26), (0, 28), (0, 29), (0, 38)] σ σ') (hW : MWc σ w) : MWc σ' w := by
  unfold MWc
  rw [(h 0 25 (by simp)).1, (h 0 26 (by simp)).1, (h 0 28 (by simp)).1, (h 0 29 (by simp)).1, (h 0 38 (by simp)).1]
  exact hW
theorem MW_ag {σ σ' : St} {N : Ne} {w : Wk} (h : ag [16, 17, 18, 19, 20, 21, 22, 23, 24, 25, 26, 27, 28] [(0, 25), (0, 26), (0, 27), (0, 28), (0, 29), (0, 38)] σ σ') (hW : MW σ N w) : MW σ' N w := by
  have s : ∀ {S1 : List Nat} {F1 : List (Nat × Nat)}, (∀ k, k ∈ S1 → k ∈ [16, 17, 18, 19, 20, 21, 22, 23, 24, 25, 26, 27, 28]) → (∀ k, k ∈ F1 → k ∈ [(0, 25), (0, 26), (0, 27), (0, 28), (0, 29), (0, 38)]) → ag S1 F1 σ σ' := fun h1 h2 k j q => h k j (q.imp (h1 k) (h2 (k, j)))
  exact ⟨MWc_ag (s (by decide) (by decide)) hW.1, MWs_ag (s (by decide) (by decide)) hW.2.1, MWf_ag (s (by decide) (by decide)) hW.2.2.1, MWm_ag (s (by decide) (by decide)) hW.2.2.2.1, MVn_ag (s (by decide) (by decide)) hW.2.2.2.2⟩
theorem MK_ag {σ σ' : St} {N : Ne} {v : Nat → Bool} {st inp : Nat} (h : ag [] [(0, 21), (0, 22), (0, 23), (0, 24)] σ σ') (hK : MK σ N v st inp) : MK σ' N v st inp := by
  unfold MK
  rw [(h 0 21 (by simp)).1, (h 0 22 (by simp)).1, (h 0 23 (by simp)).1, (h 0 24 (by simp)).1]
  exact hK
/-- one place of an array is written -/
theorem wr_at {σ : St} {k n : Nat} {i v : Int32} {Q : St → Prop} (j : Nat) (hi : i = nI j) (hj : j < n) (hn : n < 2 ^ 31) (h : ∀ σ', σ' = upI σ k j v → Q σ') : ck i n (nm (upI σ k i.toNatClampNeg v) Q) := by
  subst hi
  refine ck_of j rfl hj hn (nm_of ?_)
  rw [cl_nI (by omega)]
  exact h _ rfl
theorem wrL_at {σ : St} {k n : Nat} {i : Int32} {v : Int64} {Q : St → Prop} (j : Nat) (hi : i = nI j) (hj : j < n) (hn : n < 2 ^ 31) (h : ∀ σ', σ' = upJ σ k j v → Q σ') : ck i n (nm (upJ σ k i.toNatClampNeg v) Q) := by
  subst hi
  refine ck_of j rfl hj hn (nm_of ?_)
  rw [cl_nI (by omega)]
  exact h _ rfl
theorem vals_eq {N : Ne} (hW : WN N) {v u : Nat → Bool} {a b : Int32} (hv : pas N v) (hu : pas N u) (ha : ∀ c, bt a c = EV N v c) (hb : ∀ c, bt b c = EV N u c) : a = b ↔ ∀ c, c < nn N → 4 < nk N c → v c = u c := by
  constructor
  · intro e c hc g
    rw [← EV_bit N v g, ← EV_bit N u g, ← ha, ← hb, e]
  · intro e
    apply b_ext
    intro i _
    rw [ha, hb]
    rcases Nat.lt_or_ge i (nn N) with q | q
    · exact EV_cong hW e i q
    · rw [EV_hi N v q, EV_hi N u q]
      have z : ∀ {f : Nat → Bool}, pas N f → f i = false := fun {f} hf => by
        cases y : f i with
        | false => rfl
        | true => have := (hf i y).1; omega
      rw [z hv, z hu]
theorem sok_lt {N : Ne} {bd : Nat → Nat} {s : SI} (hbd : ∀ k, k < 16 → bd k ≤ 9) (h : sok N bd s) {i : Nat} (hi : i < 16) : sq_t s i ≤ 9 := by
  rcases h.2.2 i hi with q | q
  · rw [h.2.1 i hi q]; omega
  · have := hbd i hi; omega
theorem m_stateOf {σ : St} {N : Ne} {bd nx0 : Nat → Nat} {w : Wk} {a : Int32} {n : SI} {post : Int32 → Prop} (hW : WN N) (hB : MB σ bd) (hbd : ∀ k, k < 16 → bd k ≤ 9) (hS : MWs σ N w) (hs : wk_s w ≤ 250) (hok : ∀ k, k < wk_s w → sok N bd (wk_i w k)) (hnx : ∀ i, i < 16 → σ.1 29 i = nI (nx0 i)) (hnl : ∀ i, i < 16 → nx0 i < 2 ^ 31) (ht : sq_t n = dg bd nx0) (hp : pas N (sq_v n)) (ha : ∀ c, bt a c = EV N (sq_v n) c) (h1 : whr N w n = wk_s w → post (-1)) (h2 : whr N w n < wk_s w → post (nI (whr N w n))) : w_X12_stateOf σ a post := by
  unfold w_X12_stateOf
  refine jn_at ?_
  refine lpE1_inv (I := fun y2 => ∃ k, k ≤ wk_s w ∧ y2 = nI k ∧ ∀ j, j < k → smS N (wk_i w j) (sq_v n) (sq_t n) = false) (μ := fun y2 => wk_s w - y2.toNatClampNeg) ?_ 0 ⟨0, by omega, rfl, fun j hj => absurd hj (Nat.not_lt_zero j)⟩
  rintro rec y2 ⟨k, hk, rfl, hno⟩ hrec
  unfold w_X12_stateOf_L2
  refine br_le (wk_s w) k hS.1 rfl (by omega) (by omega) (fun q => h1 (first_none (fun j hj => hno j (by omega)))) (fun q => ?_)
  obtain ⟨u1, u2, -⟩ := hS.2 k q
  have ok := hok k q
  refine rd_of k rfl (by omega) (by decide) ?_
  have ve := vals_eq hW ok.1 hp u1 ha
  refine jn_1 (fun y7 => ∃ b : Bool, y7 = bI b ∧ (b = true ↔ ∀ c, c < nn N → 4 < nk N c → sq_v (wk_i w k) c = sq_v n c)) (fun J hJ => ?_) ?_
  · exact br_2 (fun z => hJ _ ⟨true, rfl, ⟨fun _ => ve.mp z, fun _ => rfl⟩⟩) (fun z => hJ _ ⟨false, rfl, ⟨fun y => Bool.noConfusion y, fun y => absurd (ve.mpr y) z⟩⟩)
  rintro y7 ⟨b0, rfl, hb0⟩
  refine jn_1 (fun y9 => y9 = bI (smS N (wk_i w k) (sq_v n) (sq_t n))) (fun J hJ => ?_) ?_
  · refine lpE2_inv (I := fun y12 y13 => ∃ i, i ≤ 16 ∧ y13 = nI i ∧ ∃ b : Bool, y12 = bI b ∧ (b = true → (∀ c, c < nn N → 4 < nk N c → sq_v (wk_i w k) c = sq_v n c) ∧ ∀ j, j < i → sq_t (wk_i w k) j = sq_t n j) ∧ (b = false → smS N (wk_i w k) (sq_v n) (sq_t n) = false)) (μ := fun _ y13 => 16 - y13.toNatClampNeg) ?_ _ 0 ⟨0, by omega, rfl, b0, rfl, fun e => ⟨hb0.mp e, fun j hj => absurd hj (Nat.not_lt_zero j)⟩, fun e => ?_⟩
    rotate_left
    · refine Bool.eq_false_iff.mpr (fun z => ?_)
      have := hb0.mpr (smS_iff.mp z).1
      rw [e] at this; cases this
    rintro rec2 y12 y13 ⟨i, hi, rfl, b, rfl, hbt, hbf⟩ hrec2
    unfold w_X12_stateOf_L29
    refine br_le 16 i rfl rfl (by omega) (by omega) (fun z => hJ _ ?_) (fun z => ?_)
    · cases b with
      | false => rw [hbf rfl]
      | true => rw [smS_iff.mpr ⟨(hbt rfl).1, fun j hj => (hbt rfl).2 j (by omega)⟩]
    cases b with
    | false => exact br_1 rfl (hJ _ (by rw [hbf rfl]))
    | true =>
      refine br_0 (by decide) (rd_of i rfl z (by decide) ?_)
      rw [hB i z]
      have b9 := hbd i z
      have dec : 16 - (nI i + 1).toNatClampNeg < 16 - (nI i).toNatClampNeg := by rw [nI_1, cl_nI (by omega), cl_nI (by omega)]; omega
      have yes : sq_t (wk_i w k) i = sq_t n i → rec2 1 (nI i + 1) := fun e => hrec2 _ _ ⟨i + 1, z, nI_1 i, true, rfl, fun _ => ⟨(hbt rfl).1, fun j hj => by
        rcases (show j < i ∨ j = i by omega) with y | y
        · exact (hbt rfl).2 j y
        · rw [y]; exact e⟩, fun y => Bool.noConfusion y⟩ dec
      refine br_eq (bd i) 0 rfl rfl (by omega) (by omega) (fun e => nm_of (yes ?_)) (fun e => ?_)
      · rw [ok.2.1 i z e, ht]; show 0 = if bd i = 0 then 0 else nx0 i; rw [if_pos e]
      have tn : sq_t n i = nx0 i := by rw [ht]; exact if_neg e
      have l9 := sok_lt hbd ok z
      refine rd_of (16 * k + i) (by rw [show (16 : Int32) = nI 16 from rfl, pk_mul, nI_add]) (by omega) (by decide) (rd_of i rfl z (by decide) ?_)
      rw [u2 i z, hnx i z]
      refine br_eq (sq_t (wk_i w k) i) (nx0 i) rfl rfl (by omega) (hnl i z) (fun e2 => nm_of (yes (by rw [e2, tn]))) (fun e2 => nm_of (hrec2 _ _ ⟨i + 1, z, nI_1 i, false, rfl, fun y => Bool.noConfusion y, fun _ => ?_⟩ dec))
      refine Bool.eq_false_iff.mpr (fun y => e2 ?_)
      rw [(smS_iff.mp y).2 i z, tn]
  rintro y9 rfl
  cases t : smS N (wk_i w k) (sq_v n) (sq_t n) with
  | false =>
    refine br_1 rfl (nm_of (hrec _ ⟨k + 1, q, nI_1 k, fun j hj => ?_⟩ (by rw [nI_1, cl_nI (by omega), cl_nI (by omega)]; omega)))
    rcases (show j < k ∨ j = k by omega) with y | y
    · exact hno j y
    · rw [y]; exact t
  | true =>
    have e : whr N w n = k := first_some q t hno
    rw [e] at h2
    exact br_0 (by decide) (h2 q)
theorem m_addState {σ : St} {N : Ne} {bd nx0 : Nat → Nat} {w w' : Wk} {a1 a2 a3 a4 a5 : Int32} {n : SI} {post : St → Prop} (hB : MB σ bd) (hbd : ∀ k, k < 16 → bd k ≤ 9) (hS : MWs σ N w) (hF : MWf σ w) (hs : wk_s w < 250) (hl : wk_l w ≤ wk_s w) (hnx : ∀ i, i < 16 → σ.1 29 i = nI (nx0 i)) (ht : sq_t n = dg bd nx0) (h1 : ∀ c, bt a1 c = EV N (sq_v n) c) (h2 : a2 = if wk_s w = 0 then -1 else nI (sq_f n)) (hf : 0 < wk_s w → sq_f n < wk_s w) (hd : sq_d n = if wk_s w = 0 then 0 else sq_d (wk_i w (sq_f n)) + 1) (h3 : a3 = nI (sq_c n)) (h4 : a4 = nI (sq_i n)) (h5 : a5 = nI (sq_o n)) (e1 : wk_s w' = wk_s w + 1) (e2 : ∀ j, j < wk_s w → wk_i w' j = wk_i w j) (e3 : wk_i w' (wk_s w) = n) (e4 : wk_l w' = wk_l w) (e5 : wk_c w' = wk_c w)
    (h : ∀ σ', fr [16, 17, 18, 19, 20, 21, 22, 23] [(0, 27)] σ σ' → MWs σ' N w' → MWf σ' w' → post σ') : w_X12_addState σ a1 a2 a3 a4 a5 post := by
  unfold w_X12_addState
  refine wr_at (wk_s w) hS.1 hs (by decide) (fun σ1 t1 => ?_)
  have g1 : ∀ K j, σ1.1 K j = if K = 16 ∧ j = wk_s w then a1 else σ.1 K j := fun K j => by rw [t1, upI_get]
  have f1 : fr [16, 17, 18, 19, 20, 21, 22, 23] [(0, 27)] σ σ1 := by rw [t1]; exact fr_I σ _ _ _ (by simp)
  clear t1
  refine jn_1 (fun σ3 => fr [16, 17, 18, 19, 20, 21, 22, 23] [(0, 27)] σ σ3 ∧ (∀ K j, K ≠ 17 → σ3.1 K j = σ1.1 K j) ∧ (∀ j, j < 16 * wk_s w → σ3.1 17 j = σ.1 17 j) ∧ ∀ i, i < 16 → σ3.1 17 (16 * wk_s w + i) = nI (sq_t n i)) (fun J hJ => ?_) ?_
  · refine lpE2_inv (I := fun y15 σ16 => ∃ i, i ≤ 16 ∧ y15 = nI i ∧ fr [16, 17, 18, 19, 20, 21, 22, 23] [(0, 27)] σ σ16 ∧ (∀ K j, K ≠ 17 → σ16.1 K j = σ1.1 K j) ∧ (∀ j, j < 16 * wk_s w → σ16.1 17 j = σ.1 17 j) ∧ ∀ d, d < i → σ16.1 17 (16 * wk_s w + d) = nI (sq_t n d)) (μ := fun y15 _ => 16 - y15.toNatClampNeg) ?_ 0 σ1 ⟨0, by omega, rfl, f1, fun _ _ _ => rfl, fun j _ => by rw [g1, if_neg (by omega)], fun d hd => absurd hd (Nat.not_lt_zero d)⟩
    rintro rec y15 s ⟨i, hi, rfl, fs', k1, k2, k3⟩ hrec
    unfold w_X12_addState_L13
    refine br_le 16 i rfl rfl (by omega) (by omega) (fun z => hJ _ ⟨fs', k1, k2, fun d hd => k3 d (by omega)⟩) (fun z => ?_)
    have b9 := hbd i z
    refine rd_of i rfl z (by decide) ?_
    rw [k1 8 i (by decide), g1, if_neg (by omega), hB i z]
    have s27 : s.1 0 27 = nI (wk_s w) := by rw [k1 0 27 (by decide), g1, if_neg (by omega)]; exact hS.1
    refine jn_1 (fun y21 => y21 = nI (sq_t n i)) (fun J20 hJ20 => ?_) ?_
    · refine br_eq (bd i) 0 rfl rfl (by omega) (by omega) (fun e => hJ20 _ ?_) (fun e => rd_of i rfl z (by decide) (hJ20 _ ?_))
      · rw [ht]; show 0 = nI (if bd i = 0 then 0 else nx0 i); rw [if_pos e]; rfl
      · rw [k1 29 i (by decide), g1, if_neg (by omega), hnx i z, ht]; show _ = nI (if bd i = 0 then 0 else nx0 i); rw [if_neg e]
    rintro y21 rfl
    refine wr_at (16 * wk_s w + i) (by rw [s27, show (16 : Int32) = nI 16 from rfl, pk_mul, nI_add]) (by omega) (by decide) (fun σ22 t22 => nm_of (hrec _ _ ⟨i + 1, z, nI_1 i, ?_, fun K j hK => ?_, fun j hj => ?_, fun d hd => ?_⟩ (by rw [nI_1, cl_nI (by omega), cl_nI (by omega)]; omega)))
    · rw [t22]; exact fr_stepI fs' _ _ _ (by simp)
    · rw [t22, upI_get, if_neg (fun y => hK y.1)]; exact k1 K j hK
    · rw [t22, upI_get, if_neg (by omega)]; exact k2 j hj
    · rw [t22, upI_get]
      by_cases y : d = i
      · rw [if_pos ⟨rfl, by rw [y]⟩, y]
      · rw [if_neg (by omega)]; exact k3 d (by omega)
  rintro σ3 ⟨f3, k1, k2, k3⟩
  have s27 : σ3.1 0 27 = nI (wk_s w) := by rw [k1 0 27 (by decide), g1, if_neg (by omega)]; exact hS.1
  refine wr_at (wk_s w) s27 hs (by decide) (fun σ4 t4 => ?_)
  have q4 : σ4.1 0 27 = nI (wk_s w) := by rw [t4, upI_get, if_neg (by omega)]; exact s27
  refine wr_at (wk_s w) q4 hs (by decide) (fun σ5 t5 => ?_)
  have q5 : σ5.1 0 27 = nI (wk_s w) := by rw [t5, upI_get, if_neg (by omega)]; exact q4
  refine wr_at (wk_s w) q5 hs (by decide) (fun σ6 t6 => ?_)
  have q6 : σ6.1 0 27 = nI (wk_s w) := by rw [t6, upI_get, if_neg (by omega)]; exact q5
  refine wr_at (wk_s w) q6 hs (by decide) (fun σ7 t7 => ?_)
  have q7 : σ7.1 0 27 = nI (wk_s w) := by rw [t7, upI_get, if_neg (by omega)]; exact q6
  have g7 : ∀ K j, σ7.1 K j = if K = 21 ∧ j = wk_s w then a5 else if K = 20 ∧ j = wk_s w then a4 else if K = 19 ∧ j = wk_s w then a3 else if K = 18 ∧ j = wk_s w then a2 else σ3.1 K j := fun K j => by rw [t7, upI_get, t6, upI_get, t5, upI_get, t4, upI_get]
  have f7 : fr [16, 17, 18, 19, 20, 21, 22, 23] [(0, 27)] σ σ7 := by
    rw [t7, t6, t5, t4]
    exact fr_stepI (fr_stepI (fr_stepI (fr_stepI f3 _ _ _ (by simp)) _ _ _ (by simp)) _ _ _ (by simp)) _ _ _ (by simp)
  clear t4 t5 t6 t7 q4 q5 q6
  refine jn_1 (fun y9 => y9 = nI (sq_d n)) (fun J hJ => ?_) ?_
  · by_cases z : wk_s w = 0
    · rw [h2, if_pos z]
      exact br_0 (by decide) (hJ _ (by rw [hd, if_pos z]; rfl))
    · have fl := hf (by omega)
      rw [h2, if_neg z]
      refine br_1 (nI_pos' (by omega)) (rd_of (sq_f n) rfl (by omega) (by decide) (hJ _ ?_))
      rw [g7, if_neg (by omega), if_neg (by omega), if_neg (by omega), if_neg (by omega), k1 22 _ (by decide), g1, if_neg (by omega), (hS.2 _ fl).2.2.2.2.2.2, nI_1, hd, if_neg z]
  rintro y9 rfl
  refine wr_at (wk_s w) q7 hs (by decide) (fun σ10 t10 => ?_)
  have q10 : σ10.1 0 27 = nI (wk_s w) := by rw [t10, upI_get, if_neg (by omega)]; exact q7
  refine wr_at (wk_s w) q10 hs (by decide) (fun σ11 t11 => nm_of ?_)
  have q11 : σ11.1 0 27 = nI (wk_s w) := by rw [t11, upI_get, if_neg (by omega)]; exact q10
  rw [q11, nI_1]
  generalize t12 : upI σ11 0 27 (nI (wk_s w + 1)) = σ12
  have g12 : ∀ K j, σ12.1 K j = if K = 0 ∧ j = 27 then nI (wk_s w + 1) else if K = 23 ∧ j = wk_s w then -2 else if K = 22 ∧ j = wk_s w then nI (sq_d n) else σ7.1 K j := fun K j => by rw [← t12, upI_get, t11, upI_get, t10, upI_get]
  have f12 : fr [16, 17, 18, 19, 20, 21, 22, 23] [(0, 27)] σ σ12 := by
    rw [← t12, t11, t10]
    exact fr_stepI (fr_stepI (fr_stepI f7 _ _ _ (by simp)) _ _ _ (by simp)) _ _ _ (by simp)
  have old : ∀ K j, 16 ≤ K → K ≠ 17 → j ≠ wk_s w → σ12.1 K j = σ.1 K j := by
    intro K j hK h17 hj
    rw [g12, if_neg (by omega), if_neg (by omega), if_neg (by omega), g7, if_neg (by omega), if_neg (by omega), if_neg (by omega), if_neg (by omega), k1 K j h17, g1, if_neg (by omega)]
  have o17 : ∀ j, σ12.1 17 j = σ3.1 17 j := fun j => by
    rw [g12, if_neg (by omega), if_neg (by omega), if_neg (by omega), g7, if_neg (by omega), if_neg (by omega), if_neg (by omega), if_neg (by omega)]
  refine h σ12 f12 ⟨?_, fun k hk => ?_⟩ (fun k hk => ?_)
  · rw [g12, if_pos ⟨rfl, rfl⟩, e1]
  · rw [e1] at hk
    by_cases z : k = wk_s w
    · subst z
      rw [e3]
      refine ⟨fun c => ?_, fun i hi => ?_, ?_, ?_, ?_, ?_, ?_⟩
      · rw [g12, if_neg (by omega), if_neg (by omega), if_neg (by omega), g7, if_neg (by omega), if_neg (by omega), if_neg (by omega), if_neg (by omega), k1 16 _ (by decide), g1, if_pos ⟨rfl, rfl⟩]
        exact h1 c
      · rw [o17]; exact k3 i hi
      · rw [g12, if_neg (by omega), if_neg (by omega), if_neg (by omega), g7, if_neg (by omega), if_neg (by omega), if_neg (by omega), if_pos ⟨rfl, rfl⟩]; exact h2
      · rw [g12, if_neg (by omega), if_neg (by omega), if_neg (by omega), g7, if_neg (by omega), if_neg (by omega), if_pos ⟨rfl, rfl⟩]; exact h3
      · rw [g12, if_neg (by omega), if_neg (by omega), if_neg (by omega), g7, if_neg (by omega), if_pos ⟨rfl, rfl⟩]; exact h4
      · rw [g12, if_neg (by omega), if_neg (by omega), if_neg (by omega), g7, if_pos ⟨rfl, rfl⟩]; exact h5
      · rw [g12, if_neg (by omega), if_neg (by omega), if_pos ⟨rfl, rfl⟩]
    · obtain ⟨u1, u2, u3, u4, u5, u6, u7⟩ := hS.2 k (by omega)
      rw [e2 k (by omega)]
      refine ⟨fun c => ?_, fun i hi => ?_, ?_, ?_, ?_, ?_, ?_⟩
      · rw [old 16 k (by decide) (by decide) z]; exact u1 c
      · rw [o17, k2 _ (by omega)]; exact u2 i hi
      · rw [old 18 k (by decide) (by decide) z]; exact u3
      · rw [old 19 k (by decide) (by decide) z]; exact u4
      · rw [old 20 k (by decide) (by decide) z]; exact u5
      · rw [old 21 k (by decide) (by decide) z]; exact u6
      · rw [old 22 k (by decide) (by decide) z]; exact u7
  · rw [e1] at hk
    have oe : opn w' k = opn w k := by unfold opn; rw [e5]
    rw [e4, e5, oe]
    by_cases z : k = wk_s w
    · subst z
      rw [g12, if_neg (by omega), if_pos ⟨rfl, rfl⟩, if_neg (by omega)]
    · rw [old 23 k (by decide) (by decide) z]; exact hF k (by omega)
