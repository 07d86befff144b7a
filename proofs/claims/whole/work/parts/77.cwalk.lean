/-! THE WALK (the class): parts of it -/
def CWs (σ : St) (N : Ne) (w : Wk) : Prop := σ.1 6 5 = nI (wk_s w) ∧ ∀ k, k < wk_s w → PM N (σ.1 25 k) (sq_v (wk_i w k)) ∧ σ.2 26 k = lN (tN (sq_t (wk_i w k)) 16) ∧ σ.1 27 k = nI (sq_d (wk_i w k))
def CWb (σ : St) (w : Wk) : Prop := ∀ k, k < wk_s w → σ.1 29 (5 * k) = (if k = 0 then -2 else nI (sq_f (wk_i w k))) ∧ σ.1 29 (5 * k + 1) = nI (sq_c (wk_i w k)) ∧ σ.1 29 (5 * k + 2) = nI (sq_i (wk_i w k)) ∧ σ.1 29 (5 * k + 3) = nI (sq_o (wk_i w k))
def CWf (σ : St) (w : Wk) : Prop := ∀ k, k < wk_s w → σ.1 28 k = if k < wk_l w then nI (wk_c w k - opn w k) else -2
/-- where the search for a state begins -/
def hsh (b : Int32) (t : Int64) : Nat := ((t * (-7046029254386353131 : Int64) + b.toInt64) * (-2960836687051489901 : Int64)).toBitVec.toNat / 2 ^ 55
theorem hsh_lt (b : Int32) (t : Int64) : hsh b t < 512 := by
  unfold hsh
  have := ((t * (-7046029254386353131 : Int64) + b.toInt64) * (-2960836687051489901 : Int64)).toBitVec.isLt
  omega
def CWh (σ : St) (w : Wk) : Prop := (∀ j, j < 512 → σ.1 31 j = 0 ∨ ∃ k, k < wk_s w ∧ σ.1 31 j = nI (k + 1)) ∧ (∀ k, k < wk_s w → ∃ d, d < 512 ∧ σ.1 31 ((hsh (σ.1 25 k) (σ.2 26 k) + d) % 512) = nI (k + 1) ∧ ∀ e, e < d → σ.1 31 ((hsh (σ.1 25 k) (σ.2 26 k) + e) % 512) ≠ 0) ∧ fb_ct (fun j => decide (σ.1 31 j ≠ 0)) 512 = wk_s w
def cod (x : Nat × Nat × Nat) : Nat := 16 * x.2.1 + x.2.2
def CWm (σ : St) (w : Wk) : Prop := ∀ m, m < 20000 → ∀ b, b < 12 → lb (σ.2 33 (m / 5)) (12 * (m % 5) + b) = if m < wk_m w then (cod (wk_w w m)).testBit b else false
def CWl (σ : St) (w : Wk) : Prop := ∀ k, k < wk_l w → σ.1 34 k = nI (wk_c w k)
def CVn (σ : St) (nv : Nat → NV) : Prop := ∀ p, p < 8 → ((nv p).1 = false → σ.1 30 (5 * p + 4) = -2) ∧ ((nv p).1 = true → σ.1 30 (5 * p) = (nv p).2.1 ∧ σ.1 30 (5 * p + 1) = nI (nv p).2.2.1 ∧ σ.1 30 (5 * p + 2) = nI (nv p).2.2.2.1 ∧ σ.1 30 (5 * p + 3) = nI (nv p).2.2.2.2.1 ∧ σ.1 30 (5 * p + 4) = nI (nv p).2.2.2.2.2)
def CWc (σ : St) (w : Wk) : Prop := σ.1 6 6 = nI (wk_l w) ∧ σ.1 6 7 = nI (wk_m w) ∧ σ.1 6 8 = bI (wk_x w)
def CW (σ : St) (N : Ne) (w : Wk) : Prop := CWc σ w ∧ CWs σ N w ∧ CWb σ w ∧ CWf σ w ∧ CWh σ w ∧ CWm σ w ∧ CWl σ w ∧ CVn σ (wk_n w)
theorem CWs_ag {σ σ' : St} {N : Ne} {w : Wk} (h : ag [25, 26, 27] [(6, 5)] σ σ') (hW : CWs σ N w) : CWs σ' N w := by
  refine ⟨by rw [(h 6 5 (by simp)).1]; exact hW.1, fun k hk => ?_⟩
  rw [(h 25 k (by simp)).1, (h 26 k (by simp)).2, (h 27 k (by simp)).1]
  exact hW.2 k hk
theorem CWb_ag {σ σ' : St} {w : Wk} (h : ag [29] [] σ σ') (hW : CWb σ w) : CWb σ' w := fun k hk => by
  have e := fun j => (h 29 j (by simp)).1
  rw [e, e, e, e]; exact hW k hk
theorem CWf_ag {σ σ' : St} {w : Wk} (h : ag [28] [] σ σ') (hW : CWf σ w) : CWf σ' w := fun k hk => by rw [(h 28 k (by simp)).1]; exact hW k hk
theorem CWh_ag {σ σ' : St} {w : Wk} (h : ag [25, 26, 31] [] σ σ') (hW : CWh σ w) : CWh σ' w := by
  have e1 := fun j => (h 31 j (by simp)).1
  have e2 := fun j => (h 25 j (by simp)).1
  have e3 := fun j => (h 26 j (by simp)).2
  have e4 : (fun j => decide (σ'.1 31 j ≠ 0)) = (fun j => decide (σ.1 31 j ≠ 0)) := by funext j; rw [e1]
  refine ⟨fun j hj => ?_, fun k hk => ?_, ?_⟩
  · rw [e1]; exact hW.1 j hj
  · obtain ⟨d, hd, h1, h2⟩ := hW.2.1 k hk
    refine ⟨d, hd, ?_, fun e he => ?_⟩
    · rw [e1, e2, e3]; exact h1
    · rw [e1, e2, e3]; exact h2 e he
  · rw [e4]; exact hW.2.2
theorem CWm_ag {σ σ' : St} {w : Wk} (h : ag [33] [] σ σ') (hW : CWm σ w) : CWm σ' w := fun m hm b hb => by rw [(h 33 _ (by simp)).2]; exact hW m hm b hb
theorem CWl_ag {σ σ' : St} {w : Wk} (h : ag [34] [] σ σ') (hW : CWl σ w) : CWl σ' w := fun k hk => by rw [(h 34 k (by simp)).1]; exact hW k hk
theorem CVn_ag {σ σ' : St} {nv : Nat → NV} (h : ag [30] [] σ σ') (hW : CVn σ nv) : CVn σ' nv := fun k hk => by
  have e := fun j => (h 30 j (by simp)).1
  rw [e, e, e, e, e]; exact hW k hk
theorem CWc_ag {σ σ' : St} {w : Wk} (h : ag [] [(6, 6), (6, 7), (6, 8)] σ σ') (hW : CWc σ w) : CWc σ' w := by
  unfold CWc
  rw [(h 6 6 (by simp)).1, (h 6 7 (by simp)).1, (h 6 8 (by simp)).1]
  exact hW
theorem CW_ag {σ σ' : St} {N : Ne} {w : Wk} (h : ag [25, 26, 27, 28, 29, 30, 31, 33, 34] [(6, 5), (6, 6), (6, 7), (6, 8)] σ σ') (hW : CW σ N w) : CW σ' N w := by
  have s : ∀ {S1 : List Nat} {F1 : List (Nat × Nat)}, (∀ k, k ∈ S1 → k ∈ [25, 26, 27, 28, 29, 30, 31, 33, 34]) → (∀ k, k ∈ F1 → k ∈ [(6, 5), (6, 6), (6, 7), (6, 8)]) → ag S1 F1 σ σ' := fun h1 h2 k j q => h k j (q.imp (h1 k) (h2 (k, j)))
  exact ⟨CWc_ag (s (by decide) (by decide)) hW.1, CWs_ag (s (by decide) (by decide)) hW.2.1, CWb_ag (s (by decide) (by decide)) hW.2.2.1, CWf_ag (s (by decide) (by decide)) hW.2.2.2.1, CWh_ag (s (by decide) (by decide)) hW.2.2.2.2.1, CWm_ag (s (by decide) (by decide)) hW.2.2.2.2.2.1, CWl_ag (s (by decide) (by decide)) hW.2.2.2.2.2.2.1, CVn_ag (s (by decide) (by decide)) hW.2.2.2.2.2.2.2⟩
theorem sok_dig {N : Ne} {bd : Nat → Nat} {s : SI} (hWB : WB bd) (h : sok N bd s) : dig (sq_t s) := ⟨fun k hk => by have := sok_lt hWB.1 h hk; omega, h.2.1 15 (by decide) (hWB.2 3 (by decide))⟩
/-- a state is the same: its numbers are -/
theorem sm_num {N : Ne} {s n : SI} {m a : Int32} {t b : Int64} (hm : PM N m (sq_v s)) (ha : PM N a (sq_v n)) (ht : t = lN (tN (sq_t s) 16)) (hb : b = lN (tN (sq_t n) 16)) (ds : dig (sq_t s)) (dn : dig (sq_t n)) : smS N s (sq_v n) (sq_t n) = true ↔ m = a ∧ t = b := by
  rw [smS_iff]
  constructor
  · rintro ⟨h1, h2⟩
    refine ⟨PM_one hm ha h1, ?_⟩
    rw [ht, hb, tN_cong h2]
  · rintro ⟨h1, h2⟩
    refine ⟨fun c hc g => ?_, ?_⟩
    · rw [← hm.1 c hc g, ← ha.1 c hc g, h1]
    · rw [ht, hb] at h2
      exact dig_inj ds dn h2
theorem sm_one {N : Ne} {s s' n : SI} (h1 : smS N s (sq_v n) (sq_t n) = true) (h2 : smS N s' (sq_v n) (sq_t n) = true) : smS N s (sq_v s') (sq_t s') = true := by
  rw [smS_iff] at h1 h2 ⊢
  exact ⟨fun c hc g => (h1.1 c hc g).trans (h2.1 c hc g).symm, fun i hi => (h1.2 i hi).trans (h2.2 i hi).symm⟩
theorem whr_one {N : Ne} {bd : Nat → Nat} {fs : Nat → Bool} {w : Wk} {n : SI} {k : Nat} (h : WW N bd fs w) (hk : k < wk_s w) (hs : smS N (wk_i w k) (sq_v n) (sq_t n) = true) : whr N w n = k := by
  refine first_some hk hs (fun j hj => ?_)
  refine Bool.eq_false_iff.mpr (fun z => ?_)
  have := h.2.2.2.2.1 j k hj hk
  rw [sm_one z hs] at this; cases this
theorem nI_z {a : Nat} (ha : a < 2 ^ 31) : nI a = 0 ↔ a = 0 := nI_eq ha (by decide)
theorem c_slotOf {σ : St} {N : Ne} {bd : Nat → Nat} {fs : Nat → Bool} {w : Wk} {n : SI} {a : Int32} {b : Int64} {post : Int32 → Prop} (hWB : WB bd) (hWW : WW N bd fs w) (hS : CWs σ N w) (hH : CWh σ w) (ha : PM N a (sq_v n)) (hb : b = lN (tN (sq_t n) 16)) (hn : dig (sq_t n))
    (h1 : whr N w n < wk_s w → ∀ t, t < 512 → σ.1 31 t = nI (whr N w n + 1) → post (nI t))
    (h2 : whr N w n = wk_s w → ∀ d, d < 512 → σ.1 31 ((hsh a b + d) % 512) = 0 → (∀ e, e < d → σ.1 31 ((hsh a b + e) % 512) ≠ 0) → post (nI ((hsh a b + d) % 512))) : w_X9_slotOf σ a b post := by
  have h250 := hWW.1.2.1
  have hl := hsh_lt a b
  unfold w_X9_slotOf
  refine nm_of (nm_as (nI (hsh a b)) ?_ (jn_at ?_))
  · generalize hx : (b * (-7046029254386353131 : Int64) + a.toInt64) * (-2960836687051489901 : Int64) = x
    have e : hsh a b = x.toBitVec.toNat / 2 ^ 55 := by unfold hsh; rw [hx]
    have e2 : x = lN x.toBitVec.toNat := wb_inj (by rw [wb_tb]; simp)
    have e3 := wb_shr (n := x.toBitVec.toNat) (k := 55) x.toBitVec.isLt (by decide)
    rw [← e2] at e3
    rw [e, ← lN_i, ← e3]
    rfl
  have same : ∀ k, k < wk_s w → (smS N (wk_i w k) (sq_v n) (sq_t n) = true ↔ σ.1 25 k = a ∧ σ.2 26 k = b) := fun k hk => by
    obtain ⟨p1, p2, -⟩ := hS.2 k hk
    exact sm_num p1 ha p2 hb (sok_dig hWB (hWW.2.1 k hk).1) hn
  refine lpE2_inv (I := fun y5 y6 => ∃ i, i ≤ 512 ∧ y6 = nI i ∧ y5 = nI ((hsh a b + i) % 512) ∧ (∀ e, e < i → σ.1 31 ((hsh a b + e) % 512) ≠ 0) ∧ ∀ e, e < i → ∀ k, k < wk_s w → σ.1 31 ((hsh a b + e) % 512) = nI (k + 1) → smS N (wk_i w k) (sq_v n) (sq_t n) = false) (μ := fun _ y6 => 512 - y6.toNatClampNeg) ?_ _ 0 ⟨0, by omega, rfl, by rw [Nat.add_zero, Nat.mod_eq_of_lt hl], fun e he => absurd he (Nat.not_lt_zero e), fun e he => absurd he (Nat.not_lt_zero e)⟩
  rintro rec y5 y6 ⟨i, hi, rfl, rfl, hnz, hno⟩ hrec
  unfold w_X9_slotOf_L25
  refine br_le 512 i rfl rfl (by omega) (by omega) (fun q => ?_) (fun q => ?_)
  · exfalso
    have all : fb_ct (fun j => decide (σ.1 31 j ≠ 0)) 512 = 512 := fb_ct_all.mpr (fun j hj => by
      have e1 := hnz ((j + 512 - hsh a b) % 512) (by have := Nat.mod_lt (j + 512 - hsh a b) (show 0 < 512 by decide); omega)
      rw [show (hsh a b + (j + 512 - hsh a b) % 512) % 512 = j by omega] at e1
      exact decide_eq_true e1)
    rw [hH.2.2] at all
    omega
  have sl : (hsh a b + i) % 512 < 512 := Nat.mod_lt _ (by decide)
  refine rd_of ((hsh a b + i) % 512) rfl sl (by decide) ?_
  rcases hH.1 _ sl with z | ⟨k, hk, z⟩
  · rw [z]
    refine nm_of (br_1 (by decide) (h2 ?_ i q z hnz))
    refine first_none (fun k hk => Bool.eq_false_iff.mpr (fun y => ?_))
    obtain ⟨e25, e26⟩ := (same k hk).mp y
    obtain ⟨d, hd, d1, d2⟩ := hH.2.1 k hk
    rw [e25, e26] at d1 d2
    rcases Nat.lt_trichotomy i d with u | u | u
    · exact d2 i u z
    · rw [← u, z] at d1
      exact absurd ((nI_z (by omega)).mp d1.symm) (by omega)
    · rw [hno d u k hk d1] at y; cases y
  · rw [z]
    refine nm_as (nI k) (nI_pred k) (br_0 (nI_pos (by omega)) (rd_of k rfl (by omega) (by decide) ?_))
    refine jn_0 (smS N (wk_i w k) (sq_v n) (sq_t n) = false) (fun J hJ => ?_) (fun hf => ?_)
    · refine br_2 (fun e1 => rd_of k rfl (by omega) (by decide) ?_) (fun e1 => hJ (Bool.eq_false_iff.mpr (fun y => e1 ((same k hk).mp y).1)))
      refine br_2 (fun e2 => ?_) (fun e2 => hJ (Bool.eq_false_iff.mpr (fun y => e2 ((lg_cmp_eq _ _).mpr ((same k hk).mp y).2))))
      have sm := (same k hk).mpr ⟨e1, (lg_cmp_eq _ _).mp e2⟩
      have e := whr_one hWW hk sm
      exact h1 (by omega) _ sl (by rw [e]; exact z)
    · refine nm_as (nI ((hsh a b + (i + 1)) % 512)) ?_ (nm_of (hrec _ _ ⟨i + 1, q, nI_1 i, rfl, fun e he => ?_, fun e he j hj y => ?_⟩ (by rw [nI_1, cl_nI (by omega), cl_nI (by omega)]; omega)))
      · rw [nI_1, pk_andN (by omega) 9 (by decide)]
        congr 1
        omega
      · rcases (show e < i ∨ e = i by omega) with u | u
        · exact hnz e u
        · rw [u, z]; exact fun v => absurd ((nI_z (by omega)).mp v) (by omega)
      · rcases (show e < i ∨ e = i by omega) with u | u
        · exact hno e u j hj y
        · rw [u, z] at y
          have := (nI_eq (by omega) (by omega)).mp y
          rw [show j = k by omega]; exact hf
theorem ct_add {p q : Nat → Bool} {i n c : Nat} (hi : i < n) (hp : p i = false) (hq : ∀ j, q j = if j = i then true else p j) (h : fb_ct p n = c) : fb_ct q n = c + 1 := by
  have e : q = fun j => if j = i then true else p j := funext hq
  have cu := fb_ct_upd p true hi
  rw [← e, hp, h] at cu
  exact cu
theorem c_addState {σ : St} {N : Ne} {w w' : Wk} {a1 a2 a4 : Int32} {a3 : Int64} {n : SI} {d : Nat} {post : St → Prop} (hS : CWs σ N w) (hF : CWf σ w) (hH : CWh σ w) (hs : wk_s w < 250) (hl : wk_l w ≤ wk_s w) (hd : d < 512) (h1 : a1 = nI ((hsh a2 a3 + d) % 512)) (hz : σ.1 31 ((hsh a2 a3 + d) % 512) = 0) (hnz : ∀ e, e < d → σ.1 31 ((hsh a2 a3 + e) % 512) ≠ 0) (h2 : PM N a2 (sq_v n)) (h3 : a3 = lN (tN (sq_t n) 16)) (h4 : a4 = nI (sq_d n)) (e1 : wk_s w' = wk_s w + 1) (e2 : ∀ j, j < wk_s w → wk_i w' j = wk_i w j) (e3 : wk_i w' (wk_s w) = n) (e4 : wk_l w' = wk_l w) (e5 : wk_c w' = wk_c w)
    (h : ∀ σ', fr [25, 26, 27, 28, 31] [(6, 5)] σ σ' → CWs σ' N w' → CWf σ' w' → CWh σ' w' → σ'.1 31 ((hsh a2 a3 + d) % 512) = nI (wk_s w + 1) → post σ') : w_X9_addState σ a1 a2 a3 a4 post := by
  have sl : (hsh a2 a3 + d) % 512 < 512 := Nat.mod_lt _ (by decide)
  unfold w_X9_addState
  refine wr_at (wk_s w) hS.1 hs (by decide) (fun σ1 t1 => ?_)
  have q1 : σ1.1 6 5 = nI (wk_s w) := by rw [t1, upI_get, if_neg (by omega)]; exact hS.1
  refine wrL_at (wk_s w) q1 hs (by decide) (fun σ2 t2 => ?_)
  have q2 : σ2.1 6 5 = nI (wk_s w) := by rw [t2, upJ_fst]; exact q1
  refine wr_at (wk_s w) q2 hs (by decide) (fun σ3 t3 => ?_)
  have q3 : σ3.1 6 5 = nI (wk_s w) := by rw [t3, upI_get, if_neg (by omega)]; exact q2
  refine wr_at (wk_s w) q3 hs (by decide) (fun σ4 t4 => nm_of ?_)
  have q4 : σ4.1 6 5 = nI (wk_s w) := by rw [t4, upI_get, if_neg (by omega)]; exact q3
  rw [q4, nI_1]
  have q5 : (upI σ4 6 5 (nI (wk_s w + 1))).1 6 5 = nI (wk_s w + 1) := by rw [upI_get, if_pos ⟨rfl, rfl⟩]
  rw [q5]
  refine wr_at _ h1 sl (by decide) (fun σ6 t6 => ?_)
  have g : ∀ K j, σ6.1 K j = if K = 31 ∧ j = (hsh a2 a3 + d) % 512 then nI (wk_s w + 1) else if K = 6 ∧ j = 5 then nI (wk_s w + 1) else if K = 28 ∧ j = wk_s w then -2 else if K = 27 ∧ j = wk_s w then a4 else if K = 25 ∧ j = wk_s w then a2 else σ.1 K j := fun K j => by rw [t6, upI_get, upI_get, t4, upI_get, t3, upI_get, t2, upJ_fst, t1, upI_get]
  have gL : ∀ j, σ6.2 26 j = if j = wk_s w then a3 else σ.2 26 j := fun j => by
    rw [t6, upI_snd, upI_snd, t4, upI_snd, t3, upI_snd, t2, upJ_get, t1, upI_snd]
    by_cases z : j = wk_s w
    · rw [if_pos ⟨rfl, z⟩, if_pos z]
    · rw [if_neg (fun y => z y.2), if_neg z]
  have f : fr [25, 26, 27, 28, 31] [(6, 5)] σ σ6 := by
    rw [t6, t4, t3, t2, t1]
    exact fr_stepI (fr_stepI (fr_stepI (fr_stepI (fr_stepJ (fr_I σ _ _ _ (by simp)) _ _ _ (by simp)) _ _ _ (by simp)) _ _ _ (by simp)) _ _ _ (by simp)) _ _ _ (by simp)
  clear t1 t2 t3 t4 t6 q1 q2 q3 q4 q5
  have o25 : ∀ j, j ≠ wk_s w → σ6.1 25 j = σ.1 25 j := fun j hj => by rw [g, if_neg (by omega), if_neg (by omega), if_neg (by omega), if_neg (by omega), if_neg (by omega)]
  have n25 : σ6.1 25 (wk_s w) = a2 := by rw [g, if_neg (by omega), if_neg (by omega), if_neg (by omega), if_neg (by omega), if_pos ⟨rfl, rfl⟩]
  have o31 : ∀ j, j ≠ (hsh a2 a3 + d) % 512 → σ6.1 31 j = σ.1 31 j := fun j hj => by rw [g, if_neg (by omega), if_neg (by omega), if_neg (by omega), if_neg (by omega), if_neg (by omega)]
  have n31 : σ6.1 31 ((hsh a2 a3 + d) % 512) = nI (wk_s w + 1) := by rw [g, if_pos ⟨rfl, rfl⟩]
  have keep : ∀ j, σ.1 31 j ≠ 0 → σ6.1 31 j = σ.1 31 j := fun j hj => o31 j (fun e => hj (by rw [e]; exact hz))
  refine h σ6 f ⟨?_, fun k hk => ?_⟩ (fun k hk => ?_) ⟨fun j hj => ?_, fun k hk => ?_, ?_⟩ n31
  · rw [g, if_neg (by omega), if_pos ⟨rfl, rfl⟩, e1]
  · rw [e1] at hk
    by_cases z : k = wk_s w
    · rw [z, e3, n25, gL, if_pos rfl, g, if_neg (by omega), if_neg (by omega), if_neg (by omega), if_pos ⟨rfl, rfl⟩]
      exact ⟨h2, h3, h4⟩
    · rw [e2 k (by omega), o25 k z, gL, if_neg z, g, if_neg (by omega), if_neg (by omega), if_neg (by omega), if_neg (by omega), if_neg (by omega)]
      exact hS.2 k (by omega)
  · rw [e1] at hk
    have oe : opn w' k = opn w k := by unfold opn; rw [e5]
    rw [e4, e5, oe]
    by_cases z : k = wk_s w
    · rw [z, g, if_neg (by omega), if_neg (by omega), if_pos ⟨rfl, rfl⟩, if_neg (by omega)]
    · rw [g, if_neg (by omega), if_neg (by omega), if_neg (by omega), if_neg (by omega), if_neg (by omega)]
      exact hF k (by omega)
  · rw [e1]
    by_cases z : j = (hsh a2 a3 + d) % 512
    · exact Or.inr ⟨wk_s w, by omega, by rw [z, n31]⟩
    · rw [o31 j z]
      exact (hH.1 j hj).imp id (fun ⟨k, hk, e⟩ => ⟨k, by omega, e⟩)
  · rw [e1] at hk
    by_cases z : k = wk_s w
    · rw [z, n25, gL, if_pos rfl]
      exact ⟨d, hd, n31, fun e he => by rw [keep _ (hnz e he)]; exact hnz e he⟩
    · obtain ⟨c, hc, c1, c2⟩ := hH.2.1 k (by omega)
      rw [o25 k z, gL, if_neg z]
      refine ⟨c, hc, ?_, fun e he => ?_⟩
      · rw [keep _ (by rw [c1]; exact fun v => absurd ((nI_z (by omega)).mp v) (by omega))]; exact c1
      · rw [keep _ (c2 e he)]; exact c2 e he
  · rw [e1]
    refine ct_add sl ?_ (fun j => ?_) hH.2.2
    · rw [hz]; exact decide_eq_false (fun n => n rfl)
    · by_cases z : j = (hsh a2 a3 + d) % 512
      · rw [if_pos z, z, n31]
        exact decide_eq_true (fun v => absurd ((nI_z (by omega)).mp v) (by omega))
      · rw [if_neg z, o31 j z]
theorem c_tell29 {σ : St} {a2 a3 a4 a5 a6 a7 : Int32} {t : Nat} {post : St → Prop} (h2 : a2 = nI t) (ht : t < 250) (h : ∀ σ', fr [29] [] σ σ' → (∀ j, (j < 5 * t ∨ 5 * t + 4 < j) → σ'.1 29 j = σ.1 29 j) → σ'.1 29 (5 * t) = a3 ∧ σ'.1 29 (5 * t + 1) = a4 ∧ σ'.1 29 (5 * t + 2) = a5 ∧ σ'.1 29 (5 * t + 3) = a6 ∧ σ'.1 29 (5 * t + 4) = a7 → post σ') : w_X9_tell_29 σ a2 a3 a4 a5 a6 a7 post := by
  unfold w_X9_tell_29
  refine nm_as (nI (5 * t)) (by rw [h2, show (5 : Int32) = nI 5 from rfl, pk_mul, Nat.mul_comm]) ?_
  refine wr_at (5 * t) rfl (by omega) (by decide) (fun σ2 t2 => ?_)
  refine wr_at (5 * t + 1) (nI_add _ 1) (by omega) (by decide) (fun σ3 t3 => ?_)
  refine wr_at (5 * t + 2) (nI_add _ 2) (by omega) (by decide) (fun σ4 t4 => ?_)
  refine wr_at (5 * t + 3) (nI_add _ 3) (by omega) (by decide) (fun σ5 t5 => ?_)
  refine wr_at (5 * t + 4) (nI_add _ 4) (by omega) (by decide) (fun σ6 t6 => ?_)
  have g : ∀ j, σ6.1 29 j = if j = 5 * t + 4 then a7 else if j = 5 * t + 3 then a6 else if j = 5 * t + 2 then a5 else if j = 5 * t + 1 then a4 else if j = 5 * t then a3 else σ.1 29 j := fun j => by
    rw [t6, upI_get, t5, upI_get, t4, upI_get, t3, upI_get, t2, upI_get]
    simp
  refine h σ6 ?_ (fun j hj => ?_) ⟨?_, ?_, ?_, ?_, ?_⟩
  · rw [t6, t5, t4, t3, t2]
    exact fr_stepI (fr_stepI (fr_stepI (fr_stepI (fr_I σ _ _ _ (by simp)) _ _ _ (by simp)) _ _ _ (by simp)) _ _ _ (by simp)) _ _ _ (by simp)
  · rw [g, if_neg (by omega), if_neg (by omega), if_neg (by omega), if_neg (by omega), if_neg (by omega)]
  all_goals rw [g]; simp
theorem c_tell30 {σ : St} {a2 a3 a4 a5 a6 a7 : Int32} {t : Nat} {post : St → Prop} (h2 : a2 = nI t) (ht : t < 8) (h : ∀ σ', fr [30] [] σ σ' → (∀ j, (j < 5 * t ∨ 5 * t + 4 < j) → σ'.1 30 j = σ.1 30 j) → σ'.1 30 (5 * t) = a3 ∧ σ'.1 30 (5 * t + 1) = a4 ∧ σ'.1 30 (5 * t + 2) = a5 ∧ σ'.1 30 (5 * t + 3) = a6 ∧ σ'.1 30 (5 * t + 4) = a7 → post σ') : w_X9_tell_30 σ a2 a3 a4 a5 a6 a7 post := by
  unfold w_X9_tell_30
  refine nm_as (nI (5 * t)) (by rw [h2, show (5 : Int32) = nI 5 from rfl, pk_mul, Nat.mul_comm]) ?_
  refine wr_at (5 * t) rfl (by omega) (by decide) (fun σ2 t2 => ?_)
  refine wr_at (5 * t + 1) (nI_add _ 1) (by omega) (by decide) (fun σ3 t3 => ?_)
  refine wr_at (5 * t + 2) (nI_add _ 2) (by omega) (by decide) (fun σ4 t4 => ?_)
  refine wr_at (5 * t + 3) (nI_add _ 3) (by omega) (by decide) (fun σ5 t5 => ?_)
  refine wr_at (5 * t + 4) (nI_add _ 4) (by omega) (by decide) (fun σ6 t6 => ?_)
  have g : ∀ j, σ6.1 30 j = if j = 5 * t + 4 then a7 else if j = 5 * t + 3 then a6 else if j = 5 * t + 2 then a5 else if j = 5 * t + 1 then a4 else if j = 5 * t then a3 else σ.1 30 j := fun j => by
    rw [t6, upI_get, t5, upI_get, t4, upI_get, t3, upI_get, t2, upI_get]
    simp
  refine h σ6 ?_ (fun j hj => ?_) ⟨?_, ?_, ?_, ?_, ?_⟩
  · rw [t6, t5, t4, t3, t2]
    exact fr_stepI (fr_stepI (fr_stepI (fr_stepI (fr_I σ _ _ _ (by simp)) _ _ _ (by simp)) _ _ _ (by simp)) _ _ _ (by simp)) _ _ _ (by simp)
  · rw [g, if_neg (by omega), if_neg (by omega), if_neg (by omega), if_neg (by omega), if_neg (by omega)]
  all_goals rw [g]; simp
theorem c_breaks {σ : St} {nv : Nat → NV} {a : Int32} {p : Nat} {post : Int32 → Prop} (hV : CVn σ nv) (hto : ∀ p, (nv p).1 = true → (nv p).2.2.2.2.2 < 2 ^ 31) (ha : a = nI p) (hp : p < 8) (h : post (bI (nv p).1)) : w_X9_breaks σ a post := by
  unfold w_X9_breaks
  refine rd_of (5 * p + 4) ?_ (by omega) (by decide) ?_
  · rw [ha, show (5 : Int32) = nI 5 from rfl, pk_mul, nI_add, show (1 : Int32) = nI 1 from rfl, pk_sub (by omega)]
    congr 1
    omega
  cases t : (nv p).1 with
  | false =>
    rw [t] at h
    exact br_1 ((hV p hp).1 t) h
  | true =>
    rw [t] at h
    refine br_0 (fun e => ?_) h
    rw [((hV p hp).2 t).2.2.2.2] at e
    exact nI_ne2 (hto p t) e
theorem c_judge {σ : St} {N : Ne} {P : Pr} {nv : Nat → NV} {vb vn : Nat → Bool} {first : Bool} {f a1 a2 a3 a4 a5 : Int32} {set inp ots to : Nat} {post : St → Prop} (hN : CN σ N) (hW : WN N) (hP : CP σ N P) (hWP : WP N P) (hV : CVn σ nv) (hto : ∀ p, (nv p).1 = true → (nv p).2.2.2.2.2 < 2 ^ 31) (ht : to < 250) (h1 : (∃ k, k < 250 ∧ a1 = nI k ∧ first = false ∧ f = a1 ∧ PM N (σ.1 25 k) vb) ∨ (a1 = -2 ∧ first = true ∧ f = -2 ∧ vb = vn)) (h2 : a2 = nI set) (h3 : a3 = nI inp) (h4 : a4 = nI ots) (h5 : a5 = nI to) (hn : PM N (σ.1 25 to) vn)
    (h : ∀ σ', fr [30] [] σ σ' → CVn σ' (jdg N P nv vb vn first f set inp ots to) → post σ') : w_X9_judge σ a1 a2 a3 a4 a5 post := by
  have h8 := hWP.1
  unfold w_X9_judge
  refine jn_1 (fun y2 => PM N y2 vb) (fun J hJ => ?_) ?_
  · rcases h1 with ⟨k, hk, e, -, -, p⟩ | ⟨e, -, -, e2⟩
    · exact br_1 (by rw [e]; exact nI_pos' (by omega)) (rd_of k e hk (by decide) (hJ _ p))
    · exact br_0 (by rw [e]; decide) (rd_of to h5 ht (by decide) (hJ _ (by rw [e2]; exact hn)))
  intro y2 hy2
  have hff : f = a1 := by rcases h1 with ⟨k, hk, e, -, e2, -⟩ | ⟨e, -, e2, -⟩; exact e2; rw [e, e2]
  have hfv : first = true → ∀ d, d < nn N → 4 < nk N d → vb d = vn d := by
    intro z d _ _
    rcases h1 with ⟨k, hk, e, e2, -⟩ | ⟨-, -, -, e2⟩
    · rw [e2] at z; cases z
    · rw [e2]
  have htoJ : ∀ p q, (jdT N P nv vb vn first f set inp ots to p q).1 = true → (jdT N P nv vb vn first f set inp ots to p q).2.2.2.2.2 < 2 ^ 31 := by
    intro p q
    unfold jdT jdg
    split
    · split
      · intro _; show to < 2 ^ 31; omega
      · exact hto q
    · exact hto q
  refine jn_at ?_
  refine lpE2_inv (I := fun y5 σ6 => ∃ p, p ≤ P.1 ∧ y5 = nI p ∧ fr [30] [] σ σ6 ∧ CVn σ6 (jdT N P nv vb vn first f set inp ots to p)) (μ := fun y5 _ => P.1 - y5.toNatClampNeg) ?_ 0 σ ⟨0, by omega, rfl, fr_rf, fun p hp => by
    have e : jdT N P nv vb vn first f set inp ots to 0 p = nv p := if_neg (Nat.not_lt_zero p)
    rw [e]; exact hV p hp⟩
  rintro rec y5 σ4 ⟨p, hp, rfl, f4, v4⟩ hrec
  have hN4 := CN_ag (fr_ag f4 (by decide)) hN
  have hP4 := CP_ag (fr_ag f4 (by decide)) hP
  unfold w_X9_judge_L25
  refine br_le P.1 p hP4.1 rfl (by omega) (by omega) (fun q => h σ4 f4 (fun r hr => ?_)) (fun q => ?_)
  · rw [← jdT_e r, ← show p = P.1 by omega]; exact v4 r hr
  have dec : P.1 - (nI p + 1).toNatClampNeg < P.1 - (nI p).toNatClampNeg := by rw [nI_1, cl_nI (by omega), cl_nI (by omega)]; omega
  have e0 : jdT N P nv vb vn first f set inp ots to p p = nv p := if_neg (by omega)
  have e1 : jdT N P nv vb vn first f set inp ots to (p + 1) p = jdg N P nv vb vn first f set inp ots to p := if_pos (by omega)
  have same : jdg N P nv vb vn first f set inp ots to p = nv p → rec (nI p + 1) σ4 := fun e => hrec _ _ ⟨p + 1, q, nI_1 p, f4, fun r hr => by
    by_cases z : r = p
    · have := v4 r hr
      rw [z, e0] at this
      rw [z, e1, e]; exact this
    · rw [jdT_s z]; exact v4 r hr⟩ dec
  refine c_breaks v4 (htoJ p) rfl (by omega) ?_
  rw [e0]
  cases tn : (nv p).1 with
  | true => exact br_0 (by decide) (nm_of (same (by unfold jdg; rw [if_neg (fun z => by rw [tn] at z; exact Bool.noConfusion z.2.1)])))
  | false =>
    refine br_1 rfl (rd_of to h5 ht (by decide) ?_)
    have a4' : ag [25] [] σ σ4 := fr_ag f4 (by decide)
    rw [(a4' 25 to (by simp)).1]
    refine c_holds (first := first) hN4 hW hP4 hWP rfl q hy2 hn hfv ?_
    cases tk : kep N (P.2.1 p) (P.2.2.1 p) (P.2.2.2 p) vb vn first with
    | true => exact br_0 (by decide) (nm_of (same (by unfold jdg; rw [if_neg (fun z => by rw [tk] at z; exact Bool.noConfusion z.2.2)])))
    | false =>
      have ej : jdg N P nv vb vn first f set inp ots to p = (true, f, set, inp, ots, to) := by unfold jdg; rw [if_pos ⟨q, tn, tk⟩]
      refine br_1 rfl (c_tell30 rfl (by omega) (fun σ19 f19 o19 n19 => nm_of (hrec _ _ ⟨p + 1, q, nI_1 p, fr_tr f4 f19, fun r hr => ?_⟩ dec)))
      by_cases z : r = p
      · rw [z, e1, ej]
        obtain ⟨n1, n2, n3, n4, n5⟩ := n19
        exact ⟨fun y => Bool.noConfusion y, fun _ => ⟨by rw [n1]; exact hff.symm, by rw [n2]; exact h2, by rw [n3]; exact h3, by rw [n4]; exact h4, by rw [n5]; exact h5⟩⟩
      · rw [jdT_s z, o19 _ (by omega), o19 _ (by omega), o19 _ (by omega), o19 _ (by omega), o19 _ (by omega)]
        exact v4 r hr
