/-! THE REFERENCE: calls that change the net -/
theorem fb_ct_fu (p : Nat → Bool) (b : Bool) (n : Nat) : fb_ct (fu p n b) n = fb_ct p n := fb_ct_cong (fun k hk => fu_n p b (by omega))
theorem isB_addB (N : Ne) (k c : Nat) : isB (addB N k c) = fu (isB N) (nn N) (decide (4 < k)) := by
  funext i
  by_cases h : i = nn N
  · subst h; rw [fu_s]; show decide (4 < fu (nk N) (nn N) k (nn N)) = _; rw [fu_s]
  · rw [fu_n _ _ h]; show decide (4 < fu (nk N) (nn N) k i) = _; rw [fu_n _ _ h]; rfl
theorem isB_addG (N : Ne) (k a b c : Nat) : isB (addG N k a b c) = fu (isB N) (nn N) (decide (4 < k)) := by
  funext i
  by_cases h : i = nn N
  · subst h; rw [fu_s]; show decide (4 < fu (nk N) (nn N) k (nn N)) = _; rw [fu_s]
  · rw [fu_n _ _ h]; show decide (4 < fu (nk N) (nn N) k i) = _; rw [fu_n _ _ h]; rfl
theorem nb_addB (N : Ne) {k : Nat} (c : Nat) (hk : 4 < k) : nb (addB N k c) = nb N + 1 := by
  unfold nb
  rw [isB_addB]
  show fb_ct _ (nn N + 1) = _
  rw [fb_ct_succ, fb_ct_fu, fu_s, decide_eq_true hk, if_pos rfl]
theorem nb_addG (N : Ne) {k : Nat} (a b c : Nat) (hk : k ≤ 4) : nb (addG N k a b c) = nb N := by
  unfold nb
  rw [isB_addG]
  show fb_ct _ (nn N + 1) = _
  rw [fb_ct_succ, fb_ct_fu, fu_s, decide_eq_false (by omega)]
  rfl
theorem rf_ext {N M : Ne} {c r : Nat} (hn : nn N ≤ nn M) (hk : ∀ i, i < nn N → nk M i = nk N i) (h : rf N c r) : rf M c r := ⟨by have := h.1; omega, fun g => h.2 (by rw [← hk r h.1]; exact g)⟩
theorem WN_addB {N : Ne} {k c : Nat} (hW : WN N) (hn : nn N < 24) (hb : nb N < 10) (hk : k = 5 ∨ k = 6) (hc : c < 4) : WN (addB N k c) := by
  have hB := nb_addB N c (show 4 < k by omega)
  obtain ⟨h1, h2, h3, h4, h5, h6, h7, h8⟩ := hW
  have e : ∀ i, i < nn N → nk (addB N k c) i = nk N i := fun i hi => fu_n _ _ (by omega)
  have en : nk (addB N k c) (nn N) = k := fu_s _ _ _
  have nn' : nn (addB N k c) = nn N + 1 := rfl
  refine ⟨by omega, fun i hi => ?_, fun i hi g => ?_, fun i hi g => ?_, fun i hi g => ?_, fun i hi g g3 => ?_, fun i hi g => ?_, by show nb (addB N k c) ≤ 10; omega⟩
  · by_cases q : i = nn N
    · subst q; omega
    · rw [e i (by omega)]; exact h2 i (by omega)
  · by_cases q : i = nn N
    · subst q; show fu (nc N) (nn N) c (nn N) < 4; rw [fu_s]; exact hc
    · rw [e i (by omega)] at g; show fu (nc N) (nn N) c i < 4; rw [fu_n _ _ q]; exact h3 i (by omega) g
  · by_cases q : i = nn N
    · subst q; show fu (nx N) (nn N) (nn N) (nn N) < _; rw [fu_s]; omega
    · rw [e i (by omega)] at g; show fu (nx N) (nn N) (nn N) i < _; rw [fu_n _ _ q]; have := h4 i (by omega) g; omega
  · by_cases q : i = nn N
    · subst q; omega
    · rw [e i (by omega)] at g; show rf _ i (fu (nx N) (nn N) (nn N) i); rw [fu_n _ _ q]; exact rf_ext (by omega) e (h5 i (by omega) g)
  · by_cases q : i = nn N
    · subst q; omega
    · rw [e i (by omega)] at g g3; exact rf_ext (by omega) e (h6 i (by omega) g g3)
  · by_cases q : i = nn N
    · subst q; omega
    · rw [e i (by omega)] at g; exact rf_ext (by omega) e (h7 i (by omega) g)
theorem WN_addG {N : Ne} {k a b c : Nat} (hW : WN N) (hn : nn N < 24) (hk : k ≤ 4) (ha : a < nn N) (hb : k ≠ 3 → b < nn N) (hc : k = 4 → c < nn N) : WN (addG N k a b c) := by
  have hB := nb_addG N a b c hk
  obtain ⟨h1, h2, h3, h4, h5, h6, h7, h8⟩ := hW
  have e : ∀ i, i < nn N → nk (addG N k a b c) i = nk N i := fun i hi => fu_n _ _ (by omega)
  have en : nk (addG N k a b c) (nn N) = k := fu_s _ _ _
  have nn' : nn (addG N k a b c) = nn N + 1 := rfl
  refine ⟨by omega, fun i hi => ?_, fun i hi g => ?_, fun i hi g => ?_, fun i hi g => ?_, fun i hi g g3 => ?_, fun i hi g => ?_, by show nb (addG N k a b c) ≤ 10; rw [hB]; exact h8⟩
  · by_cases q : i = nn N
    · subst q; omega
    · rw [e i (by omega)]; exact h2 i (by omega)
  · by_cases q : i = nn N
    · subst q; omega
    · rw [e i (by omega)] at g; exact h3 i (by omega) g
  · by_cases q : i = nn N
    · subst q; omega
    · rw [e i (by omega)] at g; show fu (nx N) (nn N) a i < _; rw [fu_n _ _ q]; have := h4 i (by omega) g; omega
  · by_cases q : i = nn N
    · subst q; show rf _ (nn N) (fu (nx N) (nn N) a (nn N)); rw [fu_s]; exact ⟨by omega, fun _ => ha⟩
    · rw [e i (by omega)] at g; show rf _ i (fu (nx N) (nn N) a i); rw [fu_n _ _ q]; exact rf_ext (by omega) e (h5 i (by omega) g)
  · by_cases q : i = nn N
    · subst q; show rf _ (nn N) (fu (ny N) (nn N) b (nn N)); rw [fu_s]; rw [en] at g3; exact ⟨by have := hb g3; omega, fun _ => hb g3⟩
    · rw [e i (by omega)] at g g3; show rf _ i (fu (ny N) (nn N) b i); rw [fu_n _ _ q]; exact rf_ext (by omega) e (h6 i (by omega) g g3)
  · by_cases q : i = nn N
    · subst q; show rf _ (nn N) (fu (nz N) (nn N) c (nn N)); rw [fu_s]; rw [en] at g; exact ⟨by have := hc g; omega, fun _ => hc g⟩
    · rw [e i (by omega)] at g; show rf _ i (fu (nz N) (nn N) c i); rw [fu_n _ _ q]; exact rf_ext (by omega) e (h7 i (by omega) g)
theorem fz_lt {N : Ne} {fs : Nat → Bool} {c : Nat} (h : fz N fs c = true) : c < nn N ∧ nk N c = 6 := by
  simp only [fz, Bool.and_eq_true, decide_eq_true_eq] at h
  exact h.1
set_option maxHeartbeats 1000000 in
theorem m_add' {σ : St} {N : Ne} {fs sl : Nat → Bool} {bd : Nat → Nat} {post : St → Prop} {k c : Nat} {f : Bool} (hN : NM σ N) (hW' : WN (addB N k c)) (hF : MF σ N fs) (hS : MS σ N sl) (hn : nn N < 24) (hk : k = 5 ∨ k = 6) (hc : c < 4)
    (h : ∀ σ', fr [1, 2, 3, 4, 5, 6, 7, 12, 14] [(0, 1), (0, 2), (0, 15), (0, 20), (0, 25), (0, 26), (0, 27), (0, 28), (0, 29), (0, 38)] σ σ' → NM σ' (addB N k c) → MF σ' (addB N k c) (fu fs (nn N) f) → MS σ' (addB N k c) (fu sl (nn N) false) → MR σ' (addB N k c) bd 0 (fun _ => fz (addB N k c) (fu fs (nn N) f)) (fun _ => 0) (fun _ => 0) (fun _ => false) → MU σ' → post σ') : w_X12_add σ (nI k) (nI c) (bI f) post := by
  obtain ⟨hn1, hb1, hk1, hc1, hx1, hy1, hz1⟩ := hN
  have h01 : ∀ {τ : St} {k0 j0 : Nat} {v0 : Int32}, k0 ≠ 0 → (upI τ k0 j0 v0).1 0 1 = τ.1 0 1 := fun {τ k0 j0 v0} h => by rw [upI_get, if_neg (fun q => h q.1.symm)]
  unfold w_X12_add
  have s0 : σ.1 0 1 = nI (nn N) := hn1
  refine ck_of (nn N) s0 (by omega) (by decide) (nm_of ?_)
  have s1 := (h01 (τ := σ) (k0 := 1) (j0 := (σ.1 0 1).toNatClampNeg) (v0 := nI k) (by decide)).trans s0
  refine ck_of (nn N) s1 (by omega) (by decide) (nm_of ?_)
  rw [s0, cl_nI (by omega)] at *
  generalize t1 : upI σ 1 (nn N) (nI k) = σ1 at *
  rw [s1, cl_nI (by omega)]
  generalize t2 : upI σ1 2 (nn N) (nI c) = σ2
  have s2 : σ2.1 0 1 = nI (nn N) := by rw [← t2]; exact (h01 (by decide)).trans s1
  refine ck_of (nn N) s2 (by omega) (by decide) (nm_of ?_)
  rw [s2, cl_nI (by omega)]
  generalize t3 : upI σ2 3 (nn N) (bI f) = σ3
  have s3 : σ3.1 0 1 = nI (nn N) := by rw [← t3]; exact (h01 (by decide)).trans s2
  refine ck_of (nn N) s3 (by omega) (by decide) (nm_of ?_)
  rw [s3, cl_nI (by omega)]
  generalize t4 : upI σ3 4 (nn N) (nI (nn N)) = σ4
  have s4 : σ4.1 0 1 = nI (nn N) := by rw [← t4]; exact (h01 (by decide)).trans s3
  refine ck_of (nn N) s4 (by omega) (by decide) (nm_of ?_)
  rw [s4, cl_nI (by omega)]
  generalize t5 : upI σ4 5 (nn N) (-2) = σ5
  have s5 : σ5.1 0 1 = nI (nn N) := by rw [← t5]; exact (h01 (by decide)).trans s4
  refine ck_of (nn N) s5 (by omega) (by decide) (nm_of ?_)
  rw [s5, cl_nI (by omega)]
  generalize t6 : upI σ5 6 (nn N) (-2) = σ6
  have s6 : σ6.1 0 1 = nI (nn N) := by rw [← t6]; exact (h01 (by decide)).trans s5
  refine ck_of (nn N) s6 (by omega) (by decide) (nm_of ?_)
  rw [s6, cl_nI (by omega)]
  generalize t7 : upI σ6 7 (nn N) (vp_nar .boolean 0) = σ7
  refine nm_of (nm_of ?_)
  have s7 : σ7.1 0 1 = nI (nn N) := by rw [← t7]; exact (h01 (by decide)).trans s6
  generalize t8 : upI (upI σ7 0 2 (σ7.1 0 2 + 1)) 0 1 ((upI σ7 0 2 (σ7.1 0 2 + 1)).1 0 1 + 1) = σ9
  have all : ∀ a b, σ9.1 a b = if a = 0 ∧ b = 1 then nI (nn N + 1) else if a = 0 ∧ b = 2 then nI (nb N + 1) else if a = 1 ∧ b = nn N then nI k else if a = 2 ∧ b = nn N then nI c else if a = 3 ∧ b = nn N then bI f else if a = 4 ∧ b = nn N then nI (nn N) else if a = 5 ∧ b = nn N then -2 else if a = 6 ∧ b = nn N then -2 else if a = 7 ∧ b = nn N then 0 else σ.1 a b := by
    intro a b
    have e2 : σ7.1 0 2 = nI (nb N) := by
      rw [← t7, ← t6, ← t5, ← t4, ← t3, ← t2, ← t1]
      simp only [upI_get]
      simp
      exact hb1
    rw [← t8, upI_get, upI_get, upI_get, e2]
    by_cases q1 : a = 0 ∧ b = 1
    · rw [if_pos q1, if_pos q1, if_neg (by omega), s7, nI_1]
    · rw [if_neg q1, if_neg q1]
      by_cases q2 : a = 0 ∧ b = 2
      · rw [if_pos q2, if_pos q2, nI_1]
      · rw [if_neg q2, if_neg q2, ← t7, ← t6, ← t5, ← t4, ← t3, ← t2, ← t1]
        simp only [upI_get]
        by_cases qb : b = nn N
        · by_cases a1 : a = 1
          · simp [qb, a1]
          by_cases a2 : a = 2
          · simp [qb, a2]
          by_cases a3 : a = 3
          · simp [qb, a3]
          by_cases a4 : a = 4
          · simp [qb, a4]
          by_cases a5 : a = 5
          · simp [qb, a5]
          by_cases a6 : a = 6
          · simp [qb, a6]
          by_cases a7 : a = 7
          · simp [qb, a7]; rfl
          simp [a1, a2, a3, a4, a5, a6, a7]
        · simp [qb]
  have f9 : fr [1, 2, 3, 4, 5, 6, 7, 12, 14] [(0, 1), (0, 2), (0, 15), (0, 20), (0, 25), (0, 26), (0, 27), (0, 28), (0, 29), (0, 38)] σ σ9 := by
    rw [← t8, ← t7, ← t6, ← t5, ← t4, ← t3, ← t2, ← t1]
    exact fr_stepI (fr_stepI (fr_stepI (fr_stepI (fr_stepI (fr_stepI (fr_stepI (fr_stepI (fr_I σ _ _ _ (by simp)) _ _ _ (by simp)) _ _ _ (by simp)) _ _ _ (by simp)) _ _ _ (by simp)) _ _ _ (by simp)) _ _ _ (by simp)) _ _ _ (by simp)) _ _ _ (by simp)
  have hk6 : k ≤ 6 := by omega
  have N9 : NM σ9 (addB N k c) := by
    refine ⟨?_, ?_, fun i hi => ?_, fun i hi => ?_, fun i hi => ?_, fun i hi => ?_, fun i hi => ?_⟩
    · rw [all, if_pos ⟨rfl, rfl⟩]; rfl
    · rw [all, if_neg (by omega), if_pos ⟨rfl, rfl⟩]; exact congrArg nI (nb_addB N c (by omega)).symm
    · have hi : i < nn N + 1 := hi
      rw [all]
      show _ = nI (fu (nk N) (nn N) k i)
      by_cases q : i = nn N
      · simp [q, fu_s]
      · rw [fu_n _ _ q]; simp [q]; exact hk1 i (by omega)
    · have hi : i < nn N + 1 := hi
      rw [all]
      show _ = if 4 < fu (nk N) (nn N) k i then nI (fu (nc N) (nn N) c i) else -2
      by_cases q : i = nn N
      · rw [q, fu_s, fu_s]; simp [show 4 < k by omega]
      · rw [fu_n _ _ q, fu_n _ _ q]; simp [q]; exact hc1 i (by omega)
    · have hi : i < nn N + 1 := hi
      rw [all]
      show _ = if fu (nk N) (nn N) k i = 5 then nI i else nI (fu (nx N) (nn N) (nn N) i)
      by_cases q : i = nn N
      · rw [q, fu_s, fu_s]; simp
      · rw [fu_n _ _ q, fu_n _ _ q]; simp [q]; exact hx1 i (by omega)
    · have hi : i < nn N + 1 := hi
      rw [all]
      show _ = if fu (nk N) (nn N) k i ≤ 4 ∧ fu (nk N) (nn N) k i ≠ 3 then nI (ny N i) else -2
      by_cases q : i = nn N
      · rw [q, fu_s]; simp [show ¬ k ≤ 4 by omega]
      · rw [fu_n _ _ q]; simp [q]; exact hy1 i (by omega)
    · have hi : i < nn N + 1 := hi
      rw [all]
      show _ = if fu (nk N) (nn N) k i = 4 then nI (nz N i) else -2
      by_cases q : i = nn N
      · rw [q, fu_s]; simp [show ¬ k = 4 by omega]
      · rw [fu_n _ _ q]; simp [q]; exact hz1 i (by omega)
  have F9 : MF σ9 (addB N k c) (fu fs (nn N) f) := by
    intro i hi g
    have hi : i < nn N + 1 := hi
    have g : 4 < fu (nk N) (nn N) k i := g
    rw [all]
    by_cases q : i = nn N
    · simp [q, fu_s]
    · rw [fu_n _ _ q]; rw [fu_n _ _ q] at g; simp [q]; exact hF i (by omega) g
  have S9 : MS σ9 (addB N k c) (fu sl (nn N) false) := by
    intro i hi
    have hi : i < nn N + 1 := hi
    rw [all]
    by_cases q : i = nn N
    · simp [q, fu_s]; rfl
    · rw [fu_n _ _ q]; simp [q]; exact hS i (by omega)
  refine m_changed (bd := bd) N9 hW' F9 (fun σ' f' r' u' => h σ' (fr_tr f9 (fr_mo f' (by decide))) (NM_ag (fr_ag f' (by decide)) N9) (MF_ag (fr_ag f' (by decide)) F9) (MS_ag (fr_ag f' (by decide)) S9) r' u')
theorem m_add {σ : St} {N : Ne} {fs sl : Nat → Bool} {bd : Nat → Nat} {post : St → Prop} {k c : Nat} {f : Bool} (hN : NM σ N) (hW : WN N) (hF : MF σ N fs) (hS : MS σ N sl) (hn : nn N < 24) (hb : nb N < 10) (hk : k = 5 ∨ k = 6) (hc : c < 4)
    (h : ∀ σ', fr [1, 2, 3, 4, 5, 6, 7, 12, 14] [(0, 1), (0, 2), (0, 15), (0, 20), (0, 25), (0, 26), (0, 27), (0, 28), (0, 29), (0, 38)] σ σ' → NM σ' (addB N k c) → MF σ' (addB N k c) (fu fs (nn N) f) → MS σ' (addB N k c) (fu sl (nn N) false) → MR σ' (addB N k c) bd 0 (fun _ => fz (addB N k c) (fu fs (nn N) f)) (fun _ => 0) (fun _ => 0) (fun _ => false) → MU σ' → post σ') : w_X12_add σ (nI k) (nI c) (bI f) post := m_add' hN (WN_addB hW hn hb hk hc) hF hS hn hk hc h
/-! the frames of a refused call, and of one that changes the net -/
abbrev fr0 (σ σ' : St) : Prop := fr [] [(0, 0)] σ σ'
abbrev frN (σ σ' : St) : Prop := fr [1, 2, 3, 4, 5, 6, 7, 12, 14] [(0, 0), (0, 1), (0, 2), (0, 15), (0, 20), (0, 25), (0, 26), (0, 27), (0, 28), (0, 29), (0, 38)] σ σ'
abbrev frN8 (σ σ' : St) : Prop := fr [1, 2, 3, 4, 5, 6, 7, 8, 12, 14] [(0, 0), (0, 1), (0, 2), (0, 15), (0, 20), (0, 25), (0, 26), (0, 27), (0, 28), (0, 29), (0, 38)] σ σ'
theorem fr0_up (σ : St) : fr0 σ (upI σ 0 0 0) := fr_I σ 0 0 0 (by simp)
theorem w_isIn_i {a lo hi : Int32} {post : Int32 → Prop} (h1 : ¬ (lo ≤ a ∧ a ≤ hi) → post 0) (h2 : lo ≤ a ∧ a ≤ hi → post 1) : w_X12_isIn a.toInt64 lo.toInt64 hi.toInt64 post := by
  refine w_isIn_of (fun g => h1 (fun q => ?_)) (fun g => h1 (fun q => ?_)) (fun g1 g2 => h2 ?_)
  · rw [fa_wide_lt] at g
    exact (fa_of_lt g).2.1 q.1
  · rw [fa_wide_lt] at g
    exact (fa_of_lt g).2.1 q.2
  · rw [fa_wide_lt] at g1 g2
    exact ⟨fa_of_nlt g1, fa_of_nlt g2⟩
theorem m_input {σ : St} {N : Ne} {fs sl : Nat → Bool} {bd : Nat → Nat} {a : Int32} {post : Int32 → St → Prop} (hN : NM σ N) (hW : WN N) (hF : MF σ N fs) (hS : MS σ N sl)
    (h1 : ixI a 4 = none → ∀ σ', fr0 σ σ' → post (-1) σ') (h2 : ∀ c, a = nI c → c < 4 → nn N = 24 ∨ nb N = 10 → ∀ σ', fr0 σ σ' → post (-2) σ')
    (h3 : ∀ c, a = nI c → c < 4 → nn N < 24 → nb N < 10 → ∀ σ', frN σ σ' → NM σ' (addB N 5 c) → MF σ' (addB N 5 c) (fu fs (nn N) false) → MS σ' (addB N 5 c) (fu sl (nn N) false) → MR σ' (addB N 5 c) bd 0 (fun _ => fz (addB N 5 c) (fu fs (nn N) false)) (fun _ => 0) (fun _ => 0) (fun _ => false) → MU σ' → post (nI (nn N)) σ') : w_X12_input σ a post := by
  unfold w_X12_input
  refine nm_of ?_
  have f1 := fr0_up σ
  generalize upI σ 0 0 0 = σ1 at f1
  have N1 := NM_ag (fr_ag f1 (by decide)) hN
  have h24 := hW.1
  have h10 : nb N ≤ 10 := hW.2.2.2.2.2.2.2
  refine w_in0 4 (by decide) (by decide) (by decide) (fun g => br_1 rfl (h1 g σ1 f1)) (fun c e hc => br_0 (by decide) ?_)
  refine br_eq (nn N) 24 N1.1 rfl (by omega) (by omega) (fun q => h2 c e hc (Or.inl q) σ1 f1) (fun q1 => ?_)
  refine br_eq (nb N) 10 N1.2.1 rfl (by omega) (by omega) (fun q => h2 c e hc (Or.inr q) σ1 f1) (fun q2 => ?_)
  rw [e]
  refine m_add (k := 5) (c := c) (f := false) (bd := bd) N1 hW (MF_ag (fr_ag f1 (by decide)) hF) (MS_ag (fr_ag f1 (by decide)) hS) (by omega) (by omega) (Or.inl rfl) hc (fun σ' f' n' m' s' r' u' => ?_)
  have e2 : σ'.1 0 1 - 1 = nI (nn N) := by rw [n'.1]; exact nI_pred (nn N)
  rw [e2]
  exact h3 c e hc (by omega) (by omega) σ' (fr_tr (fr_mo f1 (by decide)) (fr_mo f' (by decide))) n' m' s' r' u'
theorem m_keeper {σ : St} {N : Ne} {fs sl : Nat → Bool} {bd : Nat → Nat} {a b : Int32} {post : Int32 → St → Prop} (hN : NM σ N) (hW : WN N) (hF : MF σ N fs) (hS : MS σ N sl)
    (h1 : ixI a 4 = none ∨ ixI b 2 = none → ∀ σ', fr0 σ σ' → post (-1) σ') (h2 : ∀ c f, a = nI c → c < 4 → b = bI f → nn N = 24 ∨ nb N = 10 → ∀ σ', fr0 σ σ' → post (-2) σ')
    (h3 : ∀ c f, a = nI c → c < 4 → b = bI f → nn N < 24 → nb N < 10 → ∀ σ', frN σ σ' → NM σ' (addB N 6 c) → MF σ' (addB N 6 c) (fu fs (nn N) f) → MS σ' (addB N 6 c) (fu sl (nn N) false) → MR σ' (addB N 6 c) bd 0 (fun _ => fz (addB N 6 c) (fu fs (nn N) f)) (fun _ => 0) (fun _ => 0) (fun _ => false) → MU σ' → post (nI (nn N)) σ') : w_X12_keeper σ a b post := by
  unfold w_X12_keeper
  refine nm_of ?_
  have f1 := fr0_up σ
  generalize upI σ 0 0 0 = σ1 at f1
  have N1 := NM_ag (fr_ag f1 (by decide)) hN
  have h24 := hW.1
  have h10 : nb N ≤ 10 := hW.2.2.2.2.2.2.2
  refine w_in0 4 (by decide) (by decide) (by decide) (fun g => br_1 rfl (h1 (Or.inl g) σ1 f1)) (fun c e hc => br_0 (by decide) ?_)
  refine w_in0 2 (by decide) (by decide) (by decide) (fun g => br_1 rfl (h1 (Or.inr g) σ1 f1)) (fun w ew hw => br_0 (by decide) ?_)
  obtain ⟨f, hf⟩ : ∃ f : Bool, b = bI f := by
    rcases (show w = 0 ∨ w = 1 by omega) with rfl | rfl
    · exact ⟨false, ew⟩
    · exact ⟨true, ew⟩
  refine br_eq (nn N) 24 N1.1 rfl (by omega) (by omega) (fun q => h2 c f e hc hf (Or.inl q) σ1 f1) (fun q1 => ?_)
  refine br_eq (nb N) 10 N1.2.1 rfl (by omega) (by omega) (fun q => h2 c f e hc hf (Or.inr q) σ1 f1) (fun q2 => ?_)
  rw [e, hf]
  refine m_add (k := 6) (c := c) (f := f) (bd := bd) N1 hW (MF_ag (fr_ag f1 (by decide)) hF) (MS_ag (fr_ag f1 (by decide)) hS) (by omega) (by omega) (Or.inr rfl) hc (fun σ' f' n' m' s' r' u' => ?_)
  have e2 : σ'.1 0 1 - 1 = nI (nn N) := by rw [n'.1]; exact nI_pred (nn N)
  rw [e2]
  exact h3 c f e hc hf (by omega) (by omega) σ' (fr_tr (fr_mo f1 (by decide)) (fr_mo f' (by decide))) n' m' s' r' u'
