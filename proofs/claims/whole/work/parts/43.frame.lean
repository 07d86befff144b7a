/-! what a method leaves as it was -/
theorem upI_get (σ : St) (k j : Nat) (v : Int32) (a b : Nat) : (upI σ k j v).1 a b = if a = k ∧ b = j then v else σ.1 a b := by
  show (if a = k then upd (σ.1 k) j v else σ.1 a) b = _
  by_cases h : a = k
  · subst h
    rw [if_pos rfl]
    show (if b = j then v else σ.1 a b) = _
    by_cases g : b = j <;> simp [g]
  · rw [if_neg h, if_neg (fun q => h q.1)]
theorem upI_snd (σ : St) (k j : Nat) (v : Int32) : (upI σ k j v).2 = σ.2 := rfl
theorem upJ_get (σ : St) (k j : Nat) (v : Int64) (a b : Nat) : (upJ σ k j v).2 a b = if a = k ∧ b = j then v else σ.2 a b := by
  show (if a = k then vp_updL (σ.2 k) j v else σ.2 a) b = _
  by_cases h : a = k
  · subst h
    rw [if_pos rfl]
    show (if b = j then v else σ.2 a b) = _
    by_cases g : b = j <;> simp [g]
  · rw [if_neg h, if_neg (fun q => h q.1)]
theorem upJ_fst (σ : St) (k j : Nat) (v : Int64) : (upJ σ k j v).1 = σ.1 := rfl
/-- the cells of S and the places of F may be written -/
def fr (S : List Nat) (F : List (Nat × Nat)) (σ σ' : St) : Prop := ∀ k j, k ∉ S → (k, j) ∉ F → σ'.1 k j = σ.1 k j ∧ σ'.2 k j = σ.2 k j
/-- the cells of S and the places of F are as they were -/
def ag (S : List Nat) (F : List (Nat × Nat)) (σ σ' : St) : Prop := ∀ k j, k ∈ S ∨ (k, j) ∈ F → σ'.1 k j = σ.1 k j ∧ σ'.2 k j = σ.2 k j
def disj (S : List Nat) (F : List (Nat × Nat)) (S1 : List Nat) (F1 : List (Nat × Nat)) : Bool := S1.all (fun k => !S.contains k && F.all (fun q => q.1 != k)) && F1.all (fun q => !S.contains q.1 && !F.contains q)
theorem fr_ag {S : List Nat} {F : List (Nat × Nat)} {S1 : List Nat} {F1 : List (Nat × Nat)} {σ σ' : St} (h : fr S F σ σ') (hd : disj S F S1 F1 = true) : ag S1 F1 σ σ' := by
  simp only [disj, Bool.and_eq_true, List.all_eq_true, Bool.not_eq_true', bne_iff_ne, ne_eq] at hd
  intro k j hk
  rcases hk with hk | hk
  · have h1 := hd.1 k hk
    refine h k j (fun q => ?_) (fun q => h1.2 (k, j) q rfl)
    have := h1.1
    rw [List.contains_iff_mem.mpr q] at this
    exact Bool.noConfusion this
  · have h1 := hd.2 (k, j) hk
    refine h k j (fun q => ?_) (fun q => ?_)
    · have := h1.1
      rw [List.contains_iff_mem.mpr q] at this
      exact Bool.noConfusion this
    · have := h1.2
      rw [List.contains_iff_mem.mpr q] at this
      exact Bool.noConfusion this
theorem fr_rf {S : List Nat} {F : List (Nat × Nat)} {σ : St} : fr S F σ σ := fun _ _ _ _ => ⟨rfl, rfl⟩
theorem fr_tr {S : List Nat} {F : List (Nat × Nat)} {σ σ1 σ2 : St} (h1 : fr S F σ σ1) (h2 : fr S F σ1 σ2) : fr S F σ σ2 := fun k j a b => ⟨(h2 k j a b).1.trans (h1 k j a b).1, (h2 k j a b).2.trans (h1 k j a b).2⟩
def subL (S : List Nat) (F : List (Nat × Nat)) (S1 : List Nat) (F1 : List (Nat × Nat)) : Bool := S.all (fun k => S1.contains k) && F.all (fun q => S1.contains q.1 || F1.contains q)
theorem fr_mo {S : List Nat} {F : List (Nat × Nat)} {S1 : List Nat} {F1 : List (Nat × Nat)} {σ σ' : St} (h : fr S F σ σ') (hs : subL S F S1 F1 = true) : fr S1 F1 σ σ' := by
  simp only [subL, Bool.and_eq_true, List.all_eq_true, Bool.or_eq_true, List.contains_iff_mem] at hs
  intro k j h1 h2
  refine h k j (fun q => h1 (hs.1 k q)) (fun q => ?_)
  rcases hs.2 (k, j) q with z | z
  · exact h1 z
  · exact h2 z
/-- one place written -/
theorem fr_I (σ : St) {S : List Nat} {F : List (Nat × Nat)} (k j : Nat) (v : Int32) (h : k ∈ S ∨ (k, j) ∈ F) : fr S F σ (upI σ k j v) := by
  intro a b h1 h2
  refine ⟨?_, rfl⟩
  rw [upI_get]
  by_cases e : a = k ∧ b = j
  · obtain ⟨rfl, rfl⟩ := e
    rcases h with q | q
    · exact absurd q h1
    · exact absurd q h2
  · rw [if_neg e]
theorem fr_J (σ : St) {S : List Nat} {F : List (Nat × Nat)} (k j : Nat) (v : Int64) (h : k ∈ S ∨ (k, j) ∈ F) : fr S F σ (upJ σ k j v) := by
  intro a b h1 h2
  refine ⟨rfl, ?_⟩
  rw [upJ_get]
  by_cases e : a = k ∧ b = j
  · obtain ⟨rfl, rfl⟩ := e
    rcases h with q | q
    · exact absurd q h1
    · exact absurd q h2
  · rw [if_neg e]
theorem fr_stepI {S : List Nat} {F : List (Nat × Nat)} {σ σ1 : St} (h : fr S F σ σ1) (k j : Nat) (v : Int32) (hk : k ∈ S ∨ (k, j) ∈ F) : fr S F σ (upI σ1 k j v) := fr_tr h (fr_I σ1 k j v hk)
theorem fr_stepJ {S : List Nat} {F : List (Nat × Nat)} {σ σ1 : St} (h : fr S F σ σ1) (k j : Nat) (v : Int64) (hk : k ∈ S ∨ (k, j) ∈ F) : fr S F σ (upJ σ1 k j v) := fr_tr h (fr_J σ1 k j v hk)
theorem NM_ag {σ σ' : St} {N : Ne} (h : ag [1, 2, 4, 5, 6] [(0, 1), (0, 2)] σ σ') (hN : NM σ N) : NM σ' N := by
  obtain ⟨h1, h2, h3, h4, h5, h6, h7⟩ := hN
  have e := fun k j q => (h k j q).1
  refine ⟨?_, ?_, fun c hc => ?_, fun c hc => ?_, fun c hc => ?_, fun c hc => ?_, fun c hc => ?_⟩
  · rw [e 0 1 (by simp)]; exact h1
  · rw [e 0 2 (by simp)]; exact h2
  · rw [e 1 c (by simp)]; exact h3 c hc
  · rw [e 2 c (by simp)]; exact h4 c hc
  · rw [e 4 c (by simp)]; exact h5 c hc
  · rw [e 5 c (by simp)]; exact h6 c hc
  · rw [e 6 c (by simp)]; exact h7 c hc
/-! THE REFERENCE'S OTHER PARTS -/
/-- values at first -/
def MF (σ : St) (N : Ne) (fs : Nat → Bool) : Prop := ∀ c, c < nn N → 4 < nk N c → σ.1 3 c = bI (fs c)
def MS (σ : St) (N : Ne) (sl : Nat → Bool) : Prop := ∀ c, c < nn N → σ.1 7 c = bI (sl c)
def MB (σ : St) (bd : Nat → Nat) : Prop := ∀ k, k < 16 → σ.1 8 k = nI (bd k)
def MP (σ : St) (np : Nat) (pk px py : Nat → Nat) : Prop := σ.1 0 11 = nI np ∧ ∀ p, p < np → σ.1 9 p = nI (pk p) ∧ σ.1 10 p = nI (px p) ∧ (pk p ≠ 0 → σ.1 11 p = nI (py p))
/-- the run: m moments, the bits' values V, the sets of clocks rc, the ticks tk, which keepers were either et -/
def MR (σ : St) (N : Ne) (bd : Nat → Nat) (m : Nat) (V : Nat → Nat → Bool) (rc tk : Nat → Nat) (et : Nat → Bool) : Prop := σ.1 0 15 = nI m ∧ (∀ i, i ≤ m → ∀ c, bt (σ.1 12 i) c = EV N (V i) c) ∧ (∀ i, i < m → σ.1 13 i = nI (rc i)) ∧ (∀ k, k < 16 → σ.1 14 k = nI (tk k)) ∧ σ.1 0 20 = nI (fb_ct et (nn N)) ∧ (∀ c, c < nn N → et c = true → σ.1 15 (fb_ct et c) = nI c)
theorem MF_ag {σ σ' : St} {N : Ne} {fs : Nat → Bool} (h : ag [3] [] σ σ') (hN : MF σ N fs) : MF σ' N fs := fun c h1 h2 => by rw [(h 3 c (by simp)).1]; exact hN c h1 h2
theorem MS_ag {σ σ' : St} {N : Ne} {sl : Nat → Bool} (h : ag [7] [] σ σ') (hN : MS σ N sl) : MS σ' N sl := fun c h1 => by rw [(h 7 c (by simp)).1]; exact hN c h1
theorem MB_ag {σ σ' : St} {bd : Nat → Nat} (h : ag [8] [] σ σ') (hN : MB σ bd) : MB σ' bd := fun c h1 => by rw [(h 8 c (by simp)).1]; exact hN c h1
theorem MP_ag {σ σ' : St} {np : Nat} {pk px py : Nat → Nat} (h : ag [9, 10, 11] [(0, 11)] σ σ') (hN : MP σ np pk px py) : MP σ' np pk px py := by
  refine ⟨by rw [(h 0 11 (by simp)).1]; exact hN.1, fun p hp => ?_⟩
  rw [(h 9 p (by simp)).1, (h 10 p (by simp)).1, (h 11 p (by simp)).1]
  exact hN.2 p hp
theorem MR_ag {σ σ' : St} {N : Ne} {bd : Nat → Nat} {m : Nat} {V : Nat → Nat → Bool} {rc tk : Nat → Nat} {et : Nat → Bool} (h : ag [12, 13, 14, 15] [(0, 15), (0, 20)] σ σ') (hN : MR σ N bd m V rc tk et) : MR σ' N bd m V rc tk et := by
  obtain ⟨h1, h2, h3, h4, h5, h6⟩ := hN
  refine ⟨by rw [(h 0 15 (by simp)).1]; exact h1, fun i hi c => ?_, fun i hi => ?_, fun k hk => ?_, by rw [(h 0 20 (by simp)).1]; exact h5, fun c hc he => ?_⟩
  · rw [(h 12 i (by simp)).1]; exact h2 i hi c
  · rw [(h 13 i (by simp)).1]; exact h3 i hi
  · rw [(h 14 k (by simp)).1]; exact h4 k hk
  · rw [(h 15 _ (by simp)).1]; exact h6 c hc he
/-- the bits at the beginning -/
def fz (N : Ne) (fs : Nat → Bool) : Nat → Bool := fun c => decide (c < nn N) && decide (nk N c = 6) && fs c
theorem m_beginning {σ : St} {N : Ne} {fs : Nat → Bool} {post : Int32 → Prop} (hN : NM σ N) (hW : WN N) (hF : MF σ N fs) (h : ∀ r : Int32, (∀ i, bt r i = EV N (fz N fs) i) → post r) : w_X12_beginning σ post := by
  have hN' := hN
  obtain ⟨hn, -, hk, -⟩ := hN'
  have hn24 := hW.1
  unfold w_X12_beginning
  refine jn_at ?_
  refine lpE2_inv (I := fun y5 y6 => ∃ c, c ≤ nn N ∧ y6 = nI c ∧ ∀ i, bt y5 i = (decide (i < c) && fz N fs i)) (μ := fun _ y6 => nn N - y6.toNatClampNeg) ?_ 0 0 ⟨0, by omega, rfl, fun i => by rw [b_0]; simp⟩
  rintro rec y5 y6 ⟨c, hc, rfl, hb⟩ hrec
  unfold w_X12_beginning_L4
  refine br_le (nn N) c hn rfl (by omega) (by omega) (fun q => ?_) (fun q => ?_)
  · have e : c = nn N := by omega
    subst e
    refine m_settle hN hW (fun r hr => h r (fun i => ?_))
    rw [hr i]
    have e2 : bt y5 = fz N fs := by
      funext i
      rw [hb i]
      by_cases g : i < nn N
      · rw [decide_eq_true g, Bool.true_and]
      · rw [decide_eq_false g]; simp [fz, g]
    rw [e2]
  have hk6 := hW.2.1 c q
  refine rd_of c rfl (by omega) (by decide) ?_
  rw [hk c q]
  refine jn_1 (fun y11 => ∀ i, bt y11 i = (decide (i = c) && fz N fs i)) (fun K hK => ?_) ?_
  · refine jn_0 (nk N c ≠ 6 ∨ fs c = false) (fun K2 hK2 => ?_) (fun g => hK _ (fun i => ?_))
    · refine br_eq (nk N c) 6 rfl rfl (by omega) (by omega) (fun e => ?_) (fun e => hK2 (Or.inl e))
      refine rd_of c rfl (by omega) (by decide) ?_
      rw [hF c q (by omega)]
      refine br_2 (fun b1 => hK _ (fun i => ?_)) (fun b1 => hK2 (Or.inr ?_))
      · rw [b_one (by omega)]
        by_cases g : i = c
        · subst g; simp [fz, q, e, (bI_one _).mp b1]
        · simp [g]
      · cases hq : fs c with
        | false => rfl
        | true => exact absurd ((bI_one _).mpr hq) b1
    · rw [b_0]
      by_cases e : i = c
      · subst e
        rcases g with g | g
        · simp [fz, g]
        · simp [fz, g]
      · simp [e]
  intro y11 h11
  refine nm_of (nm_of (hrec _ _ ⟨c + 1, q, nI_1 c, fun i => ?_⟩ ?_))
  · rw [b_or, hb i, h11 i]
    by_cases g1 : i < c
    · simp [g1, show i < c + 1 by omega, show ¬ i = c by omega]
    · by_cases g2 : i = c
      · simp [g2]
      · simp [g1, g2, show ¬ i < c + 1 by omega]
  · rw [nI_1, cl_nI (by omega), cl_nI (by omega)]
    omega
