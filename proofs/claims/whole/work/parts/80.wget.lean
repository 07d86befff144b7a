/-! WHAT THE WALK SHOWS, on both sides -/
def wkE : Wk := (0, 0, 0, false, fun _ => (fun _ => false, fun _ => 0, 0, 0, 0, 0, 0), fun _ => 0, fun _ => (0, 0, 0), fun _ => (false, 0, 0, 0, 0, 0))
/-- the walk as it is now: walked, or not -/
noncomputable def wNow (N : Ne) (bd : Nat → Nat) (P : Pr) (fs : Nat → Bool) (b : Bool) : Wk := if b = true then wAll N bd P fs else wkE
def MX (σ : St) (N : Ne) (w : Wk) (b : Bool) : Prop := (σ.1 0 25 = bI b ∧ σ.1 0 26 = bI (wk_x w) ∧ σ.1 0 28 = nI (wk_l w) ∧ σ.1 0 29 = nI (wk_m w) ∧ σ.1 0 38 = nI (wk_m w)) ∧ MWs σ N w ∧ MWf σ w ∧ MWm σ w ∧ (b = true → MVn σ (wk_n w))
theorem MX_U {σ : St} {N : Ne} (h : MU σ) : MX σ N wkE false := by
  obtain ⟨h1, h2, h3, h4, h5, h6⟩ := h
  exact ⟨⟨h1, h2, h4, h5, h6⟩, ⟨h3, fun k hk => absurd hk (Nat.not_lt_zero k)⟩, fun k hk => absurd hk (Nat.not_lt_zero k), fun k hk => absurd hk (Nat.not_lt_zero k), fun z => Bool.noConfusion z⟩
theorem MX_W {σ : St} {N : Ne} {w : Wk} (h : MW σ N w) : MX σ N w true := ⟨h.1, h.2.1, h.2.2.1, h.2.2.2.1, fun _ => h.2.2.2.2⟩
theorem MX_ag {σ σ' : St} {N : Ne} {w : Wk} {b : Bool} (h : ag [16, 17, 18, 19, 20, 21, 22, 23, 24, 25, 26, 27, 28] [(0, 25), (0, 26), (0, 27), (0, 28), (0, 29), (0, 38)] σ σ') (hW : MX σ N w b) : MX σ' N w b := by
  have s : ∀ {S1 : List Nat} {F1 : List (Nat × Nat)}, (∀ k, k ∈ S1 → k ∈ [16, 17, 18, 19, 20, 21, 22, 23, 24, 25, 26, 27, 28]) → (∀ k, k ∈ F1 → k ∈ [(0, 25), (0, 26), (0, 27), (0, 28), (0, 29), (0, 38)]) → ag S1 F1 σ σ' := fun h1 h2 k j q => h k j (q.imp (h1 k) (h2 (k, j)))
  refine ⟨?_, MWs_ag (s (by decide) (by decide)) hW.2.1, MWf_ag (s (by decide) (by decide)) hW.2.2.1, MWm_ag (s (by decide) (by decide)) hW.2.2.2.1, fun z => MVn_ag (s (by decide) (by decide)) (hW.2.2.2.2 z)⟩
  rw [(h 0 25 (by simp)).1, (h 0 26 (by simp)).1, (h 0 28 (by simp)).1, (h 0 29 (by simp)).1, (h 0 38 (by simp)).1]
  exact hW.1
/-- the lengths that were measured, if they were -/
def CMs (σ : St) (w : Wk) (L : Nat → Int32) : Prop := σ.1 7 4 = 0 ∨ (σ.1 7 4 = 1 ∧ ∀ k, k < wk_s w → σ.1 35 k = L k)
def CX (σ : St) (N : Ne) (w : Wk) (b : Bool) : Prop := CWc σ w ∧ CWs σ N w ∧ CWb σ w ∧ CWf σ w ∧ CWl σ w ∧ (b = true → CWh σ w ∧ CWm σ w ∧ CVn σ (wk_n w))
theorem CX_U {σ : St} {N : Ne} (h : CU σ) : CX σ N wkE false := by
  obtain ⟨h1, h2, h3, h4⟩ := h
  exact ⟨⟨h2, h3, h4⟩, ⟨h1, fun k hk => absurd hk (Nat.not_lt_zero k)⟩, fun k hk => absurd hk (Nat.not_lt_zero k), fun k hk => absurd hk (Nat.not_lt_zero k), fun k hk => absurd hk (Nat.not_lt_zero k), fun z => Bool.noConfusion z⟩
theorem CX_W {σ : St} {N : Ne} {w : Wk} (h : CW σ N w) : CX σ N w true := ⟨h.1, h.2.1, h.2.2.1, h.2.2.2.1, h.2.2.2.2.2.2.1, fun _ => ⟨h.2.2.2.2.1, h.2.2.2.2.2.1, h.2.2.2.2.2.2.2⟩⟩
theorem W_CX {σ : St} {N : Ne} {w : Wk} (h : CX σ N w true) : CW σ N w := ⟨h.1, h.2.1, h.2.2.1, h.2.2.2.1, (h.2.2.2.2.2 rfl).1, (h.2.2.2.2.2 rfl).2.1, h.2.2.2.2.1, (h.2.2.2.2.2 rfl).2.2⟩
theorem U_CX {σ : St} {N : Ne} (h : CX σ N wkE false) : CU σ := ⟨h.2.1.1, h.1.1, h.1.2.1, h.1.2.2⟩
theorem CX_ag {σ σ' : St} {N : Ne} {w : Wk} {b : Bool} (h : ag [25, 26, 27, 28, 29, 30, 31, 33, 34] [(6, 5), (6, 6), (6, 7), (6, 8)] σ σ') (hW : CX σ N w b) : CX σ' N w b := by
  have s : ∀ {S1 : List Nat} {F1 : List (Nat × Nat)}, (∀ k, k ∈ S1 → k ∈ [25, 26, 27, 28, 29, 30, 31, 33, 34]) → (∀ k, k ∈ F1 → k ∈ [(6, 5), (6, 6), (6, 7), (6, 8)]) → ag S1 F1 σ σ' := fun h1 h2 k j q => h k j (q.imp (h1 k) (h2 (k, j)))
  exact ⟨CWc_ag (s (by decide) (by decide)) hW.1, CWs_ag (s (by decide) (by decide)) hW.2.1, CWb_ag (s (by decide) (by decide)) hW.2.2.1, CWf_ag (s (by decide) (by decide)) hW.2.2.2.1, CWl_ag (s (by decide) (by decide)) hW.2.2.2.2.1, fun z => ⟨CWh_ag (s (by decide) (by decide)) (hW.2.2.2.2.2 z).1, CWm_ag (s (by decide) (by decide)) (hW.2.2.2.2.2 z).2.1, CVn_ag (s (by decide) (by decide)) (hW.2.2.2.2.2 z).2.2⟩⟩
theorem m_isState {σ : St} {N : Ne} {w : Wk} {a : Int32} {post : Int32 → Prop} (hS : MWs σ N w) (hs : wk_s w ≤ 250) (h1 : ixI a (wk_s w) = none → post 0) (h2 : ∀ k, a = nI k → k < wk_s w → post 1) : w_X12_isState σ a post := by
  unfold w_X12_isState
  cases hq : ixI a (wk_s w) with
  | none =>
    refine br_2 (fun _ => h1 hq) (fun g => ?_)
    rw [hS.1]
    rcases ixI_none (by omega) hq with q | q
    · exact absurd q g
    · exact br_1 q (h1 hq)
  | some j =>
    obtain ⟨e1, hj⟩ := ixI_some (by omega) hq
    have hp := h2 j e1 hj
    subst e1
    refine br_0 (nI_pos (by omega)) ?_
    rw [hS.1]
    exact br_0 (fun g => absurd ((nI_leI (by omega) (by omega)).mp g) (by omega)) hp
theorem c_hasState {σ : St} {N : Ne} {w : Wk} {a : Int32} {post : Int32 → Prop} (hS : CWs σ N w) (hs : wk_s w ≤ 250) (h1 : ixI a (wk_s w) = none → post 0) (h2 : ∀ k, a = nI k → k < wk_s w → post 1) : w_X9_hasState σ a post := by
  unfold w_X9_hasState
  cases hq : ixI a (wk_s w) with
  | none =>
    refine br_2 (fun _ => h1 hq) (fun g => ?_)
    rw [hS.1]
    rcases ixI_none (by omega) hq with q | q
    · exact absurd q g
    · exact br_1 q (h1 hq)
  | some j =>
    obtain ⟨e1, hj⟩ := ixI_some (by omega) hq
    have hp := h2 j e1 hj
    subst e1
    refine br_0 (nI_pos (by omega)) ?_
    rw [hS.1]
    exact br_0 (fun g => absurd ((nI_leI (by omega) (by omega)).mp g) (by omega)) hp
/-- what a state tells, but its bits -/
def stt (w : Wk) (k q : Nat) : Int32 := if q = 1 then (if k = 0 then -2 else nI (sq_f (wk_i w k))) else if q = 2 then nI (sq_c (wk_i w k)) else if q = 3 then nI (sq_i (wk_i w k)) else if q = 4 then nI (sq_o (wk_i w k)) else if q = 5 then nI (sq_d (wk_i w k)) else (if k < wk_l w then nI (wk_c w k - opn w k) else -2)
theorem m_state {σ : St} {N : Ne} {w : Wk} {a b : Int32} {post : Int32 → St → Prop} (hN : NM σ N) (hW : WN N) (hS : MWs σ N w) (hF : MWf σ w) (hs : wk_s w ≤ 250) (hf : ∀ k, k < wk_s w → 0 < k → sq_f (wk_i w k) < k) (h1 : ixI a (wk_s w) = none ∨ ixI b 7 = none → ∀ σ', fr0 σ σ' → post (-1) σ') (h2 : ∀ k q, a = nI k → k < wk_s w → b = nI q → q < 7 → ∀ σ', fr0 σ σ' → ∀ v : Int32, (q = 0 → PM N v (sq_v (wk_i w k))) → (q ≠ 0 → v = stt w k q) → post v σ') : w_X12_state σ a b post := by
  unfold w_X12_state
  refine nm_of ?_
  have f0 := fr0_up σ
  generalize upI σ 0 0 0 = σ1 at f0
  have hN1 := NM_ag (fr_ag f0 (by decide)) hN
  have hS1 := MWs_ag (fr_ag f0 (by decide)) hS
  have hF1 := MWf_ag (fr_ag f0 (by decide)) hF
  refine m_isState hS1 hs (fun g => br_1 rfl (h1 (Or.inl g) σ1 f0)) (fun k ek hk => br_0 (by decide) ?_)
  refine w_in0 7 (by decide) (by decide) rfl (fun g => br_1 rfl (h1 (Or.inr g) σ1 f0)) (fun q eq hq => br_0 (by decide) ?_)
  obtain ⟨u1, u2, u3, u4, u5, u6, u7⟩ := hS1.2 k hk
  have hp := h2 k q ek hk eq hq σ1 f0
  refine br_eq q 0 eq rfl (by omega) (by omega) (fun e => rd_of k ek (by omega) (by decide) ?_) (fun n0 => ?_)
  · refine m_bitsOf (v := sq_v (wk_i w k)) hN1 hW (fun c hc g => by rw [u1 c, EV_bit N _ g]) (fun r hr => hp r (fun _ => hr) (fun n => absurd e n))
  have hp' : post (stt w k q) σ1 := hp _ (fun n => absurd n n0) (fun _ => rfl)
  unfold stt at hp'
  refine br_eq q 1 eq rfl (by omega) (by omega) (fun e => rd_of k ek (by omega) (by decide) ?_) (fun n1 => ?_)
  · rw [if_pos e] at hp'
    rw [u3]
    by_cases z : k = 0
    · rw [if_pos z] at hp' ⊢
      exact br_0 (by decide) hp'
    · rw [if_neg z] at hp' ⊢
      have := hf k hk (by omega)
      refine br_1 (nI_pos' (by omega)) (rd_of k ek (by omega) (by decide) ?_)
      rw [u3, if_neg z]; exact hp'
  rw [if_neg n1] at hp'
  refine br_eq q 2 eq rfl (by omega) (by omega) (fun e => rd_of k ek (by omega) (by decide) ?_) (fun n2 => ?_)
  · rw [if_pos e] at hp'; rw [u4]; exact hp'
  rw [if_neg n2] at hp'
  refine br_eq q 3 eq rfl (by omega) (by omega) (fun e => rd_of k ek (by omega) (by decide) ?_) (fun n3 => ?_)
  · rw [if_pos e] at hp'; rw [u5]; exact hp'
  rw [if_neg n3] at hp'
  refine br_eq q 4 eq rfl (by omega) (by omega) (fun e => rd_of k ek (by omega) (by decide) ?_) (fun n4 => ?_)
  · rw [if_pos e] at hp'; rw [u6]; exact hp'
  rw [if_neg n4] at hp'
  refine br_eq q 5 eq rfl (by omega) (by omega) (fun e => rd_of k ek (by omega) (by decide) ?_) (fun n5 => ?_)
  · rw [if_pos e] at hp'; rw [u7]; exact hp'
  rw [if_neg n5] at hp'
  refine rd_of k ek (by omega) (by decide) ?_
  rw [hF1 k hk]; exact hp'
theorem c_state {σ : St} {N : Ne} {w : Wk} {a b : Int32} {post : Int32 → Prop} (hS : CWs σ N w) (hB : CWb σ w) (hF : CWf σ w) (hs : wk_s w ≤ 250) (h1 : ixI a (wk_s w) = none ∨ ixI b 7 = none → post (-1)) (h2 : ∀ k q, a = nI k → k < wk_s w → b = nI q → q < 7 → ∀ v : Int32, (q = 0 → PM N v (sq_v (wk_i w k))) → (q ≠ 0 → v = stt w k q) → post v) : w_X11_state σ a b post := by
  unfold w_X11_state
  refine c_hasState hS hs (fun g => br_1 rfl (h1 (Or.inl g))) (fun k ek hk => br_0 (by decide) ?_)
  rcases ix1 (a := b) (n := 7) (by decide) with z | ⟨q, eq, hq, -⟩
  · refine br_2 (fun _ => h1 (Or.inr z)) (fun g => br_0 (fun y => ?_) (h1 (Or.inr z)))
    exact (fa_of_lt (gt3 (n := 6) (by decide) g z)).2.1 y
  have hp := h2 k q ek hk eq hq
  refine br_0 (by rw [eq]; exact nI_pos (by omega)) (br_1 (by rw [eq]; exact nI_le (b := 6) (by omega) (by decide)) ?_)
  obtain ⟨u1, u2, u3⟩ := hS.2 k hk
  obtain ⟨b1, b2, b3, b4⟩ := hB k hk
  refine br_eq q 0 eq rfl (by omega) (by omega) (fun e => rd_of k ek (by omega) (by decide) (hp _ (fun _ => u1) (fun n => absurd e n))) (fun n0 => ?_)
  have hp' : post (stt w k q) := hp _ (fun n => absurd n n0) (fun _ => rfl)
  unfold stt at hp'
  refine br_eq q 5 eq rfl (by omega) (by omega) (fun e => rd_of k ek (by omega) (by decide) ?_) (fun n5 => ?_)
  · rw [if_neg (by omega), if_neg (by omega), if_neg (by omega), if_neg (by omega), if_pos e] at hp'; rw [u3]; exact hp'
  refine br_eq q 6 eq rfl (by omega) (by omega) (fun e => rd_of k ek (by omega) (by decide) ?_) (fun n6 => ?_)
  · rw [if_neg (by omega), if_neg (by omega), if_neg (by omega), if_neg (by omega), if_neg (by omega)] at hp'; rw [hF k hk]; exact hp'
  have ei : a * (5 : Int32) + b - (1 : Int32) = nI (5 * k + (q - 1)) := by
    rw [ek, eq, show (5 : Int32) = nI 5 from rfl, pk_mul, nI_add, show (1 : Int32) = nI 1 from rfl, pk_sub (by omega)]
    congr 1
    omega
  refine rd_of (5 * k + (q - 1)) ei (by omega) (by decide) ?_
  rcases (show q = 1 ∨ q = 2 ∨ q = 3 ∨ q = 4 by omega) with e | e | e | e
  · rw [if_pos e] at hp'; rw [e, show 5 * k + (1 - 1) = 5 * k by omega, b1]; exact hp'
  · rw [if_neg (by omega), if_pos e] at hp'; rw [e, show 5 * k + (2 - 1) = 5 * k + 1 by omega, b2]; exact hp'
  · rw [if_neg (by omega), if_neg (by omega), if_pos e] at hp'; rw [e, show 5 * k + (3 - 1) = 5 * k + 2 by omega, b3]; exact hp'
  · rw [if_neg (by omega), if_neg (by omega), if_neg (by omega), if_pos e] at hp'; rw [e, show 5 * k + (4 - 1) = 5 * k + 3 by omega, b4]; exact hp'
theorem m_shown {σ : St} {N : Ne} {w : Wk} {a b : Int32} {post : Int32 → St → Prop} (hN : NM σ N) (hW : WN N) (hS : MWs σ N w) (hs : wk_s w ≤ 250) (h1 : ixI a (wk_s w) = none ∨ ixI b (nn N) = none → ∀ σ', fr0 σ σ' → post (-1) σ') (h2 : ∀ k c, a = nI k → k < wk_s w → b = nI c → c < nn N → ∀ σ', fr0 σ σ' → post (bI (EV N (sq_v (wk_i w k)) c)) σ') : w_X12_shown σ a b post := by
  have h24 := hW.1
  unfold w_X12_shown
  refine nm_of ?_
  have f0 := fr0_up σ
  generalize upI σ 0 0 0 = σ1 at f0
  have hN1 := NM_ag (fr_ag f0 (by decide)) hN
  have hS1 := MWs_ag (fr_ag f0 (by decide)) hS
  refine m_isState hS1 hs (fun g => br_1 rfl (h1 (Or.inl g) σ1 f0)) (fun k ek hk => br_0 (by decide) ?_)
  refine m_isCell hN1.1 hW (fun g => br_1 rfl (h1 (Or.inr g) σ1 f0)) (fun c ec hc => br_0 (by decide) ?_)
  refine rd_of k ek (by omega) (by decide) (w_bitOf_of c ec (by omega) ?_)
  rw [(hS1.2 k hk).1 c]
  exact h2 k c ek hk ec hc σ1 f0
theorem c_shown {σ : St} {N : Ne} {w : Wk} {a b : Int32} {post : Int32 → Prop} (hN : CN σ N) (hW : WN N) (hS : CWs σ N w) (hs : wk_s w ≤ 250) (h1 : ixI a (wk_s w) = none ∨ ixI b (nn N) = none → post (-1)) (h2 : ∀ k c, a = nI k → k < wk_s w → b = nI c → c < nn N → post (bI (EV N (sq_v (wk_i w k)) c))) : w_X11_shown σ a b post := by
  unfold w_X11_shown
  refine c_hasState hS hs (fun g => br_1 rfl (h1 (Or.inl g))) (fun k ek hk => br_0 (by decide) ?_)
  refine c_isCell hN.1 hW (fun g => br_1 rfl (h1 (Or.inr g))) (fun c ec hc => br_0 (by decide) ?_)
  exact rd_of k ek (by omega) (by decide) (c_valueOf hN hW ec hc (hS.2 k hk).1 (h2 k c ek hk ec hc))
/-- what is told of a broken promise -/
def nvr (x : NV) (q : Nat) : Int32 := if q = 0 then x.2.1 else if q = 1 then nI x.2.2.1 else if q = 2 then nI x.2.2.2.1 else if q = 3 then nI x.2.2.2.2.1 else nI x.2.2.2.2.2
theorem m_never {σ : St} {N : Ne} {w : Wk} {P : Pr} {v : Bool} {a b : Int32} {post : Int32 → St → Prop} (hP : MP σ P.1 P.2.1 P.2.2.1 P.2.2.2) (hp8 : P.1 ≤ 8) (hX : MX σ N w v) (h1 : ixI a P.1 = none ∨ ixI b 5 = none → ∀ σ', fr0 σ σ' → post (-1) σ') (h2 : ∀ p q, a = nI p → p < P.1 → b = nI q → q < 5 → ∀ σ', fr0 σ σ' → post (if v = true then (if (wk_n w p).1 = true then nvr (wk_n w p) q else -2) else -3) σ') : w_X12_never σ a b post := by
  unfold w_X12_never
  refine nm_of ?_
  have f0 := fr0_up σ
  generalize upI σ 0 0 0 = σ1 at f0
  have hP1 := MP_ag (fr_ag f0 (by decide)) hP
  have hX1 := MX_ag (fr_ag f0 (by decide)) hX
  rcases ix1 (a := a) (n := P.1) (by omega) with z | ⟨p, ep, hp, -⟩
  · refine br_2 (fun _ => h1 (Or.inl z) σ1 f0) (fun g => ?_)
    rcases ixI_none (by omega) z with y | y
    · exact absurd y g
    · exact br_1 (by rw [hP1.1]; exact y) (h1 (Or.inl z) σ1 f0)
  refine br_0 (by rw [ep]; exact nI_pos (by omega)) (br_0 (by rw [hP1.1, ep]; exact fun y => absurd ((nI_leI (by omega) (by omega)).mp y) (by omega)) ?_)
  refine w_in0 5 (by decide) (by decide) rfl (fun g => br_1 rfl (h1 (Or.inr g) σ1 f0)) (fun q eq hq => br_0 (by decide) ?_)
  have hh := h2 p q ep hp eq hq σ1 f0
  rw [hX1.1.1]
  refine jn_at ?_
  cases v with
  | false => exact br_1 rfl (br_1 rfl hh)
  | true =>
    rw [if_pos rfl] at hh
    obtain ⟨n1, n2⟩ := hX1.2.2.2.2 rfl p (by omega)
    refine br_0 (by decide) (rd_of p ep (by omega) (by decide) ?_)
    rw [n1]
    cases t : (wk_n w p).1 with
    | false =>
      rw [t, if_neg (by decide)] at hh
      exact br_1 rfl (br_0 (by decide) hh)
    | true =>
      rw [if_pos t] at hh
      obtain ⟨m0, m1, m2, m3, m4⟩ := n2 t
      refine br_0 (by decide) (rd_of (5 * p + q) (by rw [ep, eq, show (5 : Int32) = nI 5 from rfl, pk_mul, nI_add]) (by omega) (by decide) ?_)
      unfold nvr at hh
      rcases (show q = 0 ∨ q = 1 ∨ q = 2 ∨ q = 3 ∨ q = 4 by omega) with e | e | e | e | e
      · rw [if_pos e] at hh; rw [e, Nat.add_zero, m0]; exact hh
      · rw [if_neg (by omega), if_pos e] at hh; rw [e, m1]; exact hh
      · rw [if_neg (by omega), if_neg (by omega), if_pos e] at hh; rw [e, m2]; exact hh
      · rw [if_neg (by omega), if_neg (by omega), if_neg (by omega), if_pos e] at hh; rw [e, m3]; exact hh
      · rw [if_neg (by omega), if_neg (by omega), if_neg (by omega), if_neg (by omega)] at hh; rw [e, m4]; exact hh
theorem c_never {σ : St} {N : Ne} {w : Wk} {P : Pr} {v : Bool} {a b : Int32} {post : Int32 → Prop} (hP : CP σ N P) (hp8 : P.1 ≤ 8) (hX : CX σ N w v) (h250 : wk_s w ≤ 250) (hv : v = true → 0 < wk_s w) (hv0 : v = false → wk_s w = 0) (hto : ∀ p, (wk_n w p).1 = true → (wk_n w p).2.2.2.2.2 < 2 ^ 31) (h1 : ixI a P.1 = none ∨ ixI b 5 = none → post (-1)) (h2 : ∀ p q, a = nI p → p < P.1 → b = nI q → q < 5 → post (if v = true then (if (wk_n w p).1 = true then nvr (wk_n w p) q else -2) else -3)) : w_X11_never σ a b post := by
  unfold w_X11_never
  refine c_has hP hp8 (fun g => br_1 rfl (h1 (Or.inl g))) (fun p ep hp => br_0 (by decide) ?_)
  rcases ix1 (a := b) (n := 5) (by decide) with z | ⟨q, eq, hq, -⟩
  · refine br_2 (fun _ => h1 (Or.inr z)) (fun g => br_0 (fun y => ?_) (h1 (Or.inr z)))
    rcases ixI_none (by decide) z with u | u
    · exact absurd u g
    · exact (fa_of_lt y).2.1 u
  have hh := h2 p q ep hp eq hq
  refine br_0 (by rw [eq]; exact nI_pos (by omega)) (br_1 (by rw [eq]; exact nI_lt (b := 5) (by omega) (by decide)) ?_)
  rw [hX.2.1.1]
  cases v with
  | false =>
    rw [hv0 rfl]
    exact br_1 rfl hh
  | true =>
    have s0 := hv rfl
    rw [if_pos rfl] at hh
    refine br_0 (nI_ne0 s0 (by omega)) ?_
    have V := (hX.2.2.2.2.2 rfl).2.2
    refine c_breaks V hto ep (by omega) ?_
    cases t : (wk_n w p).1 with
    | false =>
      rw [t, if_neg (by decide)] at hh
      exact br_1 rfl hh
    | true =>
      rw [if_pos t] at hh
      obtain ⟨m0, m1, m2, m3, m4⟩ := (V p (by omega)).2 t
      refine br_0 (by decide) (rd_of (5 * p + q) (by rw [ep, eq, show (5 : Int32) = nI 5 from rfl, pk_mul, nI_add, Nat.mul_comm]) (by omega) (by decide) ?_)
      unfold nvr at hh
      rcases (show q = 0 ∨ q = 1 ∨ q = 2 ∨ q = 3 ∨ q = 4 by omega) with e | e | e | e | e
      · rw [if_pos e] at hh; rw [e, Nat.add_zero, m0]; exact hh
      · rw [if_neg (by omega), if_pos e] at hh; rw [e, m1]; exact hh
      · rw [if_neg (by omega), if_neg (by omega), if_pos e] at hh; rw [e, m2]; exact hh
      · rw [if_neg (by omega), if_neg (by omega), if_neg (by omega), if_pos e] at hh; rw [e, m3]; exact hh
      · rw [if_neg (by omega), if_neg (by omega), if_neg (by omega), if_neg (by omega)] at hh; rw [e, m4]; exact hh
/-- what is counted -/
def cnt (N : Ne) (P : Pr) (r : Ru) (w : Wk) (q : Nat) : Int32 := if q = 0 then nI (nn N) else if q = 1 then nI (nb N) else if q = 2 then nI (nn N) - nI (nb N) else if q = 3 then nI P.1 else if q = 4 then nI r.1 else if q = 5 then nI (wk_s w) else if q = 6 then nI (wk_l w) else nI (wk_m w)
theorem m_count {σ : St} {N : Ne} {w : Wk} {P : Pr} {bd : Nat → Nat} {r : Ru} {v : Bool} {a : Int32} {post : Int32 → St → Prop} (hN : NM σ N) (hP : MP σ P.1 P.2.1 P.2.2.1 P.2.2.2) (hR : MRu σ N bd r) (hX : MX σ N w v) (h1 : ixI a 8 = none → ∀ σ', fr0 σ σ' → post (-1) σ') (h2 : ∀ q, a = nI q → q < 8 → ∀ σ', fr0 σ σ' → post (cnt N P r w q) σ') : w_X12_count σ a post := by
  unfold w_X12_count
  refine nm_of ?_
  have f0 := fr0_up σ
  generalize upI σ 0 0 0 = σ1 at f0
  have hN1 := NM_ag (fr_ag f0 (by decide)) hN
  have hP1 := MP_ag (fr_ag f0 (by decide)) hP
  have hR1 := MR_ag (fr_ag f0 (by decide)) hR
  have hX1 := MX_ag (fr_ag f0 (by decide)) hX
  rcases ix1 (a := a) (n := 8) (by decide) with z | ⟨q, eq, hq, -⟩
  · have ne : ∀ j, j < 8 → ¬ a = nI j := fun j hj e => by rw [e, ixI_nI (by decide) hj] at z; cases z
    exact br_0 (ne 0 (by decide)) (br_0 (ne 1 (by decide)) (br_0 (ne 2 (by decide)) (br_0 (ne 3 (by decide)) (br_0 (ne 4 (by decide)) (br_0 (ne 5 (by decide)) (br_0 (ne 6 (by decide)) (br_0 (ne 7 (by decide)) (h1 z σ1 f0))))))))
  have hh := h2 q eq hq σ1 f0
  unfold cnt at hh
  rw [hN1.1, hN1.2.1, hP1.1, hR1.1, hX1.2.1.1, hX1.1.2.2.1, hX1.1.2.2.2.1]
  refine br_eq q 0 eq rfl (by omega) (by omega) (fun e => by rw [if_pos e] at hh; exact hh) (fun n0 => ?_)
  rw [if_neg n0] at hh
  refine br_eq q 1 eq rfl (by omega) (by omega) (fun e => by rw [if_pos e] at hh; exact hh) (fun n1 => ?_)
  rw [if_neg n1] at hh
  refine br_eq q 2 eq rfl (by omega) (by omega) (fun e => by rw [if_pos e] at hh; exact hh) (fun n2 => ?_)
  rw [if_neg n2] at hh
  refine br_eq q 3 eq rfl (by omega) (by omega) (fun e => by rw [if_pos e] at hh; exact hh) (fun n3 => ?_)
  rw [if_neg n3] at hh
  refine br_eq q 4 eq rfl (by omega) (by omega) (fun e => by rw [if_pos e] at hh; exact hh) (fun n4 => ?_)
  rw [if_neg n4] at hh
  refine br_eq q 5 eq rfl (by omega) (by omega) (fun e => by rw [if_pos e] at hh; exact hh) (fun n5 => ?_)
  rw [if_neg n5] at hh
  refine br_eq q 6 eq rfl (by omega) (by omega) (fun e => by rw [if_pos e] at hh; exact hh) (fun n6 => ?_)
  rw [if_neg n6] at hh
  exact br_1 (by rw [eq, show q = 7 by omega]; rfl) hh
theorem c_cnt {σ : St} {N : Ne} {w : Wk} {P : Pr} {bd : Nat → Nat} {r : Ru} {v : Bool} {a : Int32} {post : Int32 → Prop} (hN : CN σ N) (hP : CP σ N P) (hR : CRu σ N bd r) (hX : CX σ N w v) (h1 : ixI a 8 = none → post (-1)) (h2 : ∀ q, a = nI q → q < 8 → post (cnt N P r w q)) : w_X11_count σ a post := by
  unfold w_X11_count
  rcases ix1 (a := a) (n := 8) (by decide) with z | ⟨q, eq, hq, -⟩
  · have ne : ∀ j, j < 8 → ¬ a = nI j := fun j hj e => by rw [e, ixI_nI (by decide) hj] at z; cases z
    exact br_0 (ne 0 (by decide)) (br_0 (ne 1 (by decide)) (br_0 (ne 2 (by decide)) (br_0 (ne 3 (by decide)) (br_0 (ne 4 (by decide)) (br_0 (ne 5 (by decide)) (br_0 (ne 6 (by decide)) (br_0 (ne 7 (by decide)) (h1 z))))))))
  have hh := h2 q eq hq
  unfold cnt at hh
  rw [hN.1, hN.2.1, hP.1, hR.1, hX.2.1.1, hX.1.1, hX.1.2.1]
  refine br_eq q 0 eq rfl (by omega) (by omega) (fun e => by rw [if_pos e] at hh; exact hh) (fun n0 => ?_)
  rw [if_neg n0] at hh
  refine br_eq q 1 eq rfl (by omega) (by omega) (fun e => by rw [if_pos e] at hh; exact hh) (fun n1 => ?_)
  rw [if_neg n1] at hh
  refine br_eq q 2 eq rfl (by omega) (by omega) (fun e => by rw [if_pos e] at hh; exact hh) (fun n2 => ?_)
  rw [if_neg n2] at hh
  refine br_eq q 3 eq rfl (by omega) (by omega) (fun e => by rw [if_pos e] at hh; exact hh) (fun n3 => ?_)
  rw [if_neg n3] at hh
  refine br_eq q 4 eq rfl (by omega) (by omega) (fun e => by rw [if_pos e] at hh; exact hh) (fun n4 => ?_)
  rw [if_neg n4] at hh
  refine br_eq q 5 eq rfl (by omega) (by omega) (fun e => by rw [if_pos e] at hh; exact hh) (fun n5 => ?_)
  rw [if_neg n5] at hh
  refine br_eq q 6 eq rfl (by omega) (by omega) (fun e => by rw [if_pos e] at hh; exact hh) (fun n6 => ?_)
  rw [if_neg n6] at hh
  exact br_1 (by rw [eq, show q = 7 by omega]; rfl) hh
