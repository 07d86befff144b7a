/-! BOTH SIDES: the shelf calls -/
theorem RM_s {τ τ' : St} {N : Ne} {fs sl : Nat → Bool} {bd : Nat → Nat} {P : Pr} {r : Ru} {b : Bool} (f : fr [31, 32, 33, 34, 35, 36] [(0, 0)] τ τ') (h : RM τ N fs sl bd P r b) : RM τ' N fs sl bd P r b := by
  obtain ⟨h1, h2, h3, h4, h5, h6, h7⟩ := h
  exact ⟨NM_ag (fr_ag f (by decide)) h1, MF_ag (fr_ag f (by decide)) h2, MS_ag (fr_ag f (by decide)) h3, MB_ag (fr_ag f (by decide)) h4, MP_ag (fr_ag f (by decide)) h5, MR_ag (fr_ag f (by decide)) h6, MX_ag (fr_ag f (by decide)) h7⟩
/-- what holds behind a shelf call of both sides -/
def SRS (cy : Nat → ClassId) (σ : St) (u' : SU) (v v' : Int32) (τ' : St) : Prop := v = v' ∧ REP σ τ' ∧ ∃ X', MSh τ' X' ∧ SHL cy u' X'
theorem kpO_one {N : Ne} {r : Ru} {b c : Int32} {q k q' k' : Nat} (hW : WN N) (o : kpO N b c q k) (o' : kpO N b c q' k') : kpS N r q k = kpS N r q' k' := by
  have h24 := hW.1
  obtain ⟨e, o⟩ := o
  obtain ⟨e', o'⟩ := o'
  have q4 : q ≤ 4 := by omega
  have q4' : q' ≤ 4 := by omega
  have eq : q' = q := nI_one (by omega) (by omega) e e'
  subst eq
  rcases o with z | ⟨z, ek, hk⟩ | z | z
  · unfold kpS; rw [if_pos z, if_pos z]
  · rcases o' with y | ⟨y, ek', hk'⟩ | y | y
    · omega
    · have : k' = k := nI_one (by omega) (by omega) ek ek'
      rw [this]
    · omega
    · omega
  · subst z; rfl
  · subst z; rfl
theorem r_keep {cy : Nat → ClassId} {σ τ : St} {u' : SU} {X : Nat → Sf} {N : Ne} {fs sl : Nat → Bool} {bd : Nat → Nat} {P : Pr} {r : Ru} {bb : Bool} {a b c v : Int32} (hw : RW N bd P r) (hc : RC σ N fs sl bd P r bb) (hm : RM τ N fs sl bd P r bb) (hM : MSh τ X) (hP : keepP cy X N r a b c v u') : w_X12_keep τ a b c (SRS cy σ u' v) := by
  obtain ⟨m1, m2, m3, m4, m5, m6, m7⟩ := id hm
  rcases hP with ⟨rfl, z, hS⟩ | ⟨rfl, d, q, k, ed, hd, o, hS⟩
  · refine m_keep m1 hw.1 m6 hw.2.2.2.1.1 hM (fun _ τ' f => ⟨rfl, ⟨N, fs, sl, bd, P, r, bb, hw, hc, RM_0 f hm⟩, X, MSh_ag (fr_ag f (by decide)) hM, hS⟩) (fun d q k ed hd o => ?_)
    rcases z with z | z
    · exact (no_ix (by decide) z ed hd).elim
    · exact (z q k o).elim
  · refine m_keep m1 hw.1 m6 hw.2.2.2.1.1 hM (fun z => ?_) (fun d' q' k' ed' hd' o' τ' f hM' => ⟨rfl, ⟨N, fs, sl, bd, P, r, bb, hw, hc, RM_s (fr_mo f (by decide)) hm⟩, _, hM', ?_⟩)
    · rcases z with z | z
      · exact (no_ix (by decide) z ed hd).elim
      · exact (z q k o).elim
    · have e1 : d' = d := nI_one (by omega) (by omega) ed ed'
      rw [e1, kpO_one hw.1 o' o]
      exact hS
theorem r_make {cy : Nat → ClassId} {σ τ : St} {u' : SU} {X : Nat → Sf} {N : Ne} {fs sl : Nat → Bool} {bd : Nat → Nat} {P : Pr} {r : Ru} {bb : Bool} {a b c v : Int32} (hw : RW N bd P r) (hc : RC σ N fs sl bd P r bb) (hm : RM τ N fs sl bd P r bb) (hM : MSh τ X) (hP : makeP cy X a b c v u') : w_X12_make τ a b c (SRS cy σ u' v) := by
  have rep : ∀ τ', fr [31, 32, 33, 34, 35] [(0, 0)] τ τ' → REP σ τ' := fun τ' f => ⟨N, fs, sl, bd, P, r, bb, hw, hc, RM_s (fr_mo f (by decide)) hm⟩
  have rep0 : ∀ τ', fr0 τ τ' → REP σ τ' := fun τ' f => ⟨N, fs, sl, bd, P, r, bb, hw, hc, RM_0 f hm⟩
  have le60 : ∀ x : Int32, x < 0 → x ≤ 60 := fun x h => Int32.le_trans (Int32.le_of_lt h) (by decide)
  have n60 : ∀ n : Nat, n ≤ 60 → (nI n : Int32) ≤ 60 := fun n h => (nI_leI (a := n) (b := 60) (by omega) (by decide)).mpr h
  rcases hP with ⟨rfl, z, hS⟩ | ⟨rfl, ⟨d, ed, hd⟩, hb, hlt, hS⟩ | ⟨rfl, d, q, n, ed, hd, eb, hq, ec, hn, hS⟩
  · refine m_make hM (fun _ τ' f => ⟨rfl, rep0 τ' f, X, MSh_ag (fr_ag f (by decide)) hM, hS⟩) (fun d ed hd hb hlt => ?_) (fun d q n ed hd eb hq ec hn => ?_)
    · rcases z with z | z | z
      · exact (no_ix (by decide) z ed hd).elim
      · exact (hb.elim z.1 z.2).elim
      · exact (z (le60 _ hlt)).elim
    · rcases z with z | z | z
      · exact (no_ix (by decide) z ed hd).elim
      · rcases hq with rfl | rfl
        · exact (z.1 eb).elim
        · exact (z.2 eb).elim
      · exact (z (by rw [ec]; exact n60 n hn)).elim
  · refine m_make hM (fun z => ?_) (fun _ _ _ _ _ τ' f => ⟨rfl, rep0 τ' f, X, MSh_ag (fr_ag f (by decide)) hM, hS⟩) (fun d q n ed hd eb hq ec hn => ?_)
    · rcases z with z | z | z
      · exact (no_ix (by decide) z ed hd).elim
      · exact (hb.elim z.1 z.2).elim
      · exact (z (le60 _ hlt)).elim
    · rw [ec] at hlt
      exact (nI_pos (by omega) hlt).elim
  · refine m_make hM (fun z => ?_) (fun d ed hd hb hlt => ?_) (fun d' q' n' ed' hd' eb' hq' ec' hn' τ' f hM' => ⟨rfl, rep τ' f, _, hM', ?_⟩)
    · rcases z with z | z | z
      · exact (no_ix (by decide) z ed hd).elim
      · rcases hq with rfl | rfl
        · exact (z.1 eb).elim
        · exact (z.2 eb).elim
      · exact (z (by rw [ec]; exact n60 n hn)).elim
    · rw [ec] at hlt
      exact (nI_pos (by omega) hlt).elim
    · have e1 : d' = d := nI_one (by omega) (by omega) ed ed'
      have e2 : q' = q := nI_one (by omega) (by omega) eb eb'
      have e3 : n' = n := nI_one (by omega) (by omega) ec ec'
      rw [e1, e2, e3]; exact hS
theorem r_weight {cy : Nat → ClassId} {σ τ : St} {u' : SU} {X : Nat → Sf} {N : Ne} {fs sl : Nat → Bool} {bd : Nat → Nat} {P : Pr} {r : Ru} {bb : Bool} {a v : Int32} (hw : RW N bd P r) (hc : RC σ N fs sl bd P r bb) (hm : RM τ N fs sl bd P r bb) (hM : MSh τ X) (hP : weighP cy X a v u') : w_X12_weight τ a (SRS cy σ u' v) := by
  have rep0 : ∀ τ', fr0 τ τ' → REP σ τ' := fun τ' f => ⟨N, fs, sl, bd, P, r, bb, hw, hc, RM_0 f hm⟩
  obtain ⟨hS, hP⟩ := hP
  rcases hP with ⟨rfl, z⟩ | ⟨d, ed, hd, ev⟩
  · exact m_weight hM (fun _ τ' f => ⟨rfl, rep0 τ' f, X, MSh_ag (fr_ag f (by decide)) hM, hS⟩) (fun d ed hd => (no_ix (by decide) z ed hd).elim)
  · refine m_weight hM (fun z => (no_ix (by decide) z ed hd).elim) (fun d' ed' hd' τ' f => ⟨?_, rep0 τ' f, X, MSh_ag (fr_ag f (by decide)) hM, hS⟩)
    have e1 : d' = d := nI_one (by omega) (by omega) ed ed'
    rw [e1]; exact ev
theorem r_copy {cy : Nat → ClassId} {σ τ : St} {u' : SU} {X : Nat → Sf} {N : Ne} {fs sl : Nat → Bool} {bd : Nat → Nat} {P : Pr} {r : Ru} {bb : Bool} {a1 a2 a3 a4 a5 v : Int32} (hw : RW N bd P r) (hc : RC σ N fs sl bd P r bb) (hm : RM τ N fs sl bd P r bb) (hM : MSh τ X) (hP : copyP cy X a1 a2 a3 a4 a5 v u') : w_X12_copy τ a1 a2 a3 a4 a5 (SRS cy σ u' v) := by
  have rep : ∀ τ', fr [31, 32, 33, 34, 35, 36] [(0, 0)] τ τ' → REP σ τ' := fun τ' f => ⟨N, fs, sl, bd, P, r, bb, hw, hc, RM_s f hm⟩
  have rep0 : ∀ τ', fr0 τ τ' → REP σ τ' := fun τ' f => ⟨N, fs, sl, bd, P, r, bb, hw, hc, RM_0 f hm⟩
  rcases hP with ⟨rfl, z, hS⟩ | ⟨d, e, ed, hd, ee, he, hP⟩
  · have no : ∀ d e, a1 = nI d → d < 8 → a3 = nI e → e < 8 → False := fun d e ed hd ee he => z.elim (fun z => no_ix (by decide) z ed hd) (fun z => no_ix (by decide) z ee he)
    exact m_copy hM (fun _ τ' f => ⟨rfl, rep0 τ' f, X, MSh_ag (fr_ag f (by decide)) hM, hS⟩) (fun d e ed hd ee he => (no d e ed hd ee he).elim) (fun d e ed hd ee he => (no d e ed hd ee he).elim) (fun d e ed hd ee he => (no d e ed hd ee he).elim) (fun d e _ _ _ ed hd ee he => (no d e ed hd ee he).elim)
  have yes : (ixI a1 8 = none ∨ ixI a3 8 = none) → False := fun z => z.elim (fun z => no_ix (by decide) z ed hd) (fun z => no_ix (by decide) z ee he)
  have one : ∀ d' e', a1 = nI d' → d' < 8 → a3 = nI e' → e' < 8 → d' = d ∧ e' = e := fun d' e' ed' hd' ee' he' => ⟨nI_one (by omega) (by omega) ed ed', nI_one (by omega) (by omega) ee ee'⟩
  rcases hP with ⟨rfl, z, hS⟩ | ⟨rfl, z1, z2, z3, hS⟩ | ⟨rfl, z1, z2, z3, hS⟩ | ⟨rfl, i0, j0, n0, z1, z2, o1, o2, hS⟩
  · refine m_copy hM (fun z => (yes z).elim) (fun d' e' ed' hd' ee' he' _ τ' f => ⟨rfl, rep0 τ' f, X, MSh_ag (fr_ag f (by decide)) hM, hS⟩) (fun d' e' ed' hd' ee' he' n1 n2 => ?_) (fun d' e' ed' hd' ee' he' n1 n2 => ?_) (fun d' e' _ _ _ ed' hd' ee' he' n1 n2 => ?_)
    all_goals
      obtain ⟨rfl, rfl⟩ := one d' e' ed' hd' ee' he'
      omega
  · refine m_copy hM (fun z => (yes z).elim) (fun d' e' ed' hd' ee' he' n1 => ?_) (fun d' e' ed' hd' ee' he' _ _ _ τ' f => ⟨rfl, rep0 τ' f, X, MSh_ag (fr_ag f (by decide)) hM, hS⟩) (fun d' e' ed' hd' ee' he' n1 n2 => ?_) (fun d' e' _ _ _ ed' hd' ee' he' n1 n2 => ?_)
    all_goals
      obtain ⟨rfl, rfl⟩ := one d' e' ed' hd' ee' he'
      omega
  · refine m_copy hM (fun z => (yes z).elim) (fun d' e' ed' hd' ee' he' n1 => ?_) (fun d' e' ed' hd' ee' he' n1 n2 n3 => ?_) (fun d' e' ed' hd' ee' he' _ _ _ τ' f => ⟨rfl, rep0 τ' f, X, MSh_ag (fr_ag f (by decide)) hM, hS⟩) (fun d' e' i0 j0 n0 ed' hd' ee' he' n1 n2 o1 o2 => ?_)
    · obtain ⟨rfl, rfl⟩ := one d' e' ed' hd' ee' he'
      omega
    · obtain ⟨rfl, rfl⟩ := one d' e' ed' hd' ee' he'
      omega
    · obtain ⟨rfl, rfl⟩ := one d' e' ed' hd' ee' he'
      exact (z3.elim (fun z => z _ _ o1) (fun z => z _ _ o2)).elim
  · refine m_copy hM (fun z => (yes z).elim) (fun d' e' ed' hd' ee' he' n1 => ?_) (fun d' e' ed' hd' ee' he' n1 n2 n3 => ?_) (fun d' e' ed' hd' ee' he' n1 n2 n3 => ?_) (fun d' e' i1 j1 n1 ed' hd' ee' he' _ _ o1' o2' τ' f hM' => ⟨rfl, rep τ' f, _, hM', ?_⟩)
    · obtain ⟨rfl, rfl⟩ := one d' e' ed' hd' ee' he'
      omega
    · obtain ⟨rfl, rfl⟩ := one d' e' ed' hd' ee' he'
      omega
    · obtain ⟨rfl, rfl⟩ := one d' e' ed' hd' ee' he'
      exact (n3.elim (fun z => z _ _ o1) (fun z => z _ _ o2)).elim
    · obtain ⟨rfl, rfl⟩ := one d' e' ed' hd' ee' he'
      have k1 := (hM d' hd').1.1
      have k2 := (hM e' he').1.1
      have a1 := o1.2.2
      have a2 := o2.2.2
      have a3 := o1'.2.2
      have a4 := o2'.2.2
      have q1 : i1 = i0 := nI_one (by omega) (by omega) o1.1 o1'.1
      have q2 : j1 = j0 := nI_one (by omega) (by omega) o2.1 o2'.1
      have q3 : n1 = n0 := nI_one (by omega) (by omega) o1.2.1 o1'.2.1
      rw [q1, q2, q3]; exact hS
