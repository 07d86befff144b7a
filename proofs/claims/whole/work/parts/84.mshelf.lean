/-! SHELVES (the reference) -/
def shk (x : Sf) : Prop := x.2.2.2.1 ≤ 60 ∧ (x.1 = 0 ∨ x.1 = 1 ∨ x.1 = 3 ∨ x.1 = 4)
def MSh (σ : St) (H : Nat → Sf) : Prop := ∀ d, d < 8 → shk (H d) ∧ σ.1 31 d = nI (H d).1 ∧ σ.1 32 d = nI (H d).2.2.2.1 ∧ (∀ j, j < (H d).2.2.2.1 → σ.1 35 (60 * d + j) = (H d).2.2.2.2 j) ∧ ((H d).1 = 1 → σ.1 33 d = (H d).2.1 ∧ σ.1 34 d = (H d).2.2.1)
theorem MSh_ag {σ σ' : St} {H : Nat → Sf} (h : ag [31, 32, 33, 34, 35] [] σ σ') (hS : MSh σ H) : MSh σ' H := by
  intro d hd
  obtain ⟨h1, h2, h3, h4, h5⟩ := hS d hd
  refine ⟨h1, ?_, ?_, fun j hj => ?_, fun z => ?_⟩
  · rw [(h 31 d (by simp)).1]; exact h2
  · rw [(h 32 d (by simp)).1]; exact h3
  · rw [(h 35 _ (by simp)).1]; exact h4 j hj
  · rw [(h 33 d (by simp)).1, (h 34 d (by simp)).1]; exact h5 z
/-- what holds behind a change of shelf d -/
theorem MSh_up {σ σ' : St} {H : Nat → Sf} {d : Nat} {x : Sf} (hS : MSh σ H) (hd : d < 8) (hk : shk x) (o : ∀ K j, K = 31 ∨ K = 32 ∨ K = 33 ∨ K = 34 → j ≠ d → σ'.1 K j = σ.1 K j) (o35 : ∀ j, (j < 60 * d ∨ 60 * d + 60 ≤ j) → σ'.1 35 j = σ.1 35 j) (n31 : σ'.1 31 d = nI x.1) (n32 : σ'.1 32 d = nI x.2.2.2.1) (n35 : ∀ j, j < x.2.2.2.1 → σ'.1 35 (60 * d + j) = x.2.2.2.2 j) (n33 : x.1 = 1 → σ'.1 33 d = x.2.1 ∧ σ'.1 34 d = x.2.2.1) : MSh σ' (fu H d x) := by
  intro e he
  by_cases z : e = d
  · subst z
    rw [fu_s]
    exact ⟨hk, n31, n32, n35, n33⟩
  · rw [fu_n _ _ z]
    obtain ⟨h1, h2, h3, h4, h5⟩ := hS e he
    have := h1.1
    refine ⟨h1, ?_, ?_, fun j hj => ?_, fun y => ?_⟩
    · rw [o 31 e (by simp) z]; exact h2
    · rw [o 32 e (by simp) z]; exact h3
    · rw [o35 _ (by omega)]; exact h4 j hj
    · rw [o 33 e (by simp) z, o 34 e (by simp) z]; exact h5 y
theorem m_isShelf {a : Int32} {post : Int32 → Prop} (h1 : ixI a 8 = none → post 0) (h2 : ∀ d, a = nI d → d < 8 → post 1) : w_X12_isShelf a post := by
  unfold w_X12_isShelf
  rcases ix1 (a := a) (n := 8) (by decide) with z | ⟨d, ed, hd, -⟩
  · refine br_2 (fun _ => h1 z) (fun g => ?_)
    rcases ixI_none (by decide) z with y | y
    · exact absurd y g
    · exact br_1 y (h1 z)
  · refine br_0 (by rw [ed]; exact nI_pos (by omega)) (br_0 (by rw [ed]; exact fun y => absurd ((nI_leI (a := 8) (by decide) (by omega)).mp y) (by omega)) (h2 d ed hd))
/-- the weight of a cell, its failure -/
def wgt (N : Ne) (k : Nat) : Nat := if nk N k = 4 then 3 * (k + 1 + 10) else if nk N k < 4 then k + 1 + 10 else if nk N k = 5 then k + 1 + 100 else k + 1 + 105 + nx N k
def flr (N : Ne) (k : Nat) : Int32 := if 4 < nk N k then nI (nc N k) else -15
def kpS (N : Ne) (r : Ru) (q k : Nat) : Sf := if q = 0 then (0, 0, 0, 0, fun _ => 0) else if q = 1 then (1, nI (wgt N k), flr N k, 0, fun _ => 0) else if q = 3 then (3, 0, 0, nn N, fun j => bI (EV N (r.2.1 r.1) j)) else (4, 0, 0, r.1, fun j => nI (r.2.2.1 j))
theorem shk_kp {N : Ne} {r : Ru} {q k : Nat} (hW : WN N) (hR : r.1 ≤ 60) : shk (kpS N r q k) := by
  have := hW.1
  unfold kpS
  split
  · exact ⟨Nat.zero_le _, Or.inl rfl⟩
  · split
    · exact ⟨Nat.zero_le _, Or.inr (Or.inl rfl)⟩
    · split
      · exact ⟨by show nn N ≤ 60; omega, Or.inr (Or.inr (Or.inl rfl))⟩
      · exact ⟨hR, Or.inr (Or.inr (Or.inr rfl))⟩
/-- what may be kept -/
def kpO (N : Ne) (b c : Int32) (q k : Nat) : Prop := b = nI q ∧ (q = 0 ∨ (q = 1 ∧ c = nI k ∧ k < nn N) ∨ q = 3 ∨ q = 4)
theorem m_keep {σ : St} {N : Ne} {bd : Nat → Nat} {r : Ru} {H : Nat → Sf} {a b c : Int32} {post : Int32 → St → Prop} (hN : NM σ N) (hW : WN N) (hR : MRu σ N bd r) (hR60 : r.1 ≤ 60) (hS : MSh σ H)
    (h1 : ixI a 8 = none ∨ (∀ q k, ¬ kpO N b c q k) → ∀ σ', fr0 σ σ' → post (-1) σ')
    (h2 : ∀ d q k, a = nI d → d < 8 → kpO N b c q k → ∀ σ', fr [31, 32, 33, 34, 35] [(0, 0)] σ σ' → MSh σ' (fu H d (kpS N r q k)) → post 0 σ') : w_X12_keep σ a b c post := by
  have h24 := hW.1
  unfold w_X12_keep
  refine nm_of ?_
  have f0 := fr0_up σ
  generalize upI σ 0 0 0 = σ1 at f0
  have hN1 := NM_ag (fr_ag f0 (by decide)) hN
  have hR1 := MR_ag (fr_ag f0 (by decide)) hR
  have hS1 := MSh_ag (fr_ag f0 (by decide)) hS
  refine m_isShelf (fun z => jn_at (jn_at (br_1 rfl (br_1 rfl (h1 (Or.inl z) σ1 f0))))) (fun d ed hd => ?_)
  refine jn_1 (fun y5 => (y5 = 0 ∧ ∀ q k, ¬ kpO N b c q k) ∨ (y5 = 1 ∧ ∃ q k, kpO N b c q k)) (fun J hJ => ?_) ?_
  · refine jn_at (br_0 (by decide) (jn_at ?_))
    have good : ∀ q k, kpO N b c q k → J 1 := fun q k o => hJ _ (Or.inr ⟨rfl, q, k, o⟩)
    refine br_2 (fun e => good 0 0 ⟨e, Or.inl rfl⟩) (fun n0 => ?_)
    refine jn_0 (b = 1 → ixI c (nn N) = none) (fun K hK => ?_) (fun hn => ?_)
    · refine br_2 (fun e => m_isCell hN1.1 hW (fun g => br_1 rfl (hK (fun _ => g))) (fun k ek hk => br_0 (by decide) (good 1 k ⟨e, Or.inr (Or.inl ⟨rfl, ek, hk⟩)⟩))) (fun e => hK (fun y => absurd y e))
    · refine br_2 (fun e => good 3 0 ⟨e, Or.inr (Or.inr (Or.inl rfl))⟩) (fun n3 => br_2 (fun e => good 4 0 ⟨e, Or.inr (Or.inr (Or.inr rfl))⟩) (fun n4 => hJ _ (Or.inl ⟨rfl, fun q k o => ?_⟩)))
      obtain ⟨e, o⟩ := o
      rcases o with rfl | ⟨rfl, ek, hk⟩ | rfl | rfl
      · exact n0 e
      · have := hn e
        rw [ek, ixI_nI (by omega) hk] at this; cases this
      · exact n3 e
      · exact n4 e
  rintro y5 (⟨rfl, hno⟩ | ⟨rfl, q, k, o⟩)
  · exact br_1 rfl (h1 (Or.inr hno) σ1 f0)
  have fin := h2 d q k ed hd o
  obtain ⟨eb, oq⟩ := o
  have q4 : q ≤ 4 := by omega
  refine br_0 (by decide) (wr_at d ed hd (by decide) (fun σ7 t7 => ?_))
  refine jn_1 (fun y9 => y9 = nI (kpS N r q k).2.2.2.1) (fun J hJ => ?_) ?_
  · refine br_eq q 3 eb rfl (by omega) (by omega) (fun e => hJ _ ?_) (fun n3 => br_eq q 4 eb rfl (by omega) (by omega) (fun e => hJ _ ?_) (fun n4 => hJ _ ?_))
    · rw [t7, upI_get, if_neg (by omega), hN1.1]; unfold kpS; rw [if_neg (by omega), if_neg (by omega), if_pos e]
    · rw [t7, upI_get, if_neg (by omega), hR1.1]; unfold kpS; rw [if_neg (by omega), if_neg (by omega), if_neg n3]
    · unfold kpS
      rcases oq with e | ⟨e, -⟩ | e | e
      · rw [if_pos e]; rfl
      · rw [if_neg (by omega), if_pos e]; rfl
      · exact absurd e n3
      · exact absurd e n4
  rintro y9 rfl
  refine wr_at d ed hd (by decide) (fun σ10 t10 => ?_)
  have g10 : ∀ K j, σ10.1 K j = if K = 32 ∧ j = d then nI (kpS N r q k).2.2.2.1 else if K = 31 ∧ j = d then b else σ1.1 K j := fun K j => by rw [t10, upI_get, t7, upI_get]
  have f10 : fr [31, 32, 33, 34, 35] [] σ1 σ10 := by rw [t10, t7]; exact fr_stepI (fr_I σ1 _ _ _ (by simp)) _ _ _ (by simp)
  clear t7 t10
  have hN10 := NM_ag (fr_ag f10 (by decide)) hN1
  refine jn_1 (fun σ12 => fr [31, 32, 33, 34, 35] [] σ1 σ12 ∧ (∀ K j, K = 31 ∨ K = 32 ∨ K = 35 ∨ K = 12 ∨ K = 13 ∨ K = 0 → σ12.1 K j = σ10.1 K j) ∧ (∀ K j, K = 33 ∨ K = 34 → j ≠ d → σ12.1 K j = σ1.1 K j) ∧ (q = 1 → σ12.1 33 d = nI (wgt N k) ∧ σ12.1 34 d = flr N k)) (fun J hJ => ?_) ?_
  · refine br_eq q 1 eb rfl (by omega) (by omega) (fun e => ?_) (fun n1 => hJ _ ⟨f10, fun _ _ _ => rfl, fun K j hK hj => by rw [g10, if_neg (by omega), if_neg (by omega)], fun e => absurd e n1⟩)
    obtain ⟨ek, hk⟩ : c = nI k ∧ k < nn N := by
      rcases oq with z | ⟨-, z⟩ | z | z
      · omega
      · exact z
      · omega
      · omega
    have k6 := hW.2.1 k hk
    refine nm_as (nI (k + 1)) (by rw [ek, nI_1]) (rd_of k ek (by omega) (by decide) ?_)
    rw [hN10.2.2.1 k hk]
    refine jn_1 (fun y33 => y33 = nI (wgt N k)) (fun J2 hJ2 => ?_) ?_
    · refine br_eq (nk N k) 4 rfl rfl (by omega) (by omega) (fun z => hJ2 _ ?_) (fun n4 => rd_of k ek (by omega) (by decide) ?_)
      · unfold wgt; rw [if_pos z, show (10 : Int32) = nI 10 from rfl, nI_add, show (3 : Int32) = nI 3 from rfl, pk_mul]
      rw [hN10.2.2.1 k hk]
      refine br_le 4 (nk N k) rfl rfl (by omega) (by omega) (fun z => rd_of k ek (by omega) (by decide) ?_) (fun z => hJ2 _ ?_)
      · rw [hN10.2.2.1 k hk]
        refine br_eq (nk N k) 5 rfl rfl (by omega) (by omega) (fun z5 => hJ2 _ ?_) (fun n5 => rd_of k ek (by omega) (by decide) (hJ2 _ ?_))
        · unfold wgt; rw [if_neg n4, if_neg (by omega), if_pos z5, show (100 : Int32) = nI 100 from rfl, nI_add]
        · rw [hN10.2.2.2.2.1 k hk, if_neg n5]; unfold wgt; rw [if_neg n4, if_neg (by omega), if_neg n5, show (105 : Int32) = nI 105 from rfl, nI_add, nI_add]
      · unfold wgt; rw [if_neg n4, if_pos z, show (10 : Int32) = nI 10 from rfl, nI_add]
    rintro y33 rfl
    refine wr_at d ed hd (by decide) (fun σ34 t34 => rd_of k ek (by omega) (by decide) ?_)
    have k1 : σ34.1 1 k = nI (nk N k) := by rw [t34, upI_get, if_neg (by omega)]; exact hN10.2.2.1 k hk
    have k2 : σ34.1 2 k = if 4 < nk N k then nI (nc N k) else -2 := by rw [t34, upI_get, if_neg (by omega)]; exact hN10.2.2.2.1 k hk
    rw [k1]
    refine jn_1 (fun y37 => y37 = flr N k) (fun J2 hJ2 => ?_) ?_
    · refine br_le (nk N k) 4 rfl rfl (by omega) (by omega) (fun z => hJ2 _ ?_) (fun z => rd_of k ek (by omega) (by decide) (hJ2 _ ?_))
      · unfold flr; rw [if_neg (by omega)]
      · rw [k2, if_pos z]; unfold flr; rw [if_pos z]
    rintro y37 rfl
    refine wr_at d ed hd (by decide) (fun σ38 t38 => hJ _ ⟨?_, fun K j hK => ?_, fun K j hK hj => ?_, fun _ => ⟨?_, ?_⟩⟩)
    · rw [t38, t34]; exact fr_stepI (fr_stepI f10 _ _ _ (by simp)) _ _ _ (by simp)
    · rw [t38, upI_get, if_neg (by omega), t34, upI_get, if_neg (by omega)]
    · rw [t38, upI_get, if_neg (by omega), t34, upI_get, if_neg (by omega), g10, if_neg (by omega), if_neg (by omega)]
    · rw [t38, upI_get, if_neg (by omega), t34, upI_get, if_pos ⟨rfl, rfl⟩]
    · rw [t38, upI_get, if_pos ⟨rfl, rfl⟩]
  rintro σ12 ⟨f12, e12, o12, n12⟩
  have sz := (shk_kp (N := N) (r := r) (q := q) (k := k) hW hR60).1
  have n32 : σ12.1 32 d = nI (kpS N r q k).2.2.2.1 := by rw [e12 32 d (by simp), g10, if_pos ⟨rfl, rfl⟩]
  have n31 : σ12.1 31 d = b := by rw [e12 31 d (by simp), g10, if_neg (by omega), if_pos ⟨rfl, rfl⟩]
  have base : ∀ K j, K = 12 ∨ K = 13 ∨ K = 0 → σ12.1 K j = σ1.1 K j := fun K j hK => by rw [e12 K j (by omega), g10, if_neg (by omega), if_neg (by omega)]
  refine jn_at ?_
  refine lpE2_inv (I := fun y15 σ16 => ∃ i, i ≤ (kpS N r q k).2.2.2.1 ∧ y15 = nI i ∧ fr [35] [] σ12 σ16 ∧ (∀ j, (j < 60 * d ∨ 60 * d + 60 ≤ j) → σ16.1 35 j = σ12.1 35 j) ∧ ∀ j, j < i → σ16.1 35 (60 * d + j) = (kpS N r q k).2.2.2.2 j) (μ := fun y15 _ => (kpS N r q k).2.2.2.1 - y15.toNatClampNeg) ?_ 0 σ12 ⟨0, Nat.zero_le _, rfl, fr_rf, fun _ _ => rfl, fun j hj => absurd hj (Nat.not_lt_zero j)⟩
  rintro rec y15 σ16 ⟨i, hi, rfl, f16, o16, n16⟩ hrec
  have a16 : ag [12, 13, 31, 32, 33, 34] [(0, 15)] σ12 σ16 := fr_ag f16 (by decide)
  unfold w_X12_keep_L205
  refine rd_of d ed hd (by decide) ?_
  rw [(a16 32 d (by simp)).1, n32]
  refine br_le (kpS N r q k).2.2.2.1 i rfl rfl (by omega) (by omega) (fun z => ?_) (fun z => ?_)
  · refine fin σ16 (fr_tr (fr_mo f0 (by decide)) (fr_tr (fr_mo f12 (by decide)) (fr_mo f16 (by decide)))) (MSh_up hS hd (shk_kp hW hR60) (fun K j hK hj => ?_) (fun j hj => ?_) ?_ ?_ (fun j hj => n16 j (by omega)) (fun e1 => ?_))
    · have a0 : ag [31, 32, 33, 34] [] σ σ1 := fr_ag f0 (by decide)
      rw [← (a0 K j (by rcases hK with rfl | rfl | rfl | rfl <;> simp)).1, (a16 K j (by rcases hK with rfl | rfl | rfl | rfl <;> simp)).1]
      rcases hK with rfl | rfl | rfl | rfl
      · rw [e12 31 j (by simp), g10, if_neg (by omega), if_neg (by omega)]
      · rw [e12 32 j (by simp), g10, if_neg (by omega), if_neg (by omega)]
      · exact o12 33 j (by simp) hj
      · exact o12 34 j (by simp) hj
    · have a0 : ag [35] [] σ σ1 := fr_ag f0 (by decide)
      rw [o16 j hj, e12 35 j (by simp), g10, if_neg (by omega), if_neg (by omega), (a0 35 j (by simp)).1]
    · rw [(a16 31 d (by simp)).1, n31, eb]
      unfold kpS
      rcases oq with e | ⟨e, -⟩ | e | e
      · rw [if_pos e, e]
      · rw [if_neg (by omega), if_pos e, e]
      · rw [if_neg (by omega), if_neg (by omega), if_pos e, e]
      · rw [if_neg (by omega), if_neg (by omega), if_neg (by omega), e]
    · rw [(a16 32 d (by simp)).1, n32]
    · have q1 : q = 1 := by
        unfold kpS at e1
        rcases oq with e | ⟨e, -⟩ | e | e
        · rw [if_pos e] at e1; exact absurd e1 (by decide)
        · exact e
        · rw [if_neg (by omega), if_neg (by omega), if_pos e] at e1; exact absurd e1 (show ¬ 3 = 1 by decide)
        · rw [if_neg (by omega), if_neg (by omega), if_neg (by omega)] at e1; exact absurd e1 (show ¬ 4 = 1 by decide)
      rw [(a16 33 d (by simp)).1, (a16 34 d (by simp)).1]
      have := n12 q1
      unfold kpS
      rw [if_neg (by omega), if_pos q1]
      exact this
  refine jn_1 (fun y21 => y21 = (kpS N r q k).2.2.2.2 i) (fun J hJ => ?_) ?_
  · have zq : q = 3 ∨ q = 4 := by
      rcases oq with e | ⟨e, -⟩ | e | e
      · unfold kpS at z; rw [if_pos e] at z; exact absurd z (Nat.not_lt_zero i)
      · unfold kpS at z; rw [if_neg (by omega), if_pos e] at z; exact absurd z (Nat.not_lt_zero i)
      · exact Or.inl e
      · exact Or.inr e
    refine br_eq q 3 eb rfl (by omega) (by omega) (fun e => ?_) (fun n3 => ?_)
    · refine rd_of r.1 (by rw [(a16 0 15 (by simp)).1, base 0 15 (by simp)]; exact hR1.1) (by omega) (by decide) ?_
      have zn : i < nn N := by unfold kpS at z; rw [if_neg (by omega), if_neg (by omega), if_pos e] at z; exact z
      refine w_bitOf_of i rfl (by omega) (hJ _ ?_)
      rw [(a16 12 _ (by simp)).1, base 12 _ (by simp), hR1.2.1 r.1 (Nat.le_refl _) i]
      unfold kpS; rw [if_neg (by omega), if_neg (by omega), if_pos e]
    · have zn : i < r.1 := by unfold kpS at z; rw [if_neg (by omega), if_neg (by omega), if_neg n3] at z; exact z
      refine rd_of i rfl (by omega) (by decide) (hJ _ ?_)
      rw [(a16 13 _ (by simp)).1, base 13 _ (by simp), hR1.2.2.1 i zn]
      unfold kpS; rw [if_neg (by omega), if_neg (by omega), if_neg n3]
  rintro y21 rfl
  refine wr_at (60 * d + i) (by rw [ed, show (60 : Int32) = nI 60 from rfl, pk_mul, nI_add]) (by omega) (by decide) (fun σ22 t22 => nm_of (hrec _ _ ⟨i + 1, z, nI_1 i, by rw [t22]; exact fr_stepI f16 _ _ _ (by simp), fun j hj => ?_, fun j hj => ?_⟩ (by rw [nI_1, cl_nI (by omega), cl_nI (by omega)]; omega)))
  · rw [t22, upI_get, if_neg (by omega)]; exact o16 j hj
  · rw [t22, upI_get]
    by_cases y : j = i
    · rw [if_pos ⟨rfl, by rw [y]⟩, y]
    · rw [if_neg (by omega)]; exact n16 j (by omega)
theorem m_make {σ : St} {H : Nat → Sf} {a b c : Int32} {post : Int32 → St → Prop} (hS : MSh σ H)
    (h1 : ixI a 8 = none ∨ (b ≠ 3 ∧ b ≠ 4) ∨ ¬ c ≤ 60 → ∀ σ', fr0 σ σ' → post (-1) σ')
    (h2 : ∀ d, a = nI d → d < 8 → (b = 3 ∨ b = 4) → c < 0 → ∀ σ', fr0 σ σ' → post (-14) σ')
    (h3 : ∀ d q n, a = nI d → d < 8 → b = nI q → (q = 3 ∨ q = 4) → c = nI n → n ≤ 60 → ∀ σ', fr [31, 32, 33, 34, 35] [(0, 0)] σ σ' → MSh σ' (fu H d (q, 0, 0, n, fun _ => 0)) → post 0 σ') : w_X12_make σ a b c post := by
  unfold w_X12_make
  refine nm_of ?_
  have f0 := fr0_up σ
  generalize upI σ 0 0 0 = σ1 at f0
  refine m_isShelf (fun z => br_1 rfl (h1 (Or.inl z) σ1 f0)) (fun d ed hd => br_0 (by decide) ?_)
  refine w_isIn_i (lo := 3) (hi := 4) (fun n => br_1 rfl (h1 (Or.inr (Or.inl ⟨fun e => n (by rw [e]; decide), fun e => n (by rw [e]; decide)⟩)) σ1 f0)) (fun y => br_0 (by decide) ?_)
  obtain ⟨q, eq, hq⟩ : ∃ q, b = nI q ∧ (q = 3 ∨ q = 4) := by
    have b0 : ¬ b < 0 := fun z => (fa_of_lt (fa_trans z (by decide : (0 : Int32) ≤ 3))).2.1 y.1
    obtain ⟨q, hq, e⟩ := nI_of b0
    rw [e] at y
    have y1 := (nI_leI (a := 3) (by decide) hq).mp y.1
    have y2 := (nI_leI (b := 4) hq (by decide)).mp y.2
    exact ⟨q, e, by omega⟩
  have b34 : b = 3 ∨ b = 4 := by
    rcases hq with e | e
    · exact Or.inl (by rw [eq, e]; rfl)
    · exact Or.inr (by rw [eq, e]; rfl)
  refine br_2 (fun c60 => br_2 (fun c0 => ?_) (fun c0 => h2 d ed hd b34 (fa_of_nle c0) σ1 f0)) (fun c60 => h1 (Or.inr (Or.inr c60)) σ1 f0)
  obtain ⟨n, hn, en⟩ := nI_of (x := c) (fun z => (fa_of_lt z).2.1 c0)
  have n60 : n ≤ 60 := by rw [en] at c60; exact (nI_leI (b := 60) hn (by decide)).mp c60
  refine wr_at d ed hd (by decide) (fun σ10 t10 => wr_at d ed hd (by decide) (fun σ11 t11 => ?_))
  have g11 : ∀ K j, σ11.1 K j = if K = 32 ∧ j = d then c else if K = 31 ∧ j = d then b else σ1.1 K j := fun K j => by rw [t11, upI_get, t10, upI_get]
  have f11 : fr [31, 32, 33, 34, 35] [] σ1 σ11 := by rw [t11, t10]; exact fr_stepI (fr_I σ1 _ _ _ (by simp)) _ _ _ (by simp)
  clear t10 t11
  refine jn_at ?_
  refine lpE2_inv (I := fun y14 σ15 => ∃ i, i ≤ n ∧ y14 = nI i ∧ fr [35] [] σ11 σ15 ∧ (∀ j, (j < 60 * d ∨ 60 * d + 60 ≤ j) → σ15.1 35 j = σ11.1 35 j) ∧ ∀ j, j < i → σ15.1 35 (60 * d + j) = 0) (μ := fun y14 _ => n - y14.toNatClampNeg) ?_ 0 σ11 ⟨0, Nat.zero_le _, rfl, fr_rf, fun _ _ => rfl, fun j hj => absurd hj (Nat.not_lt_zero j)⟩
  rintro rec y14 σ15 ⟨i, hi, rfl, f15, o15, n15⟩ hrec
  have a15 : ag [31, 32, 33, 34] [] σ11 σ15 := fr_ag f15 (by decide)
  have a0 : ag [31, 32, 33, 34, 35] [] σ σ1 := fr_ag f0 (by decide)
  unfold w_X12_make_L58
  refine br_le n i en rfl (by omega) (by omega) (fun z => ?_) (fun z => ?_)
  · refine h3 d q n ed hd eq hq en n60 σ15 (fr_tr (fr_mo f0 (by decide)) (fr_tr (fr_mo f11 (by decide)) (fr_mo f15 (by decide)))) (MSh_up hS hd ⟨n60, by omega⟩ (fun K j hK hj => ?_) (fun j hj => ?_) ?_ ?_ (fun j hj => n15 j (by have : j < n := hj; omega)) (fun e1 => ?_))
    · rw [← (a0 K j (by rcases hK with rfl | rfl | rfl | rfl <;> simp)).1, (a15 K j (by rcases hK with rfl | rfl | rfl | rfl <;> simp)).1, g11, if_neg (by omega), if_neg (by omega)]
    · rw [o15 j hj, g11, if_neg (by omega), if_neg (by omega), (a0 35 j (by simp)).1]
    · rw [(a15 31 d (by simp)).1, g11, if_neg (by omega), if_pos ⟨rfl, rfl⟩]; exact eq
    · rw [(a15 32 d (by simp)).1, g11, if_pos ⟨rfl, rfl⟩]; exact en
    · have : q = 1 := e1
      omega
  refine wr_at (60 * d + i) (by rw [ed, show (60 : Int32) = nI 60 from rfl, pk_mul, nI_add]) (by omega) (by decide) (fun σ18 t18 => nm_of (hrec _ _ ⟨i + 1, z, nI_1 i, by rw [t18]; exact fr_stepI f15 _ _ _ (by simp), fun j hj => ?_, fun j hj => ?_⟩ (by rw [nI_1, cl_nI (by omega), cl_nI (by omega)]; omega)))
  · rw [t18, upI_get, if_neg (by omega)]; exact o15 j hj
  · rw [t18, upI_get]
    by_cases y : j = i
    · rw [if_pos ⟨rfl, by rw [y]⟩]
    · rw [if_neg (by omega)]; exact n15 j (by omega)
/-- element i of a row -/
def elO (x : Sf) (i : Int32) (j : Nat) : Prop := 2 < x.1 ∧ i = nI j ∧ j < x.2.2.2.1
theorem m_element {σ : St} {H : Nat → Sf} {a b : Int32} {post : Int64 → St → Prop} (hS : MSh σ H)
    (h1 : ixI a 8 = none → ∀ σ', fr0 σ σ' → σ'.1 0 0 = 1 → post 0 σ')
    (h2 : ∀ d, a = nI d → d < 8 → (∀ j, ¬ elO (H d) b j) → ∀ σ', fr0 σ σ' → σ'.1 0 0 = 2 → post 0 σ')
    (h3 : ∀ d j, a = nI d → d < 8 → elO (H d) b j → ∀ σ', fr0 σ σ' → σ'.1 0 0 = 0 → post ((H d).2.2.2.2 j).toInt64 σ') : w_X12_element σ a b post := by
  unfold w_X12_element
  have up : ∀ v, fr0 σ (upI σ 0 0 v) ∧ (upI σ 0 0 v).1 0 0 = v := fun v => ⟨fr_I σ 0 0 v (by simp), by rw [upI_get, if_pos ⟨rfl, rfl⟩]⟩
  refine m_isShelf (fun z => jn_at (jn_at (br_1 rfl (m_isShelf (fun _ => jn_at (br_1 rfl (nm_of (br_1 rfl (h1 z _ (up 1).1 (up 1).2))))) (fun d ed hd => ?_))))) (fun d ed hd => ?_)
  · rw [ed, ixI_nI (by decide) hd] at z; cases z
  obtain ⟨⟨s60, st⟩, e31, e32, e35, -⟩ := hS d hd
  have tl : (H d).1 ≤ 4 := by omega
  refine jn_1 (fun y4 => (y4 = 0 ∧ ∀ j, ¬ elO (H d) b j) ∨ (y4 = 1 ∧ ∃ j, elO (H d) b j)) (fun J hJ => ?_) ?_
  · refine jn_0 (∀ j, ¬ elO (H d) b j) (fun K hK => ?_) (fun hn => hJ _ (Or.inl ⟨rfl, hn⟩))
    refine br_0 (by decide) (rd_of d ed hd (by decide) ?_)
    rw [e31]
    refine br_le (H d).1 2 rfl rfl (by omega) (by omega) (fun z => hK (fun j o => by have := o.1; omega)) (fun z => rd_of d ed hd (by decide) ?_)
    rw [e32]
    refine w_isIn_i (lo := 0) (fun n => br_1 rfl (hK (fun j o => n ?_))) (fun y => br_0 (by decide) (hJ _ (Or.inr ⟨rfl, ?_⟩)))
    · rw [o.2.1]
      refine ⟨nI_pos' (by have := o.2.2; omega), ?_⟩
      rw [show (1 : Int32) = nI 1 from rfl, pk_sub (by have := o.2.2; omega)]
      exact nI_le (by have := o.2.2; omega) (by omega)
    · obtain ⟨j, hj, ej⟩ := nI_of (x := b) (fun z => (fa_of_lt z).2.1 y.1)
      refine ⟨j, z, ej, ?_⟩
      rcases Nat.eq_zero_or_pos (H d).2.2.2.1 with s0 | s0
      · rw [s0, ej] at y
        have y2 : nI j ≤ (-1 : Int32) := y.2
        exact absurd (fa_trans (by decide : (-1 : Int32) < 0) (nI_pos' hj)) (fun u => (fa_of_lt u).2.1 y2)
      · rw [ej, show (1 : Int32) = nI 1 from rfl, pk_sub (by omega)] at y
        have := (nI_leI hj (by omega)).mp y.2
        omega
  intro y4 hy4
  refine m_isShelf (fun z => ?_) (fun d' ed' hd' => ?_)
  · rw [ed, ixI_nI (by decide) hd] at z; cases z
  refine jn_at (br_0 (by decide) ?_)
  rcases hy4 with ⟨rfl, hn⟩ | ⟨rfl, j, o⟩
  · exact br_1 rfl (nm_of (br_1 rfl (h2 d ed hd hn _ (up 2).1 (up 2).2)))
  · have jl := o.2.2
    refine br_0 (by decide) (nm_of (br_0 (by decide) (rd_of (60 * d + j) (by rw [ed, o.2.1, show (60 : Int32) = nI 60 from rfl, pk_mul, nI_add]) (by omega) (by decide) ?_)))
    rw [upI_get, if_neg (by omega), e35 j o.2.2]
    exact h3 d j ed hd o _ (up 0).1 (up 0).2
/-- n places from i on -/
def spn (z : Nat) (i n : Int32) (i0 n0 : Nat) : Prop := i = nI i0 ∧ n = nI n0 ∧ i0 + n0 ≤ z
theorem m_hasPlaces {σ : St} {z d : Nat} {a i n : Int32} {post : Int32 → Prop} (ha : a = nI d) (hd : d < 8) (hz : σ.1 32 d = nI z) (z60 : z ≤ 60) (h0 : (∀ i0 n0, ¬ spn z i n i0 n0) → post 0) (h1 : ∀ i0 n0, spn z i n i0 n0 → post 1) : w_X12_hasPlaces σ a i n post := by
  unfold w_X12_hasPlaces
  refine br_2 (fun y => h0 (fun i0 n0 o => ?_)) (fun yn => br_2 (fun y => h0 (fun i0 n0 o => ?_)) (fun yi => ?_))
  · have := o.2.2
    rw [o.2.1] at y; exact nI_pos (by omega) y
  · have := o.2.2
    rw [o.1] at y; exact nI_pos (by omega) y
  obtain ⟨n0, hn, en⟩ := nI_of yn
  obtain ⟨i0, hi, ei⟩ := nI_of yi
  refine rd_of d ha hd (by decide) ?_
  rw [hz]
  refine br_lt z i0 rfl ei (by omega) hi (fun y => h0 (fun i1 n1 o => ?_)) (fun y => rd_of d ha hd (by decide) ?_)
  · have o3 := o.2.2
    have : i0 = i1 := (nI_eq hi (by omega)).mp (by rw [← ei, o.1])
    omega
  rw [hz]
  refine br_lt (z - i0) n0 (by rw [ei, pk_sub y]) en (by omega) hn (fun u => h0 (fun i1 n1 o => ?_)) (fun u => h1 i0 n0 ⟨ei, en, by omega⟩)
  have o3 := o.2.2
  have e1 : i0 = i1 := (nI_eq hi (by omega)).mp (by rw [← ei, o.1])
  have e2 : n0 = n1 := (nI_eq hn (by omega)).mp (by rw [← en, o.2.1])
  omega
/-- n elements from place i0 of x come to place j0 of y -/
def cpS (x y : Sf) (i0 j0 n0 : Nat) : Sf := (y.1, y.2.1, y.2.2.1, y.2.2.2.1, fun j => if j0 ≤ j ∧ j < j0 + n0 then x.2.2.2.2 (i0 + (j - j0)) else y.2.2.2.2 j)
theorem m_copy {σ : St} {H : Nat → Sf} {a1 a2 a3 a4 a5 : Int32} {post : Int32 → St → Prop} (hS : MSh σ H)
    (h1 : ixI a1 8 = none ∨ ixI a3 8 = none → ∀ σ', fr0 σ σ' → post (-1) σ')
    (h2 : ∀ d e, a1 = nI d → d < 8 → a3 = nI e → e < 8 → ((H d).1 = 0 ∨ (H e).1 = 0) → ∀ σ', fr0 σ σ' → post (-11) σ')
    (h3 : ∀ d e, a1 = nI d → d < 8 → a3 = nI e → e < 8 → (H d).1 ≠ 0 → (H e).1 ≠ 0 → ((H d).1 < 3 ∨ (H d).1 ≠ (H e).1) → ∀ σ', fr0 σ σ' → post (-12) σ')
    (h4 : ∀ d e, a1 = nI d → d < 8 → a3 = nI e → e < 8 → 3 ≤ (H d).1 → (H d).1 = (H e).1 → ((∀ i0 n0, ¬ spn (H d).2.2.2.1 a2 a5 i0 n0) ∨ (∀ j0 n0, ¬ spn (H e).2.2.2.1 a4 a5 j0 n0)) → ∀ σ', fr0 σ σ' → post (-13) σ')
    (h5 : ∀ d e i0 j0 n0, a1 = nI d → d < 8 → a3 = nI e → e < 8 → 3 ≤ (H d).1 → (H d).1 = (H e).1 → spn (H d).2.2.2.1 a2 a5 i0 n0 → spn (H e).2.2.2.1 a4 a5 j0 n0 → ∀ σ', fr [31, 32, 33, 34, 35, 36] [(0, 0)] σ σ' → MSh σ' (fu H e (cpS (H d) (H e) i0 j0 n0)) → post a5 σ') : w_X12_copy σ a1 a2 a3 a4 a5 post := by
  unfold w_X12_copy
  refine nm_of ?_
  have f0 := fr0_up σ
  generalize upI σ 0 0 0 = σ1 at f0
  have hS1 := MSh_ag (fr_ag f0 (by decide)) hS
  refine m_isShelf (fun z => br_1 rfl (h1 (Or.inl z) σ1 f0)) (fun d ed hd => br_0 (by decide) ?_)
  refine m_isShelf (fun z => br_1 rfl (h1 (Or.inr z) σ1 f0)) (fun e ee he => br_0 (by decide) ?_)
  obtain ⟨⟨s60, st⟩, d31, d32, d35, -⟩ := hS1 d hd
  obtain ⟨⟨t60, tt⟩, e31, e32, e35, -⟩ := hS1 e he
  refine rd_of d ed hd (by decide) ?_
  rw [d31]
  refine br_eq (H d).1 0 rfl rfl (by omega) (by omega) (fun z => h2 d e ed hd ee he (Or.inl z) σ1 f0) (fun n0 => rd_of e ee he (by decide) ?_)
  rw [e31]
  refine br_eq (H e).1 0 rfl rfl (by omega) (by omega) (fun z => h2 d e ed hd ee he (Or.inr z) σ1 f0) (fun n1 => rd_of d ed hd (by decide) ?_)
  rw [d31]
  refine br_lt (H d).1 3 rfl rfl (by omega) (by omega) (fun z => h3 d e ed hd ee he n0 n1 (Or.inl z) σ1 f0) (fun z3 => rd_of d ed hd (by decide) (rd_of e ee he (by decide) ?_))
  rw [d31, e31]
  refine br_eq (H d).1 (H e).1 rfl rfl (by omega) (by omega) (fun ze => ?_) (fun ze => h3 d e ed hd ee he n0 n1 (Or.inr ze) σ1 f0)
  refine m_hasPlaces ed hd d32 s60 (fun no => br_1 rfl (h4 d e ed hd ee he z3 ze (Or.inl no) σ1 f0)) (fun i0 m0 o1 => br_0 (by decide) ?_)
  refine m_hasPlaces ee he e32 t60 (fun no => br_1 rfl (h4 d e ed hd ee he z3 ze (Or.inr no) σ1 f0)) (fun j0 m1 o2 => br_0 (by decide) ?_)
  have o13 := o1.2.2
  have o23 := o2.2.2
  have em : m1 = m0 := (nI_eq (by omega) (by omega)).mp (by rw [← o2.2.1, o1.2.1])
  subst em
  have i60 : ∀ (x y w : Nat) (X Y : Int32), X = nI x → Y = nI y → (60 : Int32) * X + Y + nI w = nI (60 * x + y + w) := fun x y w X Y hX hY => by rw [hX, hY, show (60 : Int32) = nI 60 from rfl, pk_mul, nI_add, nI_add]
  have a0 : ag [31, 32, 33, 34, 35] [] σ σ1 := fr_ag f0 (by decide)
  refine jn_1 (fun σ24 => fr [36] [] σ1 σ24 ∧ ∀ k, k < m1 → σ24.1 36 k = (H d).2.2.2.2 (i0 + k)) (fun J hJ => ?_) ?_
  · refine lpE2_inv (I := fun y34 σ35 => ∃ k, k ≤ m1 ∧ y34 = nI k ∧ fr [36] [] σ1 σ35 ∧ ∀ j, j < k → σ35.1 36 j = (H d).2.2.2.2 (i0 + j)) (μ := fun y34 _ => m1 - y34.toNatClampNeg) ?_ 0 σ1 ⟨0, Nat.zero_le _, rfl, fr_rf, fun j hj => absurd hj (Nat.not_lt_zero j)⟩
    rintro rec y34 σ35 ⟨k, hk, rfl, f35, n35⟩ hrec
    have a35 : ag [35] [] σ1 σ35 := fr_ag f35 (by decide)
    unfold w_X12_copy_L99
    refine br_le m1 k o1.2.1 rfl (by omega) (by omega) (fun z => hJ _ ⟨f35, fun j hj => n35 j (by omega)⟩) (fun z => ?_)
    refine rd_of (60 * d + i0 + k) (i60 d i0 k _ _ ed o1.1) (by omega) (by decide) ?_
    rw [(a35 35 _ (by simp)).1, show 60 * d + i0 + k = 60 * d + (i0 + k) by omega, d35 (i0 + k) (by omega)]
    refine wr_at k rfl (by omega) (by decide) (fun σ39 t39 => nm_of (hrec _ _ ⟨k + 1, z, nI_1 k, by rw [t39]; exact fr_stepI f35 _ _ _ (by simp), fun j hj => ?_⟩ (by rw [nI_1, cl_nI (by omega), cl_nI (by omega)]; omega)))
    rw [t39, upI_get]
    by_cases y : j = k
    · rw [if_pos ⟨rfl, y⟩, y]
    · rw [if_neg (fun u => y u.2)]; exact n35 j (by omega)
  rintro σ24 ⟨f24, n24⟩
  have a24 : ag [31, 32, 33, 34, 35] [] σ1 σ24 := fr_ag f24 (by decide)
  refine jn_at ?_
  refine lpE2_inv (I := fun y27 σ28 => ∃ k, k ≤ m1 ∧ y27 = nI k ∧ fr [35] [] σ24 σ28 ∧ (∀ j, σ28.1 35 j = if 60 * e + j0 ≤ j ∧ j < 60 * e + j0 + k then (H d).2.2.2.2 (i0 + (j - (60 * e + j0))) else σ24.1 35 j)) (μ := fun y27 _ => m1 - y27.toNatClampNeg) ?_ 0 σ24 ⟨0, Nat.zero_le _, rfl, fr_rf, fun j => by rw [if_neg (by omega)]⟩
  rintro rec y27 σ28 ⟨k, hk, rfl, f28, n28⟩ hrec
  have a28 : ag [31, 32, 33, 34, 36] [] σ24 σ28 := fr_ag f28 (by decide)
  unfold w_X12_copy_L136
  refine br_le m1 k o1.2.1 rfl (by omega) (by omega) (fun z => ?_) (fun z => ?_)
  · have ek : k = m1 := by omega
    subst ek
    have same : ∀ K j, K = 31 ∨ K = 32 ∨ K = 33 ∨ K = 34 → σ28.1 K j = σ.1 K j := fun K j hK => by
      rw [(a28 K j (by rcases hK with rfl | rfl | rfl | rfl <;> simp)).1, (a24 K j (by rcases hK with rfl | rfl | rfl | rfl <;> simp)).1, (a0 K j (by rcases hK with rfl | rfl | rfl | rfl <;> simp)).1]
    have o35 : ∀ j, σ24.1 35 j = σ.1 35 j := fun j => by rw [(a24 35 j (by simp)).1, (a0 35 j (by simp)).1]
    obtain ⟨x1, x2, x3, x4, x5⟩ := hS e he
    refine h5 d e i0 j0 k ed hd ee he z3 ze o1 o2 σ28 (fr_tr (fr_mo f0 (by decide)) (fr_tr (fr_mo f24 (by decide)) (fr_mo f28 (by decide)))) (MSh_up hS he ⟨t60, tt⟩ (fun K j hK _ => same K j hK) (fun j hj => ?_) ?_ ?_ (fun j hj => ?_) (fun y => ?_))
    · rw [n28, if_neg (by omega), o35]
    · rw [same 31 e (by simp)]; exact x2
    · rw [same 32 e (by simp)]; exact x3
    · have hj : j < (H e).2.2.2.1 := hj
      show _ = if j0 ≤ j ∧ j < j0 + k then (H d).2.2.2.2 (i0 + (j - j0)) else (H e).2.2.2.2 j
      rw [n28]
      by_cases y : j0 ≤ j ∧ j < j0 + k
      · rw [if_pos (by omega), if_pos y, show 60 * e + j - (60 * e + j0) = j - j0 by omega]
      · rw [if_neg (by omega), if_neg y, o35]; exact x4 j hj
    · rw [same 33 e (by simp), same 34 e (by simp)]; exact x5 y
  refine rd_of k rfl (by omega) (by decide) ?_
  rw [(a28 36 k (by simp)).1, n24 k z]
  refine wr_at (60 * e + j0 + k) (i60 e j0 k _ _ ee o2.1) (by omega) (by decide) (fun σ32 t32 => nm_of (hrec _ _ ⟨k + 1, z, nI_1 k, by rw [t32]; exact fr_stepI f28 _ _ _ (by simp), fun j => ?_⟩ (by rw [nI_1, cl_nI (by omega), cl_nI (by omega)]; omega)))
  rw [t32, upI_get]
  by_cases y : j = 60 * e + j0 + k
  · rw [if_pos ⟨rfl, y⟩, if_pos (by omega), show j - (60 * e + j0) = k by omega]
  · rw [if_neg (fun u => y u.2), n28]
    by_cases u : 60 * e + j0 ≤ j ∧ j < 60 * e + j0 + k
    · rw [if_pos u, if_pos (by omega)]
    · rw [if_neg u, if_neg (by omega)]
theorem m_weight {σ : St} {H : Nat → Sf} {a : Int32} {post : Int32 → St → Prop} (hS : MSh σ H) (h1 : ixI a 8 = none → ∀ σ', fr0 σ σ' → post (-1) σ') (h2 : ∀ d, a = nI d → d < 8 → ∀ σ', fr0 σ σ' → post (if (H d).1 = 0 then -11 else if (H d).1 = 1 then (H d).2.1 else -12) σ') : w_X12_weight σ a post := by
  unfold w_X12_weight
  refine nm_of ?_
  have f0 := fr0_up σ
  generalize upI σ 0 0 0 = σ1 at f0
  have hS1 := MSh_ag (fr_ag f0 (by decide)) hS
  unfold w_X12_denied
  refine m_isShelf (fun z => br_1 rfl (br_0 (by decide) (h1 z σ1 f0))) (fun d ed hd => br_0 (by decide) (rd_of d ed hd (by decide) ?_))
  obtain ⟨⟨s60, st⟩, d31, -, -, d5⟩ := hS1 d hd
  have hh := h2 d ed hd σ1 f0
  rw [d31]
  refine br_eq (H d).1 0 rfl rfl (by omega) (by omega) (fun z => br_0 (by decide) (by rw [if_pos z] at hh; exact hh)) (fun n0 => rd_of d ed hd (by decide) ?_)
  rw [if_neg n0] at hh
  rw [d31]
  refine br_le (H d).1 1 rfl rfl (by omega) (by omega) (fun z => br_1 (by decide) (rd_of d ed hd (by decide) ?_)) (fun z => br_0 (by decide) (by rw [if_neg (by omega)] at hh; exact hh))
  have e1 : (H d).1 = 1 := by omega
  rw [if_pos e1] at hh
  rw [(d5 e1).1]; exact hh
theorem m_toss {σ : St} {H : Nat → Sf} {a : Int32} {post : Int32 → St → Prop} (hS : MSh σ H) (h1 : ixI a 8 = none → ∀ σ', fr0 σ σ' → post (-1) σ') (h2 : ∀ d, a = nI d → d < 8 → ∀ σ', fr0 σ σ' → post (if (H d).1 = 0 then -11 else if (H d).1 = 1 then (H d).2.2.1 else -12) σ') : w_X12_toss σ a post := by
  unfold w_X12_toss
  refine nm_of ?_
  have f0 := fr0_up σ
  generalize upI σ 0 0 0 = σ1 at f0
  have hS1 := MSh_ag (fr_ag f0 (by decide)) hS
  unfold w_X12_denied
  refine m_isShelf (fun z => br_1 rfl (br_0 (by decide) (h1 z σ1 f0))) (fun d ed hd => br_0 (by decide) (rd_of d ed hd (by decide) ?_))
  obtain ⟨⟨s60, st⟩, d31, -, -, d5⟩ := hS1 d hd
  have hh := h2 d ed hd σ1 f0
  rw [d31]
  refine br_eq (H d).1 0 rfl rfl (by omega) (by omega) (fun z => br_0 (by decide) (by rw [if_pos z] at hh; exact hh)) (fun n0 => rd_of d ed hd (by decide) ?_)
  rw [if_neg n0] at hh
  rw [d31]
  refine br_le (H d).1 1 rfl rfl (by omega) (by omega) (fun z => br_1 (by decide) (rd_of d ed hd (by decide) ?_)) (fun z => br_0 (by decide) (by rw [if_neg (by omega)] at hh; exact hh))
  have e1 : (H d).1 = 1 := by omega
  rw [if_pos e1] at hh
  rw [(d5 e1).2]; exact hh
