/-! TO FOLLOW, on both sides -/
/-- j steps back -/
def upw (w : Wk) (k : Nat) : Nat → Nat
  | 0 => k
  | j + 1 => sq_f (wk_i w (upw w k j))
/-- the run by the moments that lead to state k, d of them -/
noncomputable def fol (N : Ne) (fs : Nat → Bool) (w : Wk) (k : Nat) : Nat → Ru
  | 0 => run0 N fs
  | d + 1 => runS N (fol N fs w k d) (sq_c (wk_i w (upw w k (sq_d (wk_i w k) - (d + 1))))) (sq_i (wk_i w (upw w k (sq_d (wk_i w k) - (d + 1))))) (sq_o (wk_i w (upw w k (sq_d (wk_i w k) - (d + 1)))))
theorem up_lt {N : Ne} {bd : Nat → Nat} {fs : Nat → Bool} {w : Wk} (h : WW N bd fs w) {k : Nat} (hk : k < wk_s w) : ∀ j, j ≤ sq_d (wk_i w k) → upw w k j < wk_s w ∧ sq_d (wk_i w (upw w k j)) = sq_d (wk_i w k) - j
  | 0, _ => ⟨hk, rfl⟩
  | j + 1, hj => by
    obtain ⟨i1, i2⟩ := up_lt h hk j (by omega)
    have n0 : 0 < upw w k j := Nat.pos_of_ne_zero (fun e => by
      have : sq_d (wk_i w (upw w k j)) = 0 := by rw [e, h.2.2.2.1]
      omega)
    have o := h.2.2.1 _ i1 n0
    refine ⟨Nat.lt_trans o.1 i1, ?_⟩
    have := o.2.2.2.2.2.1
    show sq_d (wk_i w (sq_f (wk_i w (upw w k j)))) = _
    omega
theorem up_pos {N : Ne} {bd : Nat → Nat} {fs : Nat → Bool} {w : Wk} (h : WW N bd fs w) {k : Nat} (hk : k < wk_s w) {j : Nat} (hj : j < sq_d (wk_i w k)) : 0 < upw w k j := Nat.pos_of_ne_zero (fun e => by
  obtain ⟨i1, i2⟩ := up_lt h hk j (by omega)
  have : sq_d (wk_i w (upw w k j)) = 0 := by rw [e, h.2.2.2.1]
  omega)
theorem up_0 {N : Ne} {bd : Nat → Nat} {fs : Nat → Bool} {w : Wk} (h : WW N bd fs w) {k : Nat} (hk : k < wk_s w) (hz : sq_d (wk_i w k) = 0) : k = 0 := by
  rcases Nat.eq_zero_or_pos k with e | e
  · exact e
  · have := (h.2.2.1 k hk e).2.2.2.2.2.1
    omega
theorem dg_thn {bd : Nat → Nat} {set : Nat} {t u : Nat → Nat} (h : ∀ i, i < 16 → dg bd t i = dg bd u i) : ∀ i, i < 16 → dg bd (thn set t) i = dg bd (thn set u) i := by
  intro i hi
  have e := h i hi
  unfold dg at e ⊢
  by_cases z : bd i = 0
  · rw [if_pos z, if_pos z]
  · rw [if_neg z, if_neg z] at e
    rw [if_neg z, if_neg z]
    unfold thn
    rw [e]
theorem can_dg {bd : Nat → Nat} {set : Nat} {t u : Nat → Nat} (h : ∀ i, i < 16 → dg bd t i = dg bd u i) (hc : canB bd set t) : canB bd set u := by
  intro i hi
  rcases Classical.em (bd i = 0) with z | z
  · exact Or.inl z
  · right
    have e := dg_thn (set := set) h i hi
    unfold dg at e
    rw [if_neg z, if_neg z] at e
    rw [← e]
    exact (hc i hi).resolve_left z
theorem WR_run0 {N : Ne} {fs : Nat → Bool} : WR N (run0 N fs) := ⟨by show 0 ≤ 60; decide, fun i _ => pas_fz N fs, fun k _ => Nat.le_refl _, fun c hc => Bool.noConfusion hc⟩
theorem WR_runS {N : Ne} {r : Ru} (h : WR N r) (hl : r.1 < 60) (set inp ots : Nat) : WR N (runS N r set inp ots) := by
  obtain ⟨h1, h2, h3, h4⟩ := h
  refine ⟨hl, fun i hi => ?_, fun k hk => ?_, fun c hc => eit_lt hc⟩
  · have hi : i ≤ r.1 + 1 := hi
    show pas N (fu r.2.1 (r.1 + 1) _ i)
    by_cases z : i = r.1 + 1
    · rw [z, fu_s]; exact pas_bhd (h2 r.1 (Nat.le_refl _)) _ _ _
    · rw [fu_n _ _ z]; exact h2 i (by omega)
  · show thn set r.2.2.2.1 k ≤ r.1 + 1
    have := h3 k hk
    unfold thn
    split
    · omega
    · split <;> omega
theorem TB_run0 {N : Ne} {fs : Nat → Bool} {bd : Nat → Nat} : TB bd (run0 N fs).2.2.2.1 := fun i _ => Or.inr (Nat.zero_le _)
/-- the run as it goes, beside the states -/
theorem fol_ok {N : Ne} {bd : Nat → Nat} {fs : Nat → Bool} {w : Wk} (h : WW N bd fs w) {k : Nat} (hk : k < wk_s w) (h60 : sq_d (wk_i w k) ≤ 60) : ∀ d, d ≤ sq_d (wk_i w k) → (fol N fs w k d).1 = d ∧ (fol N fs w k d).2.1 d = sq_v (wk_i w (upw w k (sq_d (wk_i w k) - d))) ∧ (∀ i, i < 16 → dg bd (fol N fs w k d).2.2.2.1 i = dg bd (sq_t (wk_i w (upw w k (sq_d (wk_i w k) - d)))) i) ∧ TB bd (fol N fs w k d).2.2.2.1 ∧ WR N (fol N fs w k d) ∧ (∀ i, i < d → (fol N fs w k d).2.2.1 i < 16)
  | 0, _ => by
    obtain ⟨i1, i2⟩ := up_lt h hk (sq_d (wk_i w k)) (Nat.le_refl _)
    have e0 := up_0 h i1 (by omega)
    rw [Nat.sub_zero, e0, h.2.2.2.1]
    exact ⟨rfl, rfl, fun _ _ => rfl, TB_run0, WR_run0, fun i hi => absurd hi (Nat.not_lt_zero i)⟩
  | d + 1, hd => by
    obtain ⟨j1, j2, j3, j4, j5, j6⟩ := fol_ok h hk h60 d (by omega)
    have e : sq_d (wk_i w k) - d = sq_d (wk_i w k) - (d + 1) + 1 := by omega
    obtain ⟨i1, i2⟩ := up_lt h hk (sq_d (wk_i w k) - (d + 1)) (by omega)
    have n0 := up_pos h hk (j := sq_d (wk_i w k) - (d + 1)) (by omega)
    obtain ⟨o1, o2, o3, o4, o5, o6, o7, o8, o9⟩ := h.2.2.1 _ i1 n0
    have ef : upw w k (sq_d (wk_i w k) - d) = sq_f (wk_i w (upw w k (sq_d (wk_i w k) - (d + 1)))) := by rw [e]; rfl
    rw [ef] at j2 j3
    rw [fol]
    generalize upw w k (sq_d (wk_i w k) - (d + 1)) = a at *
    have can : canB bd (sq_c (wk_i w a)) (fol N fs w k d).2.2.2.1 := can_dg (fun i hi => (j3 i hi).symm) o9
    refine ⟨?_, ?_, fun i hi => ?_, thn_TB can, WR_runS j5 (by omega) _ _ _, fun i hi => ?_⟩
    · show (fol N fs w k d).1 + 1 = d + 1
      rw [j1]
    · show fu (fol N fs w k d).2.1 ((fol N fs w k d).1 + 1) (bhd N ((fol N fs w k d).2.1 (fol N fs w k d).1) _ _ _) (d + 1) = _
      rw [j1, fu_s, j2, o7]
    · show dg bd (thn (sq_c (wk_i w a)) (fol N fs w k d).2.2.2.1) i = _
      rw [dg_thn j3 i hi, o8]
      unfold dg
      by_cases z : bd i = 0
      · rw [if_pos z, if_pos z]
      · rw [if_neg z, if_neg z]
    · show fu (fol N fs w k d).2.2.1 (fol N fs w k d).1 (sq_c (wk_i w a)) i < 16
      rw [j1]
      by_cases z : i = d
      · rw [z, fu_s]; exact o3
      · rw [fu_n _ _ z]; exact j6 i (by omega)
theorem m_follow {σ : St} {N : Ne} {bd : Nat → Nat} {fs : Nat → Bool} {w : Wk} {a : Int32} {post : Int32 → St → Prop} (hN : NM σ N) (hW : WN N) (hF : MF σ N fs) (hS : MWs σ N w) (h250 : wk_s w ≤ 250) (hWW : 0 < wk_s w → WW N bd fs w) (h1 : ixI a (wk_s w) = none → ∀ σ', fr0 σ σ' → post (-1) σ') (h2 : ∀ k, a = nI k → k < wk_s w → 60 < sq_d (wk_i w k) → ∀ σ', fr0 σ σ' → post (-3) σ')
    (h3 : ∀ k, a = nI k → k < wk_s w → sq_d (wk_i w k) ≤ 60 → ∀ σ', frG σ σ' → MRu σ' N bd (fol N fs w k (sq_d (wk_i w k))) → post (nI (sq_d (wk_i w k))) σ') : w_X12_follow σ a post := by
  unfold w_X12_follow
  refine nm_of ?_
  have f0 := fr0_up σ
  generalize upI σ 0 0 0 = σ1 at f0
  have hN1 := NM_ag (fr_ag f0 (by decide)) hN
  have hS1 := MWs_ag (fr_ag f0 (by decide)) hS
  refine m_isState hS1 h250 (fun g => br_1 rfl (h1 g σ1 f0)) (fun k ek hk => br_0 (by decide) ?_)
  have WWw := hWW (by omega)
  have dk := (WWw.2.1 k hk).2
  refine rd_of k ek (by omega) (by decide) ?_
  rw [(hS1.2 k hk).2.2.2.2.2.2]
  refine br_le (sq_d (wk_i w k)) 60 rfl rfl (by omega) (by omega) (fun l60 => ?_) (fun g60 => h2 k ek hk g60 σ1 f0)
  refine m_begin (bd := bd) hN1 hW (MF_ag (fr_ag f0 (by decide)) hF) (fun σ8 f8 R8 => jn_at ?_)
  have F8 : frG σ σ8 := fr_tr (fr_mo f0 (by decide)) (fr_mo f8 (by decide))
  refine lpE2_inv (I := fun y12 σ13 => ∃ d, d ≤ sq_d (wk_i w k) ∧ y12 = nI (d + 1) ∧ frG σ σ13 ∧ MRu σ13 N bd (fol N fs w k d)) (μ := fun y12 _ => sq_d (wk_i w k) + 1 - y12.toNatClampNeg) ?_ 1 σ8 ⟨0, Nat.zero_le _, rfl, F8, R8⟩
  clear R8 F8 f8 σ8
  rintro rec y12 σ13 ⟨d, hd, rfl, f13, R13⟩ hrec
  have hS13 := MWs_ag (fr_ag f13 (by decide)) hS
  unfold w_X12_follow_L35
  refine rd_of k ek (by omega) (by decide) ?_
  rw [(hS13.2 k hk).2.2.2.2.2.2]
  refine br_lt (sq_d (wk_i w k)) (d + 1) rfl rfl (by omega) (by omega) (fun q => rd_of k ek (by omega) (by decide) ?_) (fun q => ?_)
  · rw [(hS13.2 k hk).2.2.2.2.2.2]
    refine h3 k ek hk l60 σ13 f13 ?_
    rw [show sq_d (wk_i w k) = d by omega]; exact R13
  refine jn_1 (fun y18 => y18 = nI (upw w k (sq_d (wk_i w k) - (d + 1)))) (fun J hJ => ?_) ?_
  · refine lpE1_inv (I := fun y25 => ∃ j, j ≤ sq_d (wk_i w k) - (d + 1) ∧ y25 = nI (upw w k j)) (μ := fun y25 => y25.toNatClampNeg) ?_ a ⟨0, Nat.zero_le _, ek⟩
    rintro rec2 y25 ⟨j, hj, rfl⟩ hrec2
    obtain ⟨i1, i2⟩ := up_lt WWw hk j (by omega)
    have hu := hS13.2 _ i1
    unfold w_X12_follow_L47
    refine rd_of (upw w k j) rfl (by omega) (by decide) ?_
    rw [hu.2.2.2.2.2.2, i2]
    refine br_le (sq_d (wk_i w k) - j) (d + 1) rfl rfl (by omega) (by omega) (fun z => hJ _ (by rw [show sq_d (wk_i w k) - (d + 1) = j by omega])) (fun z => ?_)
    have p := up_pos WWw hk (j := j) (by omega)
    have o := (WWw.2.2.1 _ i1 p).1
    refine rd_of (upw w k j) rfl (by omega) (by decide) ?_
    rw [hu.2.2.1, if_neg (by omega)]
    refine hrec2 _ ⟨j + 1, by omega, rfl⟩ ?_
    rw [cl_nI (by omega), cl_nI (by omega)]
    exact o
  rintro y18 rfl
  obtain ⟨i1, i2⟩ := up_lt WWw hk (sq_d (wk_i w k) - (d + 1)) (by omega)
  have hu := hS13.2 _ i1
  refine rd_of _ rfl (by omega) (by decide) (rd_of _ rfl (by omega) (by decide) (rd_of _ rfl (by omega) (by decide) ?_))
  refine m_go (NM_ag (fr_ag f13 (by decide)) hN) hW R13 (by rw [(fol_ok WWw hk l60 d hd).1]; omega) hu.2.2.2.1 hu.2.2.2.2.1 hu.2.2.2.2.2.1 (fun σ23 f23 R23 => nm_of (hrec _ _ ⟨d + 1, by omega, nI_1 _, fr_tr f13 f23, ?_⟩ ?_))
  · rw [fol]; exact R23
  · rw [nI_1, cl_nI (by omega), cl_nI (by omega)]; omega
abbrev frO (σ σ' : St) : Prop := fr [23, 24, 32] [(4, 1), (4, 2), (4, 3), (4, 4), (4, 5), (4, 6), (5, 3), (5, 4), (5, 5)] σ σ'
theorem c_follow {σ : St} {N : Ne} {bd : Nat → Nat} {fs : Nat → Bool} {w : Wk} {a : Int32} {post : Int32 → St → Prop} (hN : CN σ N) (hW : WN N) (hF : CF σ N fs) (hB : CB σ bd) (hWB : WB bd) (hS : CWs σ N w) (hb : CWb σ w) (h250 : wk_s w ≤ 250) (hWW : 0 < wk_s w → WW N bd fs w) (h1 : ixI a (wk_s w) = none → post (-1) σ) (h2 : ∀ k, a = nI k → k < wk_s w → 60 < sq_d (wk_i w k) → post (-3) σ)
    (h3 : ∀ k, a = nI k → k < wk_s w → sq_d (wk_i w k) ≤ 60 → ∀ σ', frO σ σ' → CRu σ' N bd (fol N fs w k (sq_d (wk_i w k))) → post (nI (sq_d (wk_i w k))) σ') : w_X11_follow σ a post := by
  unfold w_X11_follow
  refine c_hasState hS h250 (fun g => br_1 rfl (h1 g)) (fun k ek hk => br_0 (by decide) ?_)
  have WWw := hWW (by omega)
  have dk := (WWw.2.1 k hk).2
  refine rd_of k ek (by omega) (by decide) ?_
  rw [(hS.2 k hk).2.2]
  refine br_le (sq_d (wk_i w k)) 60 rfl rfl (by omega) (by omega) (fun l60 => ?_) (fun g60 => h2 k ek hk g60)
  refine c_begin (bd := bd) hF (fun σ7 f7 R7 => ?_)
  have F7 : frO σ σ7 := fr_mo f7 (by decide)
  have hS7 := CWs_ag (fr_ag F7 (by decide)) hS
  unfold w_X9_lead
  refine rd_of k ek (by omega) (by decide) ?_
  rw [(hS7.2 k hk).2.2]
  refine nm_of (jn_1 (fun σ4 => frO σ σ4 ∧ CRu σ4 N bd (run0 N fs) ∧ ∀ i, i < sq_d (wk_i w k) → σ4.1 32 i = nI (upw w k (sq_d (wk_i w k) - (i + 1)))) (fun J hJ => ?_) ?_)
  · refine lpE3_inv (I := fun y19 y20 σ21 => ∃ j, j ≤ sq_d (wk_i w k) ∧ y20 = nI (sq_d (wk_i w k) - j) - 1 ∧ y19 = (if j = 0 then nI k else if j ≤ sq_d (wk_i w k) then nI (upw w k j) else 0) ∧ frO σ σ21 ∧ CRu σ21 N bd (run0 N fs) ∧ ∀ i, i < sq_d (wk_i w k) → sq_d (wk_i w k) - j ≤ i → σ21.1 32 i = nI (upw w k (sq_d (wk_i w k) - (i + 1)))) (μ := fun _ y20 _ => (y20 + 1).toNatClampNeg) ?_ a _ σ7 ⟨0, Nat.zero_le _, by rw [Nat.sub_zero], by rw [if_pos rfl]; exact ek, F7, R7, fun i hi z => absurd z (by omega)⟩
    rintro rec y19 y20 σ21 ⟨j, hj, rfl, hy, f21, R21, n21⟩ hrec
    have ey : y19 = nI (upw w k j) := by
      rw [hy]
      by_cases z : j = 0
      · rw [if_pos z, z]; rfl
      · rw [if_neg z, if_pos hj]
    unfold w_X9_lead_L15
    by_cases z : j = sq_d (wk_i w k)
    · refine br_1 ?_ (hJ _ ⟨f21, R21, fun i hi => n21 i hi (by omega)⟩)
      rw [z, Nat.sub_self]; decide
    · have en : nI (sq_d (wk_i w k) - j) - 1 = nI (sq_d (wk_i w k) - (j + 1)) := by rw [show (1 : Int32) = nI 1 from rfl, pk_sub (by omega)]; congr 1
      obtain ⟨i1, i2⟩ := up_lt WWw hk j hj
      have p := up_pos WWw hk (j := j) (by omega)
      rw [en]
      refine br_0 (nI_pos (by omega)) (wr_at (sq_d (wk_i w k) - (j + 1)) rfl (by omega) (by decide) (fun σ24 t24 => ?_))
      have f24 : frO σ σ24 := by rw [t24]; exact fr_stepI f21 _ _ _ (by simp)
      have hb24 := CWb_ag (fr_ag f24 (by decide)) hb
      refine rd_of (5 * upw w k j) (by rw [ey, show (5 : Int32) = nI 5 from rfl, pk_mul, Nat.mul_comm]) (by omega) (by decide) ?_
      rw [(hb24 _ i1).1, if_neg (by omega)]
      have r24 : fr [32] [] σ21 σ24 := by rw [t24]; exact fr_I σ21 _ _ _ (by simp)
      refine nm_as (nI (sq_d (wk_i w k) - (j + 1)) - 1) ?_ (hrec _ _ _ ⟨j + 1, by omega, rfl, ?_, f24, CR_ag (fr_ag r24 (by decide)) R21, fun i hi hi2 => ?_⟩ ?_)
      · rw [Int32.sub_eq_add_neg]
      · rw [if_neg (by omega), if_pos (by omega)]; rfl
      · rw [t24, upI_get]
        by_cases y : i = sq_d (wk_i w k) - (j + 1)
        · rw [if_pos ⟨rfl, y⟩, ey, show sq_d (wk_i w k) - (i + 1) = j by omega]
        · rw [if_neg (fun u => y u.2)]; exact n21 i hi (by omega)
      · have s1 : ∀ n : Nat, nI n - 1 + 1 = nI n := fun n => by rw [Int32.sub_eq_add_neg, Int32.add_assoc, show (-1 : Int32) + 1 = 0 from by decide, Int32.add_zero]
        rw [s1, s1, cl_nI (by omega), cl_nI (by omega)]
        omega
  rintro σ4 ⟨f4, R4, n4⟩
  refine jn_at ?_
  refine lpE2_inv (I := fun y7 σ8 => ∃ d, d ≤ sq_d (wk_i w k) ∧ y7 = nI d ∧ frO σ σ8 ∧ (∀ i, i < sq_d (wk_i w k) → σ8.1 32 i = nI (upw w k (sq_d (wk_i w k) - (i + 1)))) ∧ CRu σ8 N bd (fol N fs w k d)) (μ := fun y7 _ => sq_d (wk_i w k) - y7.toNatClampNeg) ?_ 0 σ4 ⟨0, Nat.zero_le _, rfl, f4, n4, R4⟩
  clear R4 f4 n4 hS7 F7 R7 f7 σ4
  rintro rec y7 σ8 ⟨d, hd, rfl, f8, n8, R8⟩ hrec
  obtain ⟨j1, j2, j3, j4, j5, j6⟩ := fol_ok WWw hk l60 d hd
  unfold w_X9_lead_L49
  refine br_le (sq_d (wk_i w k)) d rfl rfl (by omega) (by omega) (fun q => ?_) (fun q => ?_)
  · have ed : sq_d (wk_i w k) = d := by omega
    have := h3 k ek hk l60 σ8 f8 (by rw [ed]; exact R8)
    show post (σ8.1 5 3) σ8
    rw [R8.1, j1, ← ed]; exact this
  obtain ⟨i1, i2⟩ := up_lt WWw hk (sq_d (wk_i w k) - (d + 1)) (by omega)
  have p := up_pos WWw hk (j := sq_d (wk_i w k) - (d + 1)) (by omega)
  obtain ⟨o1, o2, o3, o4, o5, o6, o7, o8, o9⟩ := WWw.2.2.1 _ i1 p
  have ef : upw w k (sq_d (wk_i w k) - d) = sq_f (wk_i w (upw w k (sq_d (wk_i w k) - (d + 1)))) := by rw [show sq_d (wk_i w k) - d = sq_d (wk_i w k) - (d + 1) + 1 by omega]; rfl
  rw [ef] at j3
  have can : canB bd (sq_c (wk_i w (upw w k (sq_d (wk_i w k) - (d + 1))))) (fol N fs w k d).2.2.2.1 := can_dg (fun i hi => (j3 i hi).symm) o9
  have hb8 := CWb_ag (fr_ag f8 (by decide)) hb _ i1
  refine rd_of d rfl (by omega) (by decide) ?_
  rw [n8 d q]
  have m5 : ∀ e : Nat, nI (5 * upw w k (sq_d (wk_i w k) - (d + 1))) + nI e = nI (5 * upw w k (sq_d (wk_i w k) - (d + 1)) + e) := fun e => nI_add _ e
  refine nm_as (nI (5 * upw w k (sq_d (wk_i w k) - (d + 1)))) (by rw [show (5 : Int32) = nI 5 from rfl, pk_mul, Nat.mul_comm]) ?_
  refine rd_of _ (m5 1) (by omega) (by decide) (rd_of _ (m5 2) (by omega) (by decide) (rd_of _ (m5 3) (by omega) (by decide) ?_))
  refine c_go (CN_ag (fr_ag f8 (by decide)) hN) hW (CB_ag (fr_ag f8 (by decide)) hB) hWB R8 j4 (by omega) hb8.2.1 hb8.2.2.1 (by omega) hb8.2.2.2 (by omega) (fun n => absurd can n) (fun _ n => by omega) (fun _ _ σ17 f17 R17 => nm_of (hrec _ _ ⟨d + 1, by omega, nI_1 d, fr_tr f8 (fr_mo f17 (by decide)), fun i hi => ?_, ?_⟩ ?_))
  · have a17 : ag [32] [] σ8 σ17 := fr_ag f17 (by decide)
    rw [(a17 32 i (by simp)).1]; exact n8 i hi
  · rw [fol]; exact R17
  · rw [nI_1, cl_nI (by omega), cl_nI (by omega)]; omega
