/-! THE WALK (the reference): promises, moments, sets -/
def jdT (N : Ne) (P : Pr) (nv : Nat → NV) (vb vn : Nat → Bool) (first : Bool) (f : Int32) (set inp ots to p : Nat) : Nat → NV := fun q => if q < p then jdg N P nv vb vn first f set inp ots to q else nv q
theorem jdT_s {N : Ne} {P : Pr} {nv : Nat → NV} {vb vn : Nat → Bool} {first : Bool} {f : Int32} {set inp ots to p q : Nat} (h : q ≠ p) : jdT N P nv vb vn first f set inp ots to (p + 1) q = jdT N P nv vb vn first f set inp ots to p q := by
  unfold jdT
  by_cases z : q < p
  · rw [if_pos z, if_pos (by omega)]
  · rw [if_neg z, if_neg (by omega)]
theorem jdT_e {N : Ne} {P : Pr} {nv : Nat → NV} {vb vn : Nat → Bool} {first : Bool} {f : Int32} {set inp ots to : Nat} (q : Nat) : jdT N P nv vb vn first f set inp ots to P.1 q = jdg N P nv vb vn first f set inp ots to q := by
  unfold jdT
  by_cases z : q < P.1
  · rw [if_pos z]
  · rw [if_neg z]; unfold jdg; rw [if_neg (fun y => z y.1)]
theorem m_lookAtPromises {σ : St} {N : Ne} {P : Pr} {nv : Nat → NV} {vb vn : Nat → Bool} {first : Bool} {f a1 a2 a3 a4 a5 a6 a7 : Int32} {set inp ots to : Nat} {post : St → Prop} (hN : NM σ N) (hW : WN N) (hP : MP σ P.1 P.2.1 P.2.2.1 P.2.2.2) (hWP : WP N P) (hV : MVn σ nv) (h1 : first = false → ∀ r, r < nn N → 4 < nk N r → bt a1 r = vb r) (h2 : ∀ r, r < nn N → bt a2 r = EV N vn r) (h3 : (0 ≤ a3 ∧ first = false ∧ f = a3) ∨ (¬ 0 ≤ a3 ∧ first = true ∧ f = -2)) (h4 : a4 = nI set) (h5 : a5 = nI inp) (h6 : a6 = nI ots) (h7 : a7 = nI to)
    (h : ∀ σ', fr [27, 28] [] σ σ' → MVn σ' (jdg N P nv vb vn first f set inp ots to) → post σ') : w_X12_lookAtPromises σ a1 a2 a3 a4 a5 a6 a7 post := by
  have h8 := hWP.1
  unfold w_X12_lookAtPromises
  refine jn_at ?_
  refine lpE2_inv (I := fun y3 σ4 => ∃ p, p ≤ P.1 ∧ y3 = nI p ∧ fr [27, 28] [] σ σ4 ∧ MVn σ4 (jdT N P nv vb vn first f set inp ots to p)) (μ := fun y3 _ => P.1 - y3.toNatClampNeg) ?_ 0 σ ⟨0, by omega, rfl, fr_rf, fun p hp => by
    have e : jdT N P nv vb vn first f set inp ots to 0 p = nv p := if_neg (Nat.not_lt_zero p)
    rw [e]; exact hV p hp⟩
  rintro rec y3 σ4 ⟨p, hp, rfl, f4, v4⟩ hrec
  have hN4 := NM_ag (fr_ag f4 (by decide)) hN
  have hP4 := MP_ag (fr_ag f4 (by decide)) hP
  unfold w_X12_lookAtPromises_L3
  refine br_le P.1 p hP4.1 rfl (by omega) (by omega) (fun q => h σ4 f4 (fun r hr => ?_)) (fun q => ?_)
  · rw [← jdT_e r, ← show p = P.1 by omega]; exact v4 r hr
  have dec : P.1 - (nI p + 1).toNatClampNeg < P.1 - (nI p).toNatClampNeg := by rw [nI_1, cl_nI (by omega), cl_nI (by omega)]; omega
  have e0 : jdT N P nv vb vn first f set inp ots to p p = nv p := if_neg (by omega)
  have e1 : jdT N P nv vb vn first f set inp ots to (p + 1) p = jdg N P nv vb vn first f set inp ots to p := if_pos (by omega)
  have same : jdg N P nv vb vn first f set inp ots to p = nv p → rec (nI p + 1) σ4 := fun e => hrec _ _ ⟨p + 1, q, nI_1 p, f4, fun r hr => by
    by_cases z : r = p
    · have := v4 r hr
      rw [z, e0] at this
      rw [z, e1, e]; exact this
    · rw [jdT_s z]; exact v4 r hr⟩ dec
  have vp := (v4 p (by omega)).1
  rw [e0] at vp
  refine rd_of p rfl (by omega) (by decide) ?_
  rw [vp]
  cases tn : (nv p).1 with
  | true => exact br_0 (by decide) (nm_of (same (by unfold jdg; rw [if_neg (fun z => by rw [tn] at z; exact Bool.noConfusion z.2.1)])))
  | false =>
    refine br_1 rfl (jn_1 (fun y11 => y11 = bI first) (fun J hJ => ?_) ?_)
    · rcases h3 with ⟨z, e, -⟩ | ⟨z, e, -⟩
      · exact br_1 z (hJ _ (by rw [e]; rfl))
      · exact br_0 z (hJ _ (by rw [e]; rfl))
    rintro y11 rfl
    refine m_isKept hN4 hW hP4 hWP rfl q h1 h2 rfl ?_
    cases tk : kep N (P.2.1 p) (P.2.2.1 p) (P.2.2.2 p) vb vn first with
    | true => exact br_0 (by decide) (nm_of (same (by unfold jdg; rw [if_neg (fun z => by rw [tk] at z; exact Bool.noConfusion z.2.2)])))
    | false =>
      have ej : jdg N P nv vb vn first f set inp ots to p = (true, f, set, inp, ots, to) := by unfold jdg; rw [if_pos ⟨q, tn, tk⟩]
      refine br_1 rfl (wr_at p rfl (by omega) (by decide) (fun σ16 t16 => ?_))
      refine jn_1 (fun y18 => y18 = f) (fun J hJ => ?_) ?_
      · rcases h3 with ⟨z, -, e⟩ | ⟨z, -, e⟩
        · exact br_1 z (hJ _ e.symm)
        · exact br_0 z (hJ _ e.symm)
      rintro y18 rfl
      have m5 : ∀ d : Nat, (5 : Int32) * nI p + nI d = nI (5 * p + d) := fun d => by rw [show (5 : Int32) = nI 5 from rfl, pk_mul, nI_add]
      refine wr_at (5 * p) (by rw [show (5 : Int32) = nI 5 from rfl, pk_mul]) (by omega) (by decide) (fun σ19 t19 => ?_)
      refine wr_at (5 * p + 1) (m5 1) (by omega) (by decide) (fun σ20 t20 => ?_)
      refine wr_at (5 * p + 2) (m5 2) (by omega) (by decide) (fun σ21 t21 => ?_)
      refine wr_at (5 * p + 3) (m5 3) (by omega) (by decide) (fun σ22 t22 => ?_)
      refine wr_at (5 * p + 4) (m5 4) (by omega) (by decide) (fun σ23 t23 => nm_of (hrec _ _ ⟨p + 1, q, nI_1 p, ?_, fun r hr => ?_⟩ dec))
      · rw [t23, t22, t21, t20, t19, t16]
        exact fr_stepI (fr_stepI (fr_stepI (fr_stepI (fr_stepI (fr_stepI f4 _ _ _ (by simp)) _ _ _ (by simp)) _ _ _ (by simp)) _ _ _ (by simp)) _ _ _ (by simp)) _ _ _ (by simp)
      · have g : ∀ K j, σ23.1 K j = if K = 27 ∧ j = 5 * p + 4 then a7 else if K = 27 ∧ j = 5 * p + 3 then a6 else if K = 27 ∧ j = 5 * p + 2 then a5 else if K = 27 ∧ j = 5 * p + 1 then a4 else if K = 27 ∧ j = 5 * p then y18 else if K = 28 ∧ j = p then vp_nar .boolean 1 else σ4.1 K j := fun K j => by rw [t23, upI_get, t22, upI_get, t21, upI_get, t20, upI_get, t19, upI_get, t16, upI_get]
        by_cases z : r = p
        · rw [z, e1, ej]
          refine ⟨?_, fun _ => ⟨?_, ?_, ?_, ?_, ?_⟩⟩
          · rw [g]; simp [nar_bool]; rfl
          · rw [g]; simp
          · rw [g]; simp; exact h4
          · rw [g]; simp; exact h5
          · rw [g]; simp; exact h6
          · rw [g]; simp; exact h7
        · rw [jdT_s z]
          have o27 : ∀ j, (j < 5 * p ∨ 5 * p + 4 < j) → σ23.1 27 j = σ4.1 27 j := fun j hj => by rw [g, if_neg (by omega), if_neg (by omega), if_neg (by omega), if_neg (by omega), if_neg (by omega), if_neg (by omega)]
          rw [o27 _ (by omega), o27 _ (by omega), o27 _ (by omega), o27 _ (by omega), o27 _ (by omega), g, if_neg (by omega), if_neg (by omega), if_neg (by omega), if_neg (by omega), if_neg (by omega), if_neg (by omega)]
          exact v4 r hr
abbrev frS (σ σ' : St) : Prop := fr [16, 17, 18, 19, 20, 21, 22, 23, 24, 25, 26, 27, 28] [(0, 26), (0, 27), (0, 29), (0, 38)] σ σ'
theorem MW_sp {σ : St} {N : Ne} {w : Wk} (h : MW σ N w) : MW (upI σ 0 26 1) N (spX w) := by
  obtain ⟨⟨c1, c2, c3, c4, c5⟩, hs, hf, hm, hv⟩ := h
  have a : fr [] [(0, 26)] σ (upI σ 0 26 1) := fr_I σ _ _ _ (by simp)
  refine ⟨⟨?_, ?_, ?_, ?_, ?_⟩, MWs_ag (fr_ag a (by decide)) hs, MWf_ag (fr_ag a (by decide)) hf, MWm_ag (fr_ag a (by decide)) hm, MVn_ag (fr_ag a (by decide)) hv⟩
  · rw [upI_get, if_neg (by decide)]; exact c1
  · rw [upI_get, if_pos ⟨rfl, rfl⟩]; rfl
  · rw [upI_get, if_neg (by decide)]; exact c3
  · rw [upI_get, if_neg (by decide)]; exact c4
  · rw [upI_get, if_neg (by decide)]; exact c5
/-- the end of a try: the moment is told, promises are looked at -/
theorem m_tail {σ : St} {N : Ne} {bd : Nat → Nat} {fs : Nat → Bool} {P : Pr} {w : Wk} {k set inp ots to : Nat} {s n : SI} {a1 a2 a3 a4 y9 r2 : Int32} {post : St → Prop} (hN : NM σ N) (hW : WN N) (hP : MP σ P.1 P.2.1 P.2.2.1 P.2.2.2) (hWP : WP N P) (hK : MK σ N (sq_v s) set inp) (ha : at_k N bd fs k s w) (hm : wk_m w < 20000) (hto : to < wk_s w) (h1 : a1 = nI k) (h2 : a2 = nI set) (h3 : a3 = nI inp) (h4 : a4 = nI ots) (h9 : y9 = nI to) (hr : ∀ c, bt r2 c = EV N (sq_v n) c)
    (c25 : σ.1 0 25 = 1) (c26 : σ.1 0 26 = bI (wk_x w)) (c28 : σ.1 0 28 = nI (wk_l w)) (c29 : σ.1 0 29 = nI (wk_m w + 1)) (c38 : σ.1 0 38 = nI (wk_m w)) (hS : MWs σ N w) (hF : MWf σ w) (hM : MWm σ w) (hV : MVn σ (wk_n w))
    (h : ∀ σ', frS σ σ' → MW σ' N (mvA N P k s n set inp ots to w) → post σ') : ck (σ.1 0 38) 20000 (nm (upI σ 24 ((σ.1 0 38)).toNatClampNeg a1) (fun σ11 => ck (σ11.1 0 38) 20000 (nm (upI σ11 25 ((σ11.1 0 38)).toNatClampNeg y9) (fun σ12 => w_X12_turned σ12 a4 (fun r13 => ck (σ12.1 0 38) 20000 (nm (upI σ12 26 ((σ12.1 0 38)).toNatClampNeg r13) (fun σ15 => nm (upI σ15 0 38 ((σ15.1 0 38) + (1 : Int32))) (fun σ16 => rd (σ16.1 16) 250 a1 (fun v17 => w_X12_lookAtPromises σ16 v17 r2 a1 a2 a3 a4 y9 (fun σ19 => post σ19)))))))))) := by
  have h250 := ha.1.1.2.1
  have hk := ha.2.2.1
  have es := ha.2.2.2
  refine wr_at (wk_m w) c38 hm (by decide) (fun σ11 t11 => ?_)
  have q11 : σ11.1 0 38 = nI (wk_m w) := by rw [t11, upI_get, if_neg (by omega)]; exact c38
  refine wr_at (wk_m w) q11 hm (by decide) (fun σ12 t12 => ?_)
  have q12 : σ12.1 0 38 = nI (wk_m w) := by rw [t12, upI_get, if_neg (by omega)]; exact q11
  have f12 : frS σ σ12 := by rw [t12, t11]; exact fr_stepI (fr_I σ _ _ _ (by simp)) _ _ _ (by simp)
  refine m_turned hW (MK_ag (fr_ag f12 (by decide)) hK) h4 ?_
  refine wr_at (wk_m w) q12 hm (by decide) (fun σ15 t15 => nm_of ?_)
  have q15 : σ15.1 0 38 = nI (wk_m w) := by rw [t15, upI_get, if_neg (by omega)]; exact q12
  rw [q15, nI_1]
  generalize t16 : upI σ15 0 38 (nI (wk_m w + 1)) = σ16
  have g : ∀ K j, σ16.1 K j = if K = 0 ∧ j = 38 then nI (wk_m w + 1) else if K = 26 ∧ j = wk_m w then nI (fb_ct ots.testBit (ne_ N (sq_v s) set inp)) else if K = 25 ∧ j = wk_m w then y9 else if K = 24 ∧ j = wk_m w then a1 else σ.1 K j := fun K j => by rw [← t16, upI_get, t15, upI_get, t12, upI_get, t11, upI_get]
  have f16 : fr [24, 25, 26] [(0, 38)] σ σ16 := by
    rw [← t16, t15, t12, t11]
    exact fr_stepI (fr_stepI (fr_stepI (fr_I σ _ _ _ (by simp)) _ _ _ (by simp)) _ _ _ (by simp)) _ _ _ (by simp)
  clear t16 t15 t12 t11 q11 q12 q15 f12
  have hS16 := MWs_ag (fr_ag f16 (by decide)) hS
  obtain ⟨u1, -⟩ := hS16.2 k hk
  rw [es] at u1
  refine rd_of k h1 (by omega) (by decide) ?_
  refine m_lookAtPromises (first := false) (f := nI k) (vb := sq_v s) (vn := sq_v n) (NM_ag (fr_ag f16 (by decide)) hN) hW (MP_ag (fr_ag f16 (by decide)) hP) hWP (MVn_ag (fr_ag f16 (by decide)) hV) (fun _ r hr g4 => by rw [u1 r, EV_bit N _ g4]) (fun r _ => hr r) (Or.inl ⟨by rw [h1]; exact nI_pos' (by omega), rfl, h1.symm⟩) h2 h3 h4 h9 (fun σ' f' v' => ?_)
  refine h σ' (fr_tr (fr_mo f16 (by decide)) (fr_mo f' (by decide))) ⟨⟨?_, ?_, ?_, ?_, ?_⟩, MWs_ag (fr_ag f' (by decide)) hS16, MWf_ag (fr_ag f' (by decide)) (MWf_ag (fr_ag f16 (by decide)) hF), fun m hm' => ?_, v'⟩
  all_goals have a' : ag [24, 25, 26] [(0, 25), (0, 26), (0, 28), (0, 29), (0, 38)] σ16 σ' := fr_ag f' (by decide)
  · rw [(a' 0 25 (by simp)).1, g]; simpa using c25
  · rw [(a' 0 26 (by simp)).1, g]; simp; exact c26
  · rw [(a' 0 28 (by simp)).1, g]; simp; exact c28
  · rw [(a' 0 29 (by simp)).1, g]; simp; exact c29
  · rw [(a' 0 38 (by simp)).1, g]; simp; rfl
  · have hm' : m < wk_m w + 1 := hm'
    rw [(a' 24 m (by simp)).1, (a' 25 m (by simp)).1, (a' 26 m (by simp)).1, g, g, g]
    show _ = nI (fu (wk_w w) (wk_m w) _ m).1 ∧ _ = nI (fu (wk_w w) (wk_m w) _ m).2.1 ∧ _ = nI (fu (wk_w w) (wk_m w) _ m).2.2
    by_cases z : m = wk_m w
    · subst z
      rw [fu_s]
      simp [h1, h9]
    · rw [fu_n _ _ z]
      simp [z]
      exact hM m (by omega)
theorem m_tryMove {σ : St} {N : Ne} {bd : Nat → Nat} {fs : Nat → Bool} {P : Pr} {w : Wk} {k set inp ots : Nat} {s : SI} {a1 a2 a3 a4 : Int32} {post : St → Prop} (hN : NM σ N) (hW : WN N) (hB : MB σ bd) (hbd : ∀ k, k < 16 → bd k ≤ 9) (hP : MP σ P.1 P.2.1 P.2.2.1 P.2.2.2) (hWP : WP N P) (hK : MK σ N (sq_v s) set inp) (hnx : ∀ i, i < 16 → σ.1 29 i = nI (thn set (sq_t s) i)) (ha : at_k N bd fs k s w) (h1 : a1 = nI k) (h2 : a2 = nI set) (h3 : a3 = nI inp) (h4 : a4 = nI ots) (h0 : 0 < set) (h16 : set < 16) (hi : inp < 1024) (ho : ots < 1024) (hc : canB bd set (sq_t s)) (hM : MW σ N w)
    (h : ∀ σ', frS σ σ' → MW σ' N (mvS N bd P k s set inp ots w) → post σ') : w_X12_tryMove σ a1 a2 a3 a4 post := by
  obtain ⟨⟨c25, c26, c28, c29, c38⟩, hS, hF, hMm, hV⟩ := id hM
  have hm := ha.1.1.2.2
  have hs := ha.1.1.2.1
  have hk := ha.2.2.1
  have es := ha.2.2.2
  have hok : ∀ k, k < wk_s w → sok N bd (wk_i w k) := fun k hk => (ha.1.2.1 k hk).1
  have hsok : sok N bd s := by rw [← es]; exact hok k hk
  have le := whr_le N w (nxS N bd k s set inp ots)
  have ll : wk_l w ≤ wk_s w := by rw [ha.2.1.1]; omega
  have fsp : frS σ (upI σ 0 26 1) := fr_I σ _ _ _ (by simp)
  unfold w_X12_tryMove
  unfold mvS at h
  refine br_eq (wk_m w) 20000 c29 rfl (by omega) (by omega) (fun q => ?_) (fun q => ?_)
  · rw [if_pos q] at h
    exact nm_of (h _ fsp (MW_sp hM))
  rw [if_neg q] at h
  refine m_behind hN hW hK h4 (fun r2 hr2 => ?_)
  have tl : ∀ i, i < 16 → thn set (sq_t s) i < 2 ^ 31 := fun i hi => by
    have := sok_lt hbd hsok hi
    unfold thn
    split
    · omega
    · split <;> omega
  have f7 : frS σ (upI σ 0 29 (nI (wk_m w + 1))) := fr_I σ _ _ _ (by simp)
  have fa7 : fr [] [(0, 29)] σ (upI σ 0 29 (nI (wk_m w + 1))) := fr_I σ _ _ _ (by simp)
  refine m_stateOf (n := nxS N bd k s set inp ots) hW hB hbd hS hs hok hnx tl rfl (sok_nx hsok hc).1 hr2 (fun z => ?_) (fun z => ?_)
  · rw [if_neg (by omega)] at h
    refine jn_at (br_0 (by decide) ?_)
    refine br_eq (wk_s w) 250 hS.1 rfl (by omega) (by omega) (fun e => ?_) (fun e => ?_)
    · rw [if_pos e] at h
      exact nm_of (h _ fsp (MW_sp hM))
    rw [if_neg e] at h
    rw [c29, nI_1]
    refine nm_of (jn_at (br_0 (by decide) ?_))
    generalize t7 : upI σ 0 29 (nI (wk_m w + 1)) = σ7 at f7 fa7 ⊢
    have k29 : σ7.1 0 29 = nI (wk_m w + 1) := by rw [← t7, upI_get, if_pos ⟨rfl, rfl⟩]
    have a7 : ag [29] [(0, 25), (0, 26), (0, 28), (0, 38)] σ σ7 := fr_ag fa7 (by decide)
    refine m_addState (w' := adS w (nxS N bd k s set inp ots)) (n := nxS N bd k s set inp ots) (nx0 := thn set (sq_t s)) (MB_ag (fr_ag f7 (by decide)) hB) hbd (MWs_ag (fr_ag fa7 (by decide)) hS) (MWf_ag (fr_ag fa7 (by decide)) hF) (by omega) ll (fun i hi => by rw [(a7 29 i (by simp)).1]; exact hnx i hi) rfl hr2 (by rw [if_neg (by omega)]; exact h1) (fun _ => hk) (by rw [if_neg (by omega)]; show sq_d s + 1 = sq_d (wk_i w k) + 1; rw [es]) h2 h3 h4 rfl (fun j hj => fu_n _ _ (by omega)) (fu_s _ _ _) rfl rfl (fun σ22 f22 s22 ff22 => ?_)
    rw [s22.1]
    refine nm_as (nI (wk_s w)) (by show nI (wk_s w + 1) - 1 = _; exact nI_pred _) ?_
    have a22 : ag [24, 25, 26, 27, 28] [(0, 21), (0, 22), (0, 23), (0, 24), (0, 25), (0, 26), (0, 28), (0, 29), (0, 38)] σ7 σ22 := fr_ag f22 (by decide)
    have fA : frS σ σ22 := fr_tr (fr_mo f7 (by decide)) (fr_mo f22 (by decide))
    refine m_tail (fs := fs) (w := adS w (nxS N bd k s set inp ots)) (s := s) (n := nxS N bd k s set inp ots) (NM_ag (fr_ag fA (by decide)) hN) hW (MP_ag (fr_ag fA (by decide)) hP) hWP (MK_ag (fr_ag fA (by decide)) hK) (at_ad ha (by omega) (by omega) h0 h16 hi ho hc) (by show wk_m w < 20000; omega) (Nat.lt_succ_self _) h1 h2 h3 h4 rfl hr2 ?_ ?_ ?_ ?_ ?_ s22 ff22 (MWm_ag (fr_ag f22 (by decide)) (MWm_ag (fr_ag fa7 (by decide)) hMm)) (MVn_ag (fr_ag f22 (by decide)) (MVn_ag (fr_ag fa7 (by decide)) hV)) (fun σ' f' m' => h σ' (fr_tr fA f') m')
    · rw [(a22 0 25 (by simp)).1, (a7 0 25 (by simp)).1]; exact c25
    · rw [(a22 0 26 (by simp)).1, (a7 0 26 (by simp)).1]; exact c26
    · rw [(a22 0 28 (by simp)).1, (a7 0 28 (by simp)).1]; exact c28
    · rw [(a22 0 29 (by simp)).1]; exact k29
    · rw [(a22 0 38 (by simp)).1, (a7 0 38 (by simp)).1]; exact c38
  · rw [if_pos z] at h
    have p0 : (0 : Int32) ≤ nI (whr N w (nxS N bd k s set inp ots)) := nI_pos' (by omega)
    refine jn_at (br_1 p0 ?_)
    rw [c29, nI_1]
    refine nm_of (jn_at (br_1 p0 ?_))
    generalize t7 : upI σ 0 29 (nI (wk_m w + 1)) = σ7 at f7 fa7 ⊢
    have k29 : σ7.1 0 29 = nI (wk_m w + 1) := by rw [← t7, upI_get, if_pos ⟨rfl, rfl⟩]
    have a7 : ag [29] [(0, 25), (0, 26), (0, 28), (0, 38)] σ σ7 := fr_ag fa7 (by decide)
    refine m_tail (bd := bd) (fs := fs) (w := w) (s := s) (n := nxS N bd k s set inp ots) (NM_ag (fr_ag f7 (by decide)) hN) hW (MP_ag (fr_ag f7 (by decide)) hP) hWP (MK_ag (fr_ag f7 (by decide)) hK) ha (by omega) z h1 h2 h3 h4 rfl hr2 ?_ ?_ ?_ k29 ?_ (MWs_ag (fr_ag fa7 (by decide)) hS) (MWf_ag (fr_ag fa7 (by decide)) hF) (MWm_ag (fr_ag fa7 (by decide)) hMm) (MVn_ag (fr_ag fa7 (by decide)) hV) (fun σ' f' m' => h σ' (fr_tr f7 f') m')
    · rw [(a7 0 25 (by simp)).1]; exact c25
    · rw [(a7 0 26 (by simp)).1]; exact c26
    · rw [(a7 0 28 (by simp)).1]; exact c28
    · rw [(a7 0 38 (by simp)).1]; exact c38
