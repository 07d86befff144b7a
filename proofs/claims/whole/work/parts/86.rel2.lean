/-! BOTH SIDES TOGETHER: the walk, crossings, counts -/
theorem now_ok {N : Ne} {bd : Nat → Nat} {P : Pr} {fs : Nat → Bool} {b : Bool} (hW : WN N) : wk_s (wNow N bd P fs b) ≤ 250 ∧ (0 < wk_s (wNow N bd P fs b) → b = true ∧ WW N bd fs (wNow N bd P fs b) ∧ EX (wNow N bd P fs b) ∧ WL (wNow N bd P fs b) (wk_l (wNow N bd P fs b)) ∧ wk_l (wNow N bd P fs b) ≤ wk_s (wNow N bd P fs b)) ∧ (b = true → 0 < wk_s (wNow N bd P fs b)) ∧ (b = false → wk_s (wNow N bd P fs b) = 0) := by
  have a := all_W (bd := bd) (P := P) (fs := fs) hW
  cases b with
  | false =>
    have e : wNow N bd P fs false = wkE := if_neg (by decide)
    rw [e]
    exact ⟨Nat.zero_le _, fun z => absurd z (Nat.lt_irrefl 0), fun z => Bool.noConfusion z, fun _ => rfl⟩
  | true =>
    have e : wNow N bd P fs true = wAll N bd P fs := if_pos rfl
    rw [e]
    exact ⟨a.1.1.2.1, fun _ => ⟨rfl, a.1, EX_all hW, a.2.1, a.2.2⟩, fun _ => a.1.1.1, fun z => Bool.noConfusion z⟩
theorem r_walk {σ τ : St} (h : REP σ τ) : w_X11_walk σ (fun v σ' => w_X12_walk τ (fun v' τ' => RES τ v v' σ' τ')) := by
  obtain ⟨N, fs, sl, bd, P, r, b, hw, hc, hm⟩ := h
  obtain ⟨hW, hWB, hWP, hWR, hT⟩ := id hw
  obtain ⟨c1, c2, c3, c4, c5, c6, c7, c8⟩ := id hc
  obtain ⟨m1, m2, m3, m4, m5, m6, m7⟩ := id hm
  have e1 : wNow N bd P fs true = wAll N bd P fs := if_pos rfl
  have done : ∀ (σ' τ' : St) (v : Int32), RC σ' N fs sl bd P r true → frY τ τ' → MW τ' N (wAll N bd P fs) → RES τ v v σ' τ' := fun σ' τ' v hc' f' n => ⟨rfl, ⟨N, fs, sl, bd, P, r, true, hw, hc', ⟨NM_ag (fr_ag f' (by decide)) m1, MF_ag (fr_ag f' (by decide)) m2, MS_ag (fr_ag f' (by decide)) m3, MB_ag (fr_ag f' (by decide)) m4, MP_ag (fr_ag f' (by decide)) m5, MR_ag (fr_ag f' (by decide)) m6, by rw [e1]; exact MX_W n⟩⟩, fr_ag f' (by decide)⟩
  have hx : CU σ ∨ CW σ N (wAll N bd P fs) := by
    cases b with
    | false => exact Or.inl (U_CX c7)
    | true => right; rw [e1] at c7; exact W_CX c7
  refine c_walk c1 hW c2 c4 hWB c5 hWP hx (fun z => ?_) (fun z d => ?_) (fun z u σ' f d d7 => ?_)
  · exact m_walk m1 hW m2 m4 hWB.1 m5 hWP (fun _ τ' f' => res0 hw hc hm f') (fun q => by omega)
  · refine m_walk m1 hW m2 m4 hWB.1 m5 hWP (fun q => by omega) (fun _ τ' f' n => done σ τ' _ ?_ f' n)
    have bt : b = true := by
      cases b with
      | true => rfl
      | false =>
        have := (U_CX c7).1
        rw [d.2.1.1] at this
        have s := (all_W (bd := bd) (P := P) (fs := fs) hW).1.1
        exact absurd ((nI_z (by omega)).mp this) (by omega)
    rw [bt] at hc; exact hc
  · refine m_walk m1 hW m2 m4 hWB.1 m5 hWP (fun q => by omega) (fun _ τ' f' n => done σ' τ' _ ?_ f' n)
    exact ⟨CN_ag (fr_ag f (by decide)) c1, CF_ag (fr_ag f (by decide)) c2, CS_ag (fr_ag f (by decide)) c3, CB_ag (fr_ag f (by decide)) c4, CP_ag (fr_ag f (by decide)) c5, CR_ag (fr_ag f (by decide)) c6, by rw [e1]; exact CX_W d, fun _ => Or.inl d7⟩
theorem r_state {σ τ : St} {a a2 : Int32} (h : REP σ τ) : w_X11_state σ a a2 (fun v => w_X12_state τ a a2 (fun v' τ' => RES τ v v' σ τ')) := by
  obtain ⟨N, fs, sl, bd, P, r, b, hw, hc, hm⟩ := h
  have hW := hw.1
  obtain ⟨w250, wok, -, -⟩ := now_ok (bd := bd) (P := P) (fs := fs) (b := b) hW
  have hX := hc.2.2.2.2.2.2.1
  have hY := hm.2.2.2.2.2.2
  have hf : ∀ k, k < wk_s (wNow N bd P fs b) → 0 < k → sq_f (wk_i (wNow N bd P fs b) k) < k := fun k hk h0 => ((wok (by omega)).2.1.2.2.1 k hk h0).1
  refine c_state hX.2.1 hX.2.2.1 hX.2.2.2.1 w250 (fun z => ?_) (fun k q ek hk eq hq v v0 v1 => ?_)
  · refine m_state hm.1 hW hY.2.1 hY.2.2.1 w250 hf (fun _ τ' f' => res0 hw hc hm f') (fun k q ek hk eq hq => ?_)
    rcases z with z | z
    · exact (no_ix (by omega) z ek hk).elim
    · exact (no_ix (by decide) z eq hq).elim
  · refine m_state hm.1 hW hY.2.1 hY.2.2.1 w250 hf (fun z => ?_) (fun k' q' ek' hk' eq' hq' τ' f' u u0 u1 => ?_)
    · rcases z with z | z
      · exact (no_ix (by omega) z ek hk).elim
      · exact (no_ix (by decide) z eq hq).elim
    have e1 := nI_one (by omega) (by omega) ek ek'
    subst e1
    have e2 := nI_one (by omega) (by omega) eq eq'
    subst e2
    have e : v = u := by
      by_cases z : q' = 0
      · exact PM_one (v0 z) (u0 z) (fun _ _ _ => rfl)
      · rw [v1 z, u1 z]
    rw [e]
    exact res0 hw hc hm f'
theorem r_shown {σ τ : St} {a a2 : Int32} (h : REP σ τ) : w_X11_shown σ a a2 (fun v => w_X12_shown τ a a2 (fun v' τ' => RES τ v v' σ τ')) := by
  obtain ⟨N, fs, sl, bd, P, r, b, hw, hc, hm⟩ := h
  have hW := hw.1
  have h24 := hW.1
  obtain ⟨w250, wok, -, -⟩ := now_ok (bd := bd) (P := P) (fs := fs) (b := b) hW
  have hX := hc.2.2.2.2.2.2.1
  have hY := hm.2.2.2.2.2.2
  refine c_shown hc.1 hW hX.2.1 w250 (fun z => ?_) (fun k q ek hk eq hq => ?_)
  · refine m_shown hm.1 hW hY.2.1 w250 (fun _ τ' f' => res0 hw hc hm f') (fun k q ek hk eq hq => ?_)
    rcases z with z | z
    · exact (no_ix (by omega) z ek hk).elim
    · exact (no_ix (by omega) z eq hq).elim
  · refine m_shown hm.1 hW hY.2.1 w250 (fun z => ?_) (fun k' q' ek' hk' eq' hq' τ' f' => ?_)
    · rcases z with z | z
      · exact (no_ix (by omega) z ek hk).elim
      · exact (no_ix (by omega) z eq hq).elim
    rw [nI_one (by omega) (by omega) ek ek', nI_one (by omega) (by omega) eq eq']
    exact res0 hw hc hm f'
theorem r_never {σ τ : St} {a a2 : Int32} (h : REP σ τ) : w_X11_never σ a a2 (fun v => w_X12_never τ a a2 (fun v' τ' => RES τ v v' σ τ')) := by
  obtain ⟨N, fs, sl, bd, P, r, b, hw, hc, hm⟩ := h
  have hW := hw.1
  have h8 := hw.2.2.1.1
  obtain ⟨w250, wok, wt, wf⟩ := now_ok (bd := bd) (P := P) (fs := fs) (b := b) hW
  have hto : ∀ p, (wk_n (wNow N bd P fs b) p).1 = true → (wk_n (wNow N bd P fs b) p).2.2.2.2.2 < 2 ^ 31 := fun p hp => by
    cases b with
    | false =>
      have e : wNow N bd P fs false = wkE := if_neg (by decide)
      rw [e] at hp; exact Bool.noConfusion hp
    | true =>
      have := (wok (wt rfl)).2.1.2.2.2.2.2.2 p hp
      omega
  refine c_never hc.2.2.2.2.1 h8 hc.2.2.2.2.2.2.1 w250 wt wf hto (fun z => ?_) (fun p q ep hp eq hq => ?_)
  · refine m_never hm.2.2.2.2.1 h8 hm.2.2.2.2.2.2 (fun _ τ' f' => res0 hw hc hm f') (fun p q ep hp eq hq => ?_)
    rcases z with z | z
    · exact (no_ix (by omega) z ep hp).elim
    · exact (no_ix (by decide) z eq hq).elim
  · refine m_never hm.2.2.2.2.1 h8 hm.2.2.2.2.2.2 (fun z => ?_) (fun p' q' ep' hp' eq' hq' τ' f' => ?_)
    · rcases z with z | z
      · exact (no_ix (by omega) z ep hp).elim
      · exact (no_ix (by decide) z eq hq).elim
    rw [nI_one (by omega) (by omega) ep ep', nI_one (by omega) (by omega) eq eq']
    exact res0 hw hc hm f'
theorem r_follow {σ τ : St} {a : Int32} (h : REP σ τ) : w_X11_follow σ a (fun v σ' => w_X12_follow τ a (fun v' τ' => RES τ v v' σ' τ')) := by
  obtain ⟨N, fs, sl, bd, P, r, b, hw, hc, hm⟩ := h
  obtain ⟨hW, hWB, hWP, hWR, hT⟩ := id hw
  obtain ⟨w250, wok, wt, wf⟩ := now_ok (bd := bd) (P := P) (fs := fs) (b := b) hW
  have hX := hc.2.2.2.2.2.2.1
  have hY := hm.2.2.2.2.2.2
  refine c_follow hc.1 hW hc.2.1 hc.2.2.2.1 hWB hX.2.1 hX.2.2.1 w250 (fun z => (wok z).2.1) (fun z => ?_) (fun k ek hk g => ?_) (fun k ek hk g σ' f d => ?_)
  · exact m_follow (bd := bd) hm.1 hW hm.2.1 hY.2.1 w250 (fun z => (wok z).2.1) (fun _ τ' f' => res0 hw hc hm f') (fun k ek hk => (no_ix (by omega) z ek hk).elim) (fun k ek hk => (no_ix (by omega) z ek hk).elim)
  · refine m_follow (bd := bd) hm.1 hW hm.2.1 hY.2.1 w250 (fun z => (wok z).2.1) (fun z => (no_ix (by omega) z ek hk).elim) (fun _ _ _ _ τ' f' => res0 hw hc hm f') (fun k' ek' hk' g' => ?_)
    rw [nI_one (by omega) (by omega) ek ek'] at g'; omega
  · refine m_follow (bd := bd) hm.1 hW hm.2.1 hY.2.1 w250 (fun z => (wok z).2.1) (fun z => (no_ix (by omega) z ek hk).elim) (fun k' ek' hk' g' => ?_) (fun k' ek' hk' g' τ' f' n => ?_)
    · rw [nI_one (by omega) (by omega) ek ek'] at g'; omega
    have e := nI_one (by omega) (by omega) ek ek'
    subst e
    have fo := fol_ok (wok (by omega)).2.1 hk g _ (Nat.le_refl _)
    exact res2 hw hc hm fo.2.2.2.2.1 fo.2.2.2.1 f f' d n
theorem r_fewest {σ τ : St} {a : Int32} (h : REP σ τ) : w_X11_fewest σ a (fun v σ' => w_X12_fewest τ a (fun v' τ' => RES τ v v' σ' τ')) := by
  obtain ⟨N, fs, sl, bd, P, r, b, hw, hc, hm⟩ := h
  obtain ⟨hW, hWB, hWP, hWR, hT⟩ := id hw
  obtain ⟨c1, c2, c3, c4, c5, c6, c7, c8⟩ := id hc
  obtain ⟨m1, m2, m3, m4, m5, m6, m7⟩ := id hm
  obtain ⟨w250, wok, wt, wf⟩ := now_ok (bd := bd) (P := P) (fs := fs) (b := b) hW
  refine c_fewest (bd := bd) (fs := fs) c7 (fun z => (wok z).1) w250 (fun z => c8 (wok z).1) (fun z => (wok z).2) (fun z => ?_) (fun k u ek hk hu σ' f d => ?_)
  · exact m_fewest (bd := bd) (fs := fs) m7 w250 (fun z => (wok z).2) (fun _ τ' f' => res0 hw hc hm f') (fun k u ek hk => (no_ix (by omega) z ek hk).elim)
  · refine m_fewest (bd := bd) (fs := fs) m7 w250 (fun z => (wok z).2) (fun z => (no_ix (by omega) z ek hk).elim) (fun k' u' ek' hk' hu' τ' f' => ?_)
    have e := nI_one (by omega) (by omega) ek ek'
    subst e
    rw [isL_one hu hu']
    exact ⟨rfl, ⟨N, fs, sl, bd, P, r, b, hw, ⟨CN_ag (fr_ag f (by decide)) c1, CF_ag (fr_ag f (by decide)) c2, CS_ag (fr_ag f (by decide)) c3, CB_ag (fr_ag f (by decide)) c4, CP_ag (fr_ag f (by decide)) c5, CR_ag (fr_ag f (by decide)) c6, CX_ag (fr_ag f (by decide)) c7, fun _ => d⟩, ⟨NM_ag (fr_ag f' (by decide)) m1, MF_ag (fr_ag f' (by decide)) m2, MS_ag (fr_ag f' (by decide)) m3, MB_ag (fr_ag f' (by decide)) m4, MP_ag (fr_ag f' (by decide)) m5, MR_ag (fr_ag f' (by decide)) m6, MX_ag (fr_ag f' (by decide)) m7⟩⟩, fr_ag f' (by decide)⟩
theorem r_crossings {σ τ : St} (h : REP σ τ) : w_X11_crossings σ (fun v => w_X12_crossings τ (fun v' τ' => RES τ v v' σ τ')) := by
  obtain ⟨N, fs, sl, bd, P, r, b, hw, hc, hm⟩ := h
  exact c_crossings hc.1 hw.1 (m_crossings hm.1 hw.1 (fun τ' f' => res0 hw hc hm f'))
theorem crs_lt {N : Ne} {k : Nat} (hk : k < nn N) (h : crs N k = true) : fb_ct (crs N) k < fb_ct (crs N) (nn N) := by
  have e1 : fb_ct (crs N) (k + 1) = fb_ct (crs N) k + 1 := by rw [fb_ct_succ, h]; rfl
  have := fb_ct_mono (crs N) (show k + 1 ≤ nn N from hk)
  omega
theorem r_crossing {σ τ : St} {a a2 : Int32} (h : REP σ τ) : w_X11_crossing σ a a2 (fun v => w_X12_crossing τ a a2 (fun v' τ' => RES τ v v' σ τ')) := by
  obtain ⟨N, fs, sl, bd, P, r, b, hw, hc, hm⟩ := h
  have hW := hw.1
  have h24 := hW.1
  have l := fb_ct_le (crs N) (nn N)
  refine c_crossing hc.1 hW hc.2.2.1 (fun z => ?_) (fun k q ek hk hcr eq hq v v0 v1 v2 v3 v4 => ?_)
  · refine m_crossing hm.1 hW hm.2.2.1 (fun _ τ' f' => res0 hw hc hm f') (fun k q ek hk hcr eq hq => ?_)
    rcases z with z | z
    · exact (no_ix (by omega) z ek (crs_lt hk hcr)).elim
    · exact (no_ix (by decide) z eq hq).elim
  · have lk := crs_lt hk hcr
    refine m_crossing hm.1 hW hm.2.2.1 (fun z => ?_) (fun k' q' ek' hk' hcr' eq' hq' τ' f' u u0 u1 u2 u3 u4 => ?_)
    · rcases z with z | z
      · exact (no_ix (by omega) z ek lk).elim
      · exact (no_ix (by decide) z eq hq).elim
    have lk' := crs_lt hk' hcr'
    have e1 := fb_ct_kth_one hcr' hcr (nI_one (by omega) (by omega) ek ek')
    subst e1
    have e2 := nI_one (by omega) (by omega) eq eq'
    subst e2
    have e : v = u := by
      rcases (show q' = 0 ∨ q' = 1 ∨ q' = 2 ∨ q' = 3 ∨ q' = 4 by omega) with z | z | z | z | z
      · rw [v0 z, u0 z]
      · rw [v1 z, u1 z]
      · rw [v2 z, u2 z]
      · rw [v3 z, u3 z]
      · exact b_ext (fun i _ => by rw [v4 z, u4 z])
    rw [e]
    exact res0 hw hc hm f'
theorem r_mend {σ τ : St} {a : Int32} (h : REP σ τ) : w_X11_mend σ a (fun v σ' => w_X12_mend τ a (fun v' τ' => RES τ v v' σ' τ')) := by
  obtain ⟨N, fs, sl, bd, P, r, b, hw, hc, hm⟩ := h
  obtain ⟨hW, hWB, hWP, hWR, hT⟩ := id hw
  obtain ⟨c1, c2, c3, c4, c5, c6, c7, c8⟩ := id hc
  obtain ⟨m1, m2, m3, m4, m5, m6, m7⟩ := id hm
  have h24 := hW.1
  have l := fb_ct_le (crs N) (nn N)
  have one : ∀ k k' : Nat, a = nI (fb_ct (crs N) k) → k < nn N → crs N k = true → a = nI (fb_ct (crs N) k') → k' < nn N → crs N k' = true → k' = k := fun k k' e h1 h2 e' h1' h2' => by
    have := crs_lt h1 h2
    have := crs_lt h1' h2'
    exact fb_ct_kth_one h2' h2 (nI_one (by omega) (by omega) e e')
  have no : ∀ k, ixI a (fb_ct (crs N) (nn N)) = none → a = nI (fb_ct (crs N) k) → k < nn N → crs N k = true → False := fun k z e h1 h2 => no_ix (by omega) z e (crs_lt h1 h2)
  refine c_mend (bd := bd) c1 hW c2 c3 (fun z => ?_) (fun k ek hk hcr z => ?_) (fun k ek hk hcr z1 z2 z3 => ?_) (fun k ek hk hcr z1 z2 z3 σ' f d1 d2 d3 d4 d5 => ?_)
  · exact m_mend (bd := bd) m1 hW m2 m3 (fun _ τ' f' => res0 hw hc hm f') (fun k e hk hcr => (no k z e hk hcr).elim) (fun k e hk hcr => (no k z e hk hcr).elim) (fun k e hk hcr => (no k z e hk hcr).elim)
  · exact m_mend (bd := bd) m1 hW m2 m3 (fun y => (no k y ek hk hcr).elim) (fun _ _ _ _ _ τ' f' => res0 hw hc hm f') (fun _ _ _ _ y1 y2 => by omega) (fun _ _ _ _ y1 y2 => by omega)
  · refine m_mend (bd := bd) m1 hW m2 m3 (fun y => (no k y ek hk hcr).elim) (fun _ _ _ _ y => by omega) (fun _ _ _ _ _ _ _ τ' f' => res0 hw hc hm f') (fun k' e' hk' hcr' _ _ y => ?_)
    rw [one k k' ek hk hcr e' hk' hcr'] at y; exact absurd y z3
  · refine m_mend (bd := bd) m1 hW m2 m3 (fun y => (no k y ek hk hcr).elim) (fun _ _ _ _ y => by omega) (fun k' e' hk' hcr' _ _ y => ?_) (fun k' e' hk' hcr' _ _ y τ' f' n1 n2 n3 n4 n5 => ?_)
    · rw [one k k' ek hk hcr e' hk' hcr'] at y; exact absurd z3 y
    have e := one k k' ek hk hcr e' hk' hcr'
    subst e
    exact res1 (WN_men hW z1 z2 hk (crs_6 hcr)) hWB (WP_ext hWP (Nat.le_succ _)) d1 d2 d3 (CB_ag (fr_ag f (by decide)) c4) (CP_men (CP_ag (fr_ag f (by decide)) c5) hWP) d4 d5 n1 n2 n3 (MB_ag (fr_ag f' (by decide)) m4) (MP_ag (fr_ag f' (by decide)) m5) n4 n5 (fr_ag f' (by decide))
theorem r_count {σ τ : St} {a : Int32} (h : REP σ τ) : w_X11_count σ a (fun v => w_X12_count τ a (fun v' τ' => RES τ v v' σ τ')) := by
  obtain ⟨N, fs, sl, bd, P, r, b, hw, hc, hm⟩ := h
  refine c_cnt hc.1 hc.2.2.2.2.1 hc.2.2.2.2.2.1 hc.2.2.2.2.2.2.1 (fun z => ?_) (fun q eq hq => ?_)
  · exact m_count hm.1 hm.2.2.2.2.1 hm.2.2.2.2.2.1 hm.2.2.2.2.2.2 (fun _ τ' f' => res0 hw hc hm f') (fun q eq hq => (no_ix (by decide) z eq hq).elim)
  · refine m_count hm.1 hm.2.2.2.2.1 hm.2.2.2.2.2.1 hm.2.2.2.2.2.2 (fun z => (no_ix (by decide) z eq hq).elim) (fun q' eq' hq' τ' f' => ?_)
    rw [nI_one (by omega) (by omega) eq eq']
    exact res0 hw hc hm f'
theorem r_look {σ τ : St} {a a2 : Int32} (h : REP σ τ) : w_X11_look σ a a2 (fun v => w_X12_look_ τ a a2 (fun v' τ' => RES τ v v' σ τ')) := by
  obtain ⟨N, fs, sl, bd, P, r, b, hw, hc, hm⟩ := h
  have hW := hw.1
  have h24 := hW.1
  refine c_look hc.1 hW (fun z => ?_) (fun c q ec hcl eq hq => ?_)
  · refine m_look2 hm.1 hW (fun _ τ' f' => res0 hw hc hm f') (fun c q ec hcl eq hq => ?_)
    rcases z with z | z
    · exact (no_ix (by omega) z ec hcl).elim
    · exact (no_ix (by decide) z eq hq).elim
  · refine m_look2 hm.1 hW (fun z => ?_) (fun c' q' ec' hcl' eq' hq' τ' f' => ?_)
    · rcases z with z | z
      · exact (no_ix (by omega) z ec hcl).elim
      · exact (no_ix (by decide) z eq hq).elim
    rw [nI_one (by omega) (by omega) ec ec', nI_one (by omega) (by omega) eq eq']
    exact res0 hw hc hm f'
