/-! THE REFERENCE: look, behind, turned -/
theorem inI_le (N : Ne) (st c : Nat) : inI N st c ≤ c := fb_ct_le _ c
theorem inI_s (N : Ne) (st c : Nat) : inI N st (c + 1) = inI N st c + (if (decide (nk N c = 5) && tik N st c) = true then 1 else 0) := fb_ct_succ _ c
theorem pln_bit {N : Ne} {v : Nat → Bool} {st inp c : Nat} (h : tik N st c = false) : pln N v st inp c = v c := by simp [pln, h]
/-- what look leaves: ahead, plain, changing, either -/
def MK (σ : St) (N : Ne) (v : Nat → Bool) (st inp : Nat) : Prop := (∀ r, bt (σ.1 0 21) r = EV N v r) ∧ (∀ r, bt (σ.1 0 22) r = if tik N st r then pln N v st inp r else EV N v r) ∧ (∀ r, bt (σ.1 0 23) r = chg N v st inp r) ∧ (∀ r, bt (σ.1 0 24) r = eit N v st inp r)
theorem chg_lt {N : Ne} {v : Nat → Bool} {st inp c : Nat} (h : chg N v st inp c = true) : c < nn N ∧ 4 < nk N c := ⟨(tik_lt (chg_tik h)).1, (tik_lt (chg_tik h)).2.1⟩
theorem eit_lt {N : Ne} {v : Nat → Bool} {st inp c : Nat} (h : eit N v st inp c = true) : c < nn N ∧ nk N c = 6 := by
  simp only [eit, Bool.and_eq_true, decide_eq_true_eq] at h
  exact ⟨(tik_lt h.1.2).1, h.1.1⟩
set_option maxHeartbeats 1000000 in
theorem m_look {σ : St} {N : Ne} {v : Nat → Bool} {a1 a2 a3 : Int32} {st inp : Nat} {post : St → Prop} (hN : NM σ N) (hW : WN N) (h1 : ∀ r, bt a1 r = EV N v r) (h2 : a2 = nI st) (h3 : a3 = nI inp)
    (h : ∀ σ', fr [] [(0, 21), (0, 22), (0, 23), (0, 24)] σ σ' → MK σ' N v st inp → post σ') : w_X12_look σ a1 a2 a3 post := by
  have h24 := hW.1
  unfold w_X12_look
  refine nm_of (nm_of (nm_of ?_))
  generalize t3 : upI (upI (upI σ 0 21 a1) 0 22 a1) 0 23 0 = σ3
  have f3 : fr [] [(0, 21), (0, 22), (0, 23), (0, 24)] σ σ3 := by rw [← t3]; exact fr_stepI (fr_stepI (fr_I σ _ _ _ (by simp)) _ _ _ (by simp)) _ _ _ (by simp)
  have v3 : σ3.1 0 21 = a1 ∧ σ3.1 0 22 = a1 ∧ σ3.1 0 23 = 0 := by rw [← t3]; simp [upI_get]
  refine jn_1 (fun σ5 => fr [] [(0, 21), (0, 22), (0, 23), (0, 24)] σ σ5 ∧ σ5.1 0 21 = a1 ∧ (∀ r, bt (σ5.1 0 22) r = if tik N st r then pln N v st inp r else EV N v r) ∧ (∀ r, bt (σ5.1 0 23) r = chg N v st inp r)) (fun J4 hJ4 => ?_) ?_
  · refine lpE3_inv (I := fun y26 y27 σ28 => ∃ c, c ≤ nn N ∧ y27 = nI c ∧ y26 = nI (inI N st c) ∧ fr [] [(0, 21), (0, 22), (0, 23), (0, 24)] σ σ28 ∧ σ28.1 0 21 = a1 ∧ (∀ r, bt (σ28.1 0 22) r = if r < c ∧ tik N st r = true then pln N v st inp r else EV N v r) ∧ (∀ r, bt (σ28.1 0 23) r = (decide (r < c) && chg N v st inp r))) (μ := fun _ y27 _ => nn N - y27.toNatClampNeg) ?_ 0 0 σ3 ⟨0, by omega, rfl, rfl, f3, v3.1, fun r => by rw [v3.2.1, h1, if_neg (by omega)], fun r => by rw [v3.2.2, b_0]; simp⟩
    rintro rec y26 y27 s8 ⟨c, hc, rfl, rfl, f8, a8, p8, g8⟩ hrec
    have N8 := NM_ag (fr_ag f8 (by decide)) hN
    unfold w_X12_look_L21
    refine br_le (nn N) c N8.1 rfl (by omega) (by omega) (fun q => hJ4 s8 ⟨f8, a8, fun r => ?_, fun r => ?_⟩) (fun q => ?_)
    · rw [p8 r]
      by_cases g : tik N st r = true
      · have := (tik_lt g).1
        rw [if_pos ⟨by omega, g⟩, if_pos g]
      · rw [if_neg (fun z => g z.2), if_neg g]
    · rw [g8 r]
      cases e : chg N v st inp r with
      | false => simp
      | true => have := (chg_lt e).1; simp; omega
    have k6 := hW.2.1 c q
    have il := inI_le N st c
    refine m_isTicking N8 hW h2 rfl q ?_
    cases ht : tik N st c with
    | false =>
      refine br_1 rfl (nm_of (hrec _ _ _ ⟨c + 1, q, nI_1 c, ?_, f8, a8, fun r => ?_, fun r => ?_⟩ ?_))
      · rw [inI_s, ht, Bool.and_false, if_neg (by decide)]; rfl
      · rw [p8 r]
        by_cases g : r = c
        · subst g; rw [if_neg (by omega), if_neg (by rw [ht]; simp)]
        · by_cases g2 : r < c ∧ tik N st r = true
          · rw [if_pos g2, if_pos ⟨by omega, g2.2⟩]
          · rw [if_neg g2, if_neg (fun z => g2 ⟨by omega, z.2⟩)]
      · rw [g8 r]
        by_cases g : r = c
        · subst g
          have e : chg N v st inp r = false := by
            cases e : chg N v st inp r with
            | false => rfl
            | true => rw [chg_tik e] at ht; cases ht
          simp [e]
        · by_cases g2 : r < c
          · simp [g2, show r < c + 1 by omega]
          · simp [g2, show ¬ r < c + 1 by omega]
      · rw [nI_1, cl_nI (by omega), cl_nI (by omega)]; omega
    | true =>
      have tk4 := (tik_lt ht).2.1
      refine br_0 (by decide) (rd_of c rfl (by omega) (by decide) ?_)
      rw [N8.2.2.1 c q]
      refine jn_1 (fun y36 => y36 = bI (pln N v st inp c)) (fun J35 hJ35 => ?_) ?_
      · refine br_eq (nk N c) 6 rfl rfl (by omega) (by omega) (fun e6 => ?_) (fun e6 => ?_)
        · have xl := hW.2.2.2.1 c q e6
          refine rd_of c rfl (by omega) (by decide) ?_
          rw [N8.2.2.2.2.1 c q, if_neg (by omega)]
          refine w_bitOf_of (nx N c) rfl (by omega) (hJ35 _ ?_)
          rw [h1]; simp [pln, ht, e6]
        · refine br_le 31 (inI N st c) rfl rfl (by omega) (by omega) (fun z => absurd z (by omega)) (fun _ => hJ35 _ ?_)
          rw [h3, b_getN (by omega)]
          simp [pln, ht, e6]
      rintro y36 rfl
      refine rd_of c rfl (by omega) (by decide) ?_
      rw [N8.2.2.1 c q]
      refine jn_1 (fun y39 => y39 = nI (if nk N c = 5 then 1 else 0)) (fun J38 hJ38 => br_eq (nk N c) 5 rfl rfl (by omega) (by omega) (fun e => hJ38 _ (by rw [if_pos e]; rfl)) (fun e => hJ38 _ (by rw [if_neg e]; rfl))) ?_
      rintro y39 rfl
      have ei : nI (inI N st c) + nI (if nk N c = 5 then 1 else 0) = nI (inI N st (c + 1)) := by
        rw [nI_add, inI_s, ht, Bool.and_true]
        by_cases e : nk N c = 5 <;> simp [e]
      refine nm_as _ ei (nm_of ?_)
      generalize t41 : upI s8 0 22 ((s8.1 0 22 &&& (((1 : Int32) <<< (nI c &&& 31)) ^^^ (-1 : Int32))) ||| (bI (pln N v st inp c) <<< (nI c &&& 31))) = s41
      have v41 : s41.1 0 21 = a1 ∧ (∀ r, bt (s41.1 0 22) r = if r = c then pln N v st inp c else bt (s8.1 0 22) r) ∧ s41.1 0 23 = s8.1 0 23 := by
        rw [← t41]
        refine ⟨?_, fun r => ?_, ?_⟩
        · rw [upI_get, if_neg (by omega)]; exact a8
        · rw [upI_get, if_pos ⟨rfl, rfl⟩, b_set _ (by omega)]
        · rw [upI_get, if_neg (by omega)]
      have f41 : fr [] [(0, 21), (0, 22), (0, 23), (0, 24)] σ s41 := by rw [← t41]; exact fr_stepI f8 _ _ _ (by simp)
      refine w_bitOf_of c rfl (by omega) ?_
      rw [h1, EV_bit N v tk4]
      refine jn_1 (fun y45 => ∀ i, bt y45 i = (decide (i = c) && chg N v st inp c)) (fun J44 hJ44 => br_2 (fun e => hJ44 _ (fun i => ?_)) (fun e => hJ44 _ (fun i => ?_))) ?_
      · have e' := (bI_inj _ _).mp e
        rw [b_0]; simp [chg, e']
      · rw [b_one (by omega)]
        have : chg N v st inp c = true := by
          unfold chg
          simp only [bne_iff_ne]
          exact fun z => e ((bI_inj _ _).mpr z)
        rw [this, Bool.and_true]
      intro y45 h45
      refine nm_of (nm_of (hrec _ _ _ ⟨c + 1, q, nI_1 c, rfl, fr_stepI f41 _ _ _ (by simp), ?_, fun r => ?_, fun r => ?_⟩ ?_))
      · rw [upI_get, if_neg (by omega)]; exact v41.1
      · rw [upI_get, if_neg (by omega), v41.2.1 r]
        by_cases g : r = c
        · subst g; rw [if_pos rfl, if_pos ⟨by omega, ht⟩]
        · rw [if_neg g, p8 r]
          by_cases g2 : r < c ∧ tik N st r = true
          · rw [if_pos g2, if_pos ⟨by omega, g2.2⟩]
          · rw [if_neg g2, if_neg (fun z => g2 ⟨by omega, z.2⟩)]
      · rw [upI_get, if_pos ⟨rfl, rfl⟩, b_or, v41.2.2, g8 r, h45 r]
        by_cases g : r = c
        · subst g; simp
        · by_cases g2 : r < c
          · simp [g, g2, show r < c + 1 by omega]
          · simp [g, g2, show ¬ r < c + 1 by omega]
      · rw [nI_1, cl_nI (by omega), cl_nI (by omega)]; omega
  rintro σ5 ⟨f5, a5, p5, g5⟩
  refine nm_of (jn_at ?_)
  generalize t6 : upI σ5 0 24 0 = σ6
  have f6 : fr [] [(0, 21), (0, 22), (0, 23), (0, 24)] σ σ6 := by rw [← t6]; exact fr_stepI f5 _ _ _ (by simp)
  have v6 : σ6.1 0 21 = a1 ∧ σ6.1 0 22 = σ5.1 0 22 ∧ σ6.1 0 23 = σ5.1 0 23 ∧ σ6.1 0 24 = 0 := by rw [← t6]; simp [upI_get]; exact a5
  refine lpE2_inv (I := fun y9 s => ∃ c, c ≤ nn N ∧ y9 = nI c ∧ fr [] [(0, 21), (0, 22), (0, 23), (0, 24)] σ s ∧ s.1 0 21 = a1 ∧ s.1 0 22 = σ5.1 0 22 ∧ s.1 0 23 = σ5.1 0 23 ∧ (∀ r, bt (s.1 0 24) r = (decide (r < c) && eit N v st inp r))) (μ := fun y9 _ => nn N - y9.toNatClampNeg) ?_ 0 σ6 ⟨0, by omega, rfl, f6, v6.1, v6.2.1, v6.2.2.1, fun r => by rw [v6.2.2.2, b_0]; simp⟩
  rintro rec y9 s ⟨c, hc, rfl, fS, aS, pS, gS, eS⟩ hrec
  have NS := NM_ag (fr_ag fS (by decide)) hN
  unfold w_X12_look_L172
  refine br_le (nn N) c NS.1 rfl (by omega) (by omega) (fun q => h s fS ⟨fun r => by rw [aS, h1], fun r => by rw [pS, p5], fun r => by rw [gS, g5], fun r => ?_⟩) (fun q => ?_)
  · rw [eS r]
    cases e : eit N v st inp r with
    | false => simp
    | true => have := (eit_lt e).1; simp; omega
  have k6 := hW.2.1 c q
  refine rd_of c rfl (by omega) (by decide) ?_
  rw [NS.2.2.1 c q]
  refine jn_1 (fun y15 => ∀ i, bt y15 i = (decide (i = c) && eit N v st inp c)) (fun J14 hJ14 => ?_) ?_
  · refine jn_0 (eit N v st inp c = false) (fun J18 hJ18 => ?_) (fun e => hJ14 _ (fun i => by rw [b_0, e]; simp))
    refine br_eq (nk N c) 6 rfl rfl (by omega) (by omega) (fun e6 => ?_) (fun e6 => hJ18 (by simp [eit, e6]))
    refine m_isTicking NS hW h2 rfl q ?_
    cases ht : tik N st c with
    | false => exact br_1 rfl (hJ18 (by simp [eit, ht]))
    | true =>
      refine br_0 (by decide) ?_
      refine m_isEither (v := v) (p := pln N v st inp) (ch := chg N v st inp) NS hW rfl q e6 (fun r _ => by rw [aS, h1]) (fun r hr g => ?_) (fun r => by rw [gS, g5]) (fun r hr => chg_lt hr) (fun hB => br_0 (by decide) (hJ14 _ (fun i => ?_))) (fun hB => br_1 rfl (hJ18 ?_))
      · rw [pS, p5]
        by_cases z : tik N st r = true
        · rw [if_pos z]
        · rw [if_neg z, EV_bit N v g, pln_bit (by simpa using z)]
      · have hB' : Bth N v (pln N v st inp) (oth N v st inp c) (nx N c) := hB
        rw [b_one (by omega)]
        simp [eit, e6, ht, hB']
      · have hB' : ¬ Bth N v (pln N v st inp) (oth N v st inp c) (nx N c) := hB
        simp [eit, e6, ht, hB']
  intro y15 h15
  refine nm_of (nm_of (hrec _ _ ⟨c + 1, q, nI_1 c, fr_stepI fS _ _ _ (by simp), ?_, ?_, ?_, fun r => ?_⟩ ?_))
  · rw [upI_get, if_neg (by omega)]; exact aS
  · rw [upI_get, if_neg (by omega)]; exact pS
  · rw [upI_get, if_neg (by omega)]; exact gS
  · rw [upI_get, if_pos ⟨rfl, rfl⟩, b_or, eS r, h15 r]
    by_cases g : r = c
    · subst g; simp
    · by_cases g2 : r < c
      · simp [g, g2, show r < c + 1 by omega]
      · simp [g, g2, show ¬ r < c + 1 by omega]
  · rw [nI_1, cl_nI (by omega), cl_nI (by omega)]; omega
