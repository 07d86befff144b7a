/-! KINDS OF CROSSINGS (the reference) -/
theorem nI_ne2 {a : Nat} (ha : a < 2 ^ 31) : ¬ nI a = (-2 : Int32) := fun h => by
  have h1 := nI_pos' ha
  rw [h] at h1
  exact absurd h1 (by decide)
/-- the answer -2 is no cell -/
theorem opt_eq {P : Prop} (hP : P ∨ ¬ P) {a k : Nat} {v : Int32} (ha : a < 2 ^ 31) (hk : k < 2 ^ 31) (h1 : P → v = nI a) (h2 : ¬ P → v = -2) : v = nI k ↔ P ∧ a = k := by
  rcases hP with p | p
  · rw [h1 p, nI_eq ha hk]; exact ⟨fun q => ⟨p, q⟩, fun q => q.2⟩
  · rw [h2 p]; exact ⟨fun q => absurd q.symm (nI_ne2 hk), fun q => absurd q.1 p⟩
set_option maxHeartbeats 1000000 in
theorem m_isUsedOnce {σ : St} {N : Ne} {a : Int32} {k : Nat} {post : Int32 → Prop} (hN : NM σ N) (hW : WN N) (ha : a = nI k) (hk : k < nn N) (h4 : 4 < nk N k) (h : post (bI (usd N k))) : w_X12_isUsedOnce σ a post := by
  have h24 := hW.1
  obtain ⟨hn, -, hkd, hcl, hx, hy, hz⟩ := id hN
  unfold w_X12_isUsedOnce
  refine jn_2 (fun y2 y3 => y2 = nI (fb_ct (kus N k) (nn N)) ∧ y3 = bI (zc (bdu N k) (nn N))) (fun J hJ => ?_) ?_
  rotate_left
  · rintro y2 y3 ⟨rfl, rfl⟩
    have cl := fb_ct_le (kus N k) (nn N)
    cases hzc : zc (bdu N k) (nn N) with
    | false =>
      have : usd N k = false := by simp [usd, hzc]
      rw [this] at h; exact br_1 rfl h
    | true =>
      refine br_0 (by decide) (br_eq (fb_ct (kus N k) (nn N)) 1 rfl rfl (by omega) (by omega) (fun e => ?_) (fun e => ?_))
      · have : usd N k = true := by simp [usd, hzc, e]
        rw [this] at h; exact h
      · have : usd N k = false := by simp [usd, e]
        rw [this] at h; exact h
  refine lpE3_inv (I := fun y6 y7 y8 => ∃ c, c ≤ nn N ∧ y8 = nI c ∧ y6 = nI (fb_ct (kus N k) c) ∧ y7 = bI (zc (bdu N k) c)) (μ := fun _ _ y8 => nn N - y8.toNatClampNeg) ?_ 0 1 0 ⟨0, by omega, rfl, rfl, rfl⟩
  rintro rec y6 y7 y8 ⟨c, hc, rfl, rfl, rfl⟩ hrec
  unfold w_X12_isUsedOnce_L7
  refine br_le (nn N) c hn rfl (by omega) (by omega) (fun q => by rw [show c = nn N by omega]; exact hJ _ _ ⟨rfl, rfl⟩) (fun q => ?_)
  have nxt : ∀ y z : Int32, y = nI (fb_ct (kus N k) (c + 1)) → z = bI (zc (bdu N k) c && !bdu N k c) → rec y z (nI c + 1) := by
    intro y z e1 e2
    refine hrec _ _ _ ⟨c + 1, q, nI_1 c, e1, by rw [zc_s]; exact e2⟩ ?_
    rw [nI_1, cl_nI (by omega), cl_nI (by omega)]; omega
  have c6 := hW.2.1 c q
  refine rd_of c rfl (by omega) (by decide) ?_
  rw [hkd c q]
  refine br_le 5 (nk N c) rfl rfl (by omega) (by omega) (fun g5 => ?_) (fun g5 => ?_)
  · -- a bit
    have nl : lks N k c = false := by simp [lks, show ¬ nk N c ≤ 4 by omega]
    refine rd_of c rfl (by omega) (by decide) ?_
    rw [hkd c q]
    refine br_eq (nk N c) 6 rfl rfl (by omega) (by omega) (fun e6 => ?_) (fun e6 => ?_)
    rotate_left
    · have nk0 : kus N k c = false := by simp [kus, e6]
      refine nm_of (nxt _ _ (by rw [fb_ct_succ, nk0]; rfl) (by simp [bdu, nl, nk0]))
    have xl := hW.2.2.2.1 c q e6
    refine rd_of c rfl (by omega) (by decide) ?_
    rw [hx c q, if_neg (by omega)]
    refine br_eq (nx N c) k rfl ha (by omega) (by omega) (fun ex => ?_) (fun ex => ?_)
    rotate_left
    · have nk0 : kus N k c = false := by simp [kus, ex]
      refine nm_of (nxt _ _ (by rw [fb_ct_succ, nk0]; rfl) (by simp [bdu, nl, nk0]))
    have k1 : kus N k c = true := by simp [kus, e6, ex]
    have e1 : nI (fb_ct (kus N k) c) + 1 = nI (fb_ct (kus N k) (c + 1)) := by rw [fb_ct_succ, k1, nI_1]; rfl
    refine nm_as _ e1 ?_
    cases hzc : zc (bdu N k) c with
    | false => exact br_1 rfl (nm_of (nxt _ _ rfl (by rw [hzc]; rfl)))
    | true =>
      refine br_0 (by decide) (br_eq c k rfl ha (by omega) (by omega) (fun e => nm_of (nxt _ _ rfl ?_)) (fun e => ?_))
      · have : bdu N k c = true := by unfold bdu; rw [k1, decide_eq_true e]; simp
        rw [this]; simp; rfl
      have q1 := hW.2.2.1 c q (by omega)
      have q2 := hW.2.2.1 k hk h4
      refine rd_of c rfl (by omega) (by decide) (rd_of k ha (by omega) (by decide) ?_)
      rw [hcl c q, if_pos (by omega), hcl k hk, if_pos h4]
      refine br_eq (nc N c) (nc N k) rfl rfl (by omega) (by omega) (fun e2 => nm_of (nxt _ _ rfl ?_)) (fun e2 => nm_of (nxt _ _ rfl ?_))
      · have : bdu N k c = false := by simp [bdu, nl, k1, e, e2]
        rw [this, hzc]; rfl
      · have : bdu N k c = true := by simp [bdu, k1, e2]
        rw [this]; simp; rfl
  · -- a gate
    have g4 : nk N c ≤ 4 := by omega
    have nk0 : kus N k c = false := by simp [kus]; omega
    have e1 : nI (fb_ct (kus N k) c) = nI (fb_ct (kus N k) (c + 1)) := by rw [fb_ct_succ, nk0]; rfl
    have bl_ : bdu N k c = lks N k c := by simp [bdu, nk0]
    cases hzc : zc (bdu N k) c with
    | false => exact br_1 rfl (nm_of (nxt _ _ e1 (by rw [hzc]; rfl)))
    | true =>
      have xl := (hW.2.2.2.2.1 c q g4).1
      refine br_0 (by decide) (rd_of c rfl (by omega) (by decide) ?_)
      rw [hx c q, if_neg (by omega)]
      refine br_eq (nx N c) k rfl ha (by omega) (by omega) (fun ex => nm_of (nxt _ _ e1 ?_)) (fun ex => ?_)
      · have : lks N k c = true := by simp [lks, g4, ex]
        rw [bl_, this]; simp; rfl
      refine rd_of c rfl (by omega) (by decide) ?_
      have yq : σ.1 5 c = a ↔ (nk N c ≤ 4 ∧ nk N c ≠ 3) ∧ ny N c = k := by
        by_cases e3 : nk N c = 3
        · rw [hy c q, if_neg (fun z => z.2 e3), ha]
          exact ⟨fun z => absurd z.symm (nI_ne2 (by omega)), fun z => absurd e3 z.1.2⟩
        · have yl := (hW.2.2.2.2.2.1 c q g4 e3).1
          rw [hy c q, if_pos ⟨g4, e3⟩, ha, nI_eq (by omega) (by omega)]
          exact ⟨fun z => ⟨⟨g4, e3⟩, z⟩, fun z => z.2⟩
      refine br_2 (fun z => nm_of (nxt _ _ e1 ?_)) (fun z => ?_)
      · have z' := yq.mp z
        have : lks N k c = true := by simp [lks, g4, z'.1.2, z'.2]
        rw [bl_, this]; simp; rfl
      have z' : ¬ (nk N c ≠ 3 ∧ ny N c = k) := fun w => z (yq.mpr ⟨⟨g4, w.1⟩, w.2⟩)
      refine rd_of c rfl (by omega) (by decide) ?_
      have zq : σ.1 6 c = a ↔ nk N c = 4 ∧ nz N c = k := by
        by_cases e4 : nk N c = 4
        · have zl := (hW.2.2.2.2.2.2.1 c q e4).1
          rw [hz c q, if_pos e4, ha, nI_eq (by omega) (by omega)]
          exact ⟨fun z => ⟨e4, z⟩, fun z => z.2⟩
        · rw [hz c q, if_neg e4, ha]
          exact ⟨fun z => absurd z.symm (nI_ne2 (by omega)), fun z => absurd z.1 e4⟩
      refine br_2 (fun w => nm_of (nxt _ _ e1 ?_)) (fun w => nm_of (nxt _ _ e1 ?_))
      · have w' := zq.mp w
        have : lks N k c = true := by simp [lks, w'.1, w'.2]
        rw [bl_, this]; simp; rfl
      · have w' : ¬ (nk N c = 4 ∧ nz N c = k) := fun v => w (zq.mpr v)
        have : lks N k c = false := by
          cases e : lks N k c with
          | false => rfl
          | true =>
            simp only [lks, Bool.and_eq_true, Bool.or_eq_true, decide_eq_true_eq] at e
            rcases e.2 with (u | u) | u
            · exact absurd u ex
            · exact absurd u z'
            · exact absurd u w'
        rw [bl_, this, hzc]; rfl
theorem m_isTwice {σ : St} {N : Ne} {sl : Nat → Bool} {a : Int32} {k : Nat} {post : Int32 → Prop} (hN : NM σ N) (hW : WN N) (hS : MS σ N sl) (ha : a = nI k) (hk : k < nn N) (h : post (bI (twc N sl k))) : w_X12_isTwice σ a post := by
  have h24 := hW.1
  unfold w_X12_isTwice
  refine m_isCrossing hN hW ha hk ?_
  cases hc : crs N k with
  | false =>
    have : twc N sl k = false := by simp [twc, hc]
    rw [this] at h; exact br_1 rfl h
  | true =>
    have h6 := crs_6 hc
    have xl := hW.2.2.2.1 k hk h6
    refine br_0 (by decide) (m_foreign hN hW ha hk h6 (fun r hr => m_allStill hN hW hS hr ?_))
    show br (bI (ast N sl k) = 0) _ _
    cases hs : ast N sl k with
    | true =>
      have : twc N sl k = false := by simp [twc, hs]
      rw [this] at h; exact br_0 (by decide) h
    | false =>
      refine br_1 rfl (rd_of k ha (by omega) (by decide) ?_)
      rw [hN.2.2.2.2.1 k hk, if_neg (by omega)]
      refine m_isForeignBit hN hW rfl xl ha hk (by omega) ?_
      cases hf : fbt N (nx N k) k with
      | false =>
        have : twc N sl k = false := by simp [twc, hf]
        rw [this] at h; exact br_1 rfl h
      | true =>
        refine br_0 (by decide) (m_isUsedOnce hN hW ha hk (by omega) ?_)
        cases hu : usd N k with
        | false =>
          have : twc N sl k = false := by simp [twc, hu]
          rw [this] at h; exact br_1 rfl h
        | true =>
          have : twc N sl k = true := by simp [twc, hc, hs, hf, hu]
          rw [this] at h; exact br_0 (by decide) h
theorem m_isHeldOne {σ : St} {N : Ne} {sl : Nat → Bool} {a : Int32} {k : Nat} {post : Int32 → Prop} (hN : NM σ N) (hW : WN N) (hS : MS σ N sl) (ha : a = nI k) (hk : k < nn N) (h6 : nk N k = 6) (h : post (bI (hel N sl k))) : w_X12_isHeldOne σ a post := by
  have h24 := hW.1
  obtain ⟨hn, -, hkd, hcl, hx, hy, hz⟩ := id hN
  have xl := hW.2.2.2.1 k hk h6
  have no : ∀ {b : Bool}, hel N sl k = b → post (bI b) := fun e => by rw [e] at h; exact h
  unfold w_X12_isHeldOne
  refine rd_of k ha (by omega) (by decide) ?_
  rw [hx k hk, if_neg (by omega)]
  refine rd_of (nx N k) rfl (by omega) (by decide) ?_
  have s6 := hW.2.1 _ xl
  rw [hkd _ xl]
  refine br_eq (nk N (nx N k)) 4 rfl rfl (by omega) (by omega) (fun e4 => ?_) (fun e4 => no (b := false) (by simp [hel, e4]))
  have yl := (hW.2.2.2.2.2.1 _ xl (by omega) (by omega)).1
  have zl := (hW.2.2.2.2.2.2.1 _ xl e4).1
  have sxl := (hW.2.2.2.2.1 _ xl (by omega)).1
  refine rd_of (nx N k) rfl (by omega) (by decide) ?_
  rw [hy _ xl, if_pos ⟨by omega, by omega⟩]
  refine m_isForeignBit hN hW rfl yl ha hk (by omega) ?_
  cases hf : fbt N (ny N (nx N k)) k with
  | false => exact br_1 rfl (no (b := false) (by simp [hel, hf]))
  | true =>
    refine br_0 (by decide) (rd_of (nx N k) rfl (by omega) (by decide) ?_)
    rw [hz _ xl, if_pos e4]
    refine br_eq (nz N (nx N k)) k rfl ha (by omega) (by omega) (fun ez => ?_) (fun ez => no (b := false) (by simp [hel, ez]))
    refine rd_of (nx N k) rfl (by omega) (by decide) ?_
    rw [hx _ xl, if_neg (by omega)]
    have t6 := hW.2.1 _ sxl
    refine rd_of (nx N (nx N k)) rfl (by omega) (by decide) ?_
    rw [hkd _ sxl]
    refine br_eq (nk N (nx N (nx N k))) 6 rfl rfl (by omega) (by omega) (fun et => ?_) (fun et => no (b := false) (by simp [hel, et]))
    have q1 := hW.2.2.1 _ sxl (by omega)
    have q2 := hW.2.2.1 k hk (by omega)
    refine rd_of (nx N (nx N k)) rfl (by omega) (by decide) (rd_of k ha (by omega) (by decide) ?_)
    rw [hcl _ sxl, if_pos (by omega), hcl k hk, if_pos (by omega)]
    refine br_eq (nc N (nx N (nx N k))) (nc N k) rfl rfl (by omega) (by omega) (fun ec => ?_) (fun ec => no (b := false) (by simp [hel, ec]))
    have ul := hW.2.2.2.1 _ sxl et
    have u6 := hW.2.1 _ ul
    refine rd_of (nx N (nx N k)) rfl (by omega) (by decide) ?_
    rw [hx _ sxl, if_neg (by omega)]
    refine rd_of (nx N (nx N (nx N k))) rfl (by omega) (by decide) ?_
    rw [hkd _ ul]
    refine br_eq (nk N (nx N (nx N (nx N k)))) 6 rfl rfl (by omega) (by omega) (fun eu => ?_) (fun eu => no (b := false) (by simp [hel, eu]))
    refine rd_of (nx N (nx N k)) rfl (by omega) (by decide) ?_
    rw [hx _ sxl, if_neg (by omega)]
    refine m_isTwice hN hW hS rfl ul ?_
    cases ht : twc N sl (nx N (nx N (nx N k))) with
    | false => exact br_1 rfl (no (b := false) (by simp [hel, ht]))
    | true => exact br_0 (by decide) (no (b := true) (by simp [hel, e4, hf, ez, et, ec, eu, ht]))
theorem m_kindOf {σ : St} {N : Ne} {sl : Nat → Bool} {a : Int32} {k : Nat} {post : Int32 → Prop} (hN : NM σ N) (hW : WN N) (hS : MS σ N sl) (ha : a = nI k) (hk : k < nn N) (h6 : nk N k = 6) (h : post (nI (knd N sl k))) : w_X12_kindOf σ a post := by
  have h24 := hW.1
  have xl := hW.2.2.2.1 k hk h6
  have no : ∀ {n : Nat}, knd N sl k = n → post (nI n) := fun e => by rw [e] at h; exact h
  unfold w_X12_kindOf
  refine m_foreign hN hW ha hk h6 (fun r hr => m_allStill hN hW hS hr ?_)
  show br (bI (ast N sl k) = 0) _ _
  cases hs : ast N sl k with
  | true => exact br_0 (by decide) (no (n := 0) (by simp [knd, hs]))
  | false =>
    refine br_1 rfl (m_isTwice hN hW hS ha hk ?_)
    cases ht : twc N sl k with
    | true => exact br_0 (by decide) (no (n := 1) (by simp [knd, hs, ht]))
    | false =>
      refine br_1 rfl (m_isHeldOne hN hW hS ha hk h6 ?_)
      cases hh : hel N sl k with
      | true => exact br_0 (by decide) (no (n := 2) (by simp [knd, hs, ht, hh]))
      | false =>
        refine br_1 rfl (rd_of k ha (by omega) (by decide) ?_)
        rw [hN.2.2.2.2.1 k hk, if_neg (by omega)]
        refine m_isForeignBit hN hW rfl xl ha hk (by omega) ?_
        cases hf : fbt N (nx N k) k with
        | false => exact br_1 rfl (no (n := 4) (by simp [knd, hs, ht, hh, hf]))
        | true => exact br_0 (by decide) (no (n := 3) (by simp [knd, hs, ht, hh, hf]))
set_option maxHeartbeats 1000000 in
theorem m_meets {σ : St} {N : Ne} {sl : Nat → Bool} {a : Int32} {k : Nat} {post : Int32 → Prop} (hN : NM σ N) (hW : WN N) (hS : MS σ N sl) (ha : a = nI k) (hk : k < nn N) (h6 : nk N k = 6) (h : post (bI (mts N sl k))) : w_X12_meets σ a post := by
  have h24 := hW.1
  obtain ⟨hn, -, hkd, hcl, hx, -⟩ := id hN
  have xl := hW.2.2.2.1 k hk h6
  have kc := hW.2.2.1 k hk (by omega)
  unfold w_X12_meets
  generalize hp : (fun c => decide (c ≠ k) && twc N sl k && twc N sl c && decide (nc N c = nc N k) && decide (nx N c = nx N k)) = p
  have hm : mts N sl k = !zc p (nn N) := by rw [← hp]; rfl
  rw [hm] at h
  refine jn_1 (fun y2 => y2 = bI (!zc p (nn N))) (fun J hJ => ?_) (fun y2 e => ⟨by rw [e]; cases zc p (nn N) <;> decide, by rw [e]; exact h⟩)
  refine lpE2_inv (I := fun y3 y4 => ∃ c, c ≤ nn N ∧ y4 = nI c ∧ y3 = bI (!zc p c)) (μ := fun _ y4 => nn N - y4.toNatClampNeg) ?_ 0 0 ⟨0, by omega, rfl, rfl⟩
  rintro rec y3 y4 ⟨c, hc, rfl, rfl⟩ hrec
  unfold w_X12_meets_L4
  refine br_le (nn N) c hn rfl (by omega) (by omega) (fun q => by rw [show c = nn N by omega]; exact hJ _ rfl) (fun q => ?_)
  have nxt : ∀ y : Int32, y = bI (!(zc p c && !p c)) → rec y (nI c + 1) := by
    intro y e
    refine hrec _ _ ⟨c + 1, q, nI_1 c, by rw [zc_s]; exact e⟩ ?_
    rw [nI_1, cl_nI (by omega), cl_nI (by omega)]; omega
  cases hzc : zc p c with
  | false => exact br_0 (by decide) (nm_of (nxt _ (by rw [hzc]; rfl)))
  | true =>
    have no : p c = false → rec 0 (nI c + 1) := fun e => nxt _ (by rw [hzc, e]; rfl)
    have yes : p c = true → rec 1 (nI c + 1) := fun e => nxt _ (by rw [hzc, e]; rfl)
    refine br_1 rfl (br_eq c k rfl ha (by omega) (by omega) (fun e => nm_of (no (by rw [← hp]; simp [e]))) (fun ek => ?_))
    refine m_isTwice hN hW hS ha hk ?_
    cases t1 : twc N sl k with
    | false => exact br_1 rfl (nm_of (no (by rw [← hp]; simp [t1])))
    | true =>
      refine br_0 (by decide) (m_isTwice hN hW hS rfl q ?_)
      cases t2 : twc N sl c with
      | false => exact br_1 rfl (nm_of (no (by rw [← hp]; simp [t2])))
      | true =>
        have c6 : nk N c = 6 := by
          simp only [twc, Bool.and_eq_true] at t2
          exact crs_6 t2.1.1.1
        have cl := hW.2.2.2.1 c q c6
        have cc := hW.2.2.1 c q (by omega)
        refine br_0 (by decide) (rd_of c rfl (by omega) (by decide) (rd_of k ha (by omega) (by decide) ?_))
        rw [hcl c q, if_pos (by omega), hcl k hk, if_pos (by omega)]
        refine br_eq (nc N c) (nc N k) rfl rfl (by omega) (by omega) (fun ec => ?_) (fun ec => nm_of (no (by rw [← hp]; simp [ec])))
        refine rd_of c rfl (by omega) (by decide) (rd_of k ha (by omega) (by decide) ?_)
        rw [hx c q, if_neg (by omega), hx k hk, if_neg (by omega)]
        exact br_eq (nx N c) (nx N k) rfl rfl (by omega) (by omega) (fun ex => nm_of (yes (by rw [← hp]; simp [ek, t1, t2, ec, ex]))) (fun ex => nm_of (no (by rw [← hp]; simp [ex])))
theorem knd_le (N : Ne) (sl : Nat → Bool) (k : Nat) : knd N sl k ≤ 4 := by
  unfold knd
  split
  · omega
  · split
    · omega
    · split
      · omega
      · split <;> omega
/-- what a crossing tells: r is its mask of foreign bits -/
theorem m_crossing {σ : St} {N : Ne} {sl : Nat → Bool} {a b : Int32} {post : Int32 → St → Prop} (hN : NM σ N) (hW : WN N) (hS : MS σ N sl)
    (h1 : ixI a (fb_ct (crs N) (nn N)) = none ∨ ixI b 5 = none → ∀ σ', fr0 σ σ' → post (-1) σ')
    (h2 : ∀ k w, a = nI (fb_ct (crs N) k) → k < nn N → crs N k = true → b = nI w → w < 5 → ∀ σ', fr0 σ σ' → ∀ v : Int32, (w = 0 → v = nI k) → (w = 1 → v = nI (knd N sl k)) → (w = 2 → v = bI (mts N sl k)) → (w = 3 → v = bI (decide (2 < knd N sl k) || mts N sl k)) → (w = 4 → ∀ i, bt v i = fgn N k i) → post v σ') : w_X12_crossing σ a b post := by
  have h24 := hW.1
  have cle := fb_ct_le (crs N) (nn N)
  unfold w_X12_crossing
  refine nm_of ?_
  have f1 := fr0_up σ
  generalize upI σ 0 0 0 = σ1 at f1
  have N1 := NM_ag (fr_ag f1 (by decide)) hN
  have S1 := MS_ag (fr_ag f1 (by decide)) hS
  refine jn_1 (fun y3 => (y3 = -1 ∧ ixI a (fb_ct (crs N) (nn N)) = none) ∨ ∃ k, y3 = nI k ∧ a = nI (fb_ct (crs N) k) ∧ k < nn N ∧ crs N k = true) (fun J hJ => ?_) ?_
  · refine br_2 (fun g => ?_) (fun g => hJ _ (Or.inl ⟨rfl, ?_⟩))
    · obtain ⟨i, hi, ei⟩ := nI_of (x := a) (fun z => (fa_of_lt z).2.1 g)
      refine m_crossingAt N1 hW ei hi (fun z => hJ _ (Or.inl ⟨rfl, ?_⟩)) (fun k hk hc e => hJ _ (Or.inr ⟨k, rfl, by rw [e]; exact ei, hk, hc⟩))
      cases hq : ixI a (fb_ct (crs N) (nn N)) with
      | none => rfl
      | some j =>
        obtain ⟨e1, hj⟩ := ixI_some (by omega) hq
        rw [ei] at e1
        have := (nI_eq hi (by omega)).mp e1
        omega
    · have : a < 0 := fa_of_nle g
      unfold ixI
      rw [if_pos this]
  rintro y3 (⟨rfl, hnone⟩ | ⟨k, rfl, ek, hk, hc⟩)
  · exact br_1 (by decide) (h1 (Or.inl hnone) σ1 f1)
  have h6 := crs_6 hc
  refine br_0 (nI_pos (by omega)) ?_
  refine w_in0 5 (by decide) (by decide) (by decide) (fun g => br_1 rfl (h1 (Or.inr g) σ1 f1)) (fun w ew hw => br_0 (by decide) ?_)
  have key := h2 k w ek hk hc ew hw σ1 f1
  have kl := knd_le N sl k
  refine br_eq w 0 ew rfl (by omega) (by omega) (fun e => key _ (fun _ => rfl) (fun z => by omega) (fun z => by omega) (fun z => by omega) (fun z => by omega)) (fun e0 => ?_)
  refine br_eq w 1 ew rfl (by omega) (by omega) (fun e => m_kindOf N1 hW S1 rfl hk h6 (key _ (fun z => by omega) (fun _ => rfl) (fun z => by omega) (fun z => by omega) (fun z => by omega))) (fun e1 => ?_)
  refine br_eq w 2 ew rfl (by omega) (by omega) (fun e => m_meets N1 hW S1 rfl hk h6 ?_) (fun e2 => ?_)
  · cases hm : mts N sl k with
    | false => exact br_1 rfl (key _ (fun z => by omega) (fun z => by omega) (fun _ => by rw [hm]; rfl) (fun z => by omega) (fun z => by omega))
    | true => exact br_0 (by decide) (key _ (fun z => by omega) (fun z => by omega) (fun _ => by rw [hm]; rfl) (fun z => by omega) (fun z => by omega))
  refine br_eq w 3 ew rfl (by omega) (by omega) (fun e => m_kindOf N1 hW S1 rfl hk h6 ?_) (fun e3 => ?_)
  · refine br_lt 2 (knd N sl k) rfl rfl (by omega) (by omega) (fun g => key _ (fun z => by omega) (fun z => by omega) (fun z => by omega) (fun _ => by rw [decide_eq_true g]; rfl) (fun z => by omega)) (fun g => m_meets N1 hW S1 rfl hk h6 ?_)
    have g' : decide (2 < knd N sl k) = false := decide_eq_false (by omega)
    cases hm : mts N sl k with
    | false => exact br_1 rfl (key _ (fun z => by omega) (fun z => by omega) (fun z => by omega) (fun _ => by rw [g', hm]; rfl) (fun z => by omega))
    | true => exact br_0 (by decide) (key _ (fun z => by omega) (fun z => by omega) (fun z => by omega) (fun _ => by rw [g', hm]; rfl) (fun z => by omega))
  exact m_foreign N1 hW rfl hk h6 (fun r hr => key _ (fun z => by omega) (fun z => by omega) (fun z => by omega) (fun z => by omega) (fun _ => hr))
