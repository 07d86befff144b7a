/-! THE CLASS: crossings -/
theorem br_b {w : Bool} {q : Prop} {post : Int32 → Prop} (hq : q ↔ w = false) (h : post (bI w)) : br q (post 0) (post 1) := by
  refine br_2 (fun z => ?_) (fun z => ?_)
  · rw [hq.mp z] at h; exact h
  · cases w with
    | false => exact absurd (hq.mpr rfl) z
    | true => exact h
theorem br_b1 {w : Bool} {q : Prop} {post : Int32 → Prop} (hq : q ↔ w = true) (h : post (bI w)) : br q (post 1) (post 0) := by
  refine br_2 (fun z => ?_) (fun z => ?_)
  · rw [hq.mp z] at h; exact h
  · cases w with
    | true => exact absurd (hq.mpr rfl) z
    | false => exact h
theorem PM_zc {N : Ne} {m : Int32} {p : Nat → Bool} (h : PM N m p) (hp : ∀ c, p c = true → c < nn N ∧ 4 < nk N c) : m = 0 ↔ zc p (nn N) = true := by
  rw [PM_zero h]
  unfold zc
  rw [decide_eq_true_iff, fb_ct_zero]
  constructor
  · intro q c hc
    cases z : p c with
    | false => rfl
    | true => rw [q c hc (hp c z).2] at z; cases z
  · intro q c hc _
    exact q c hc
theorem opt_eq' {P : Prop} {a k : Nat} {v : Int32} (ha : P → a < 2 ^ 31) (hk : k < 2 ^ 31) (h1 : P → v = nI a) (h2 : ¬ P → v = -2) : v = nI k ↔ P ∧ a = k := by
  by_cases hp : P
  · rw [h1 hp, nI_eq (ha hp) hk]; exact ⟨fun e => ⟨hp, e⟩, fun e => e.2⟩
  · rw [h2 hp]; exact ⟨fun e => absurd e.symm (nI_ne2 hk), fun e => absurd e.1 hp⟩
theorem c_crosses {σ : St} {N : Ne} {a : Int32} {c : Nat} {post : Int32 → Prop} (hN : CN σ N) (hW : WN N) (ha : a = nI c) (hc : c < nn N) (h : post (bI (crs N c))) : w_X1_crosses σ a post := by
  have h24 := hW.1
  unfold w_X1_crosses
  refine c_isKeeper hN hW (fun n => br_1 rfl ?_) (fun j e hj h6 => br_0 (by decide) ?_)
  · have : crs N c = false := by simp [crs, n c ha hc]
    rw [this] at h; exact h
  have : j = c := (nI_eq (by omega) (by omega)).mp (by rw [← e, ha])
  subst this
  refine c_foreignBits hN hW ha hj h6 (fun r hr => br_b (w := crs N j) ?_ h)
  rw [PM_zc hr (fun b hb => fgn_lt hW hj h6 hb)]
  unfold crs
  rw [decide_eq_true h6, Bool.true_and, Bool.not_eq_false']
theorem c_size {σ : St} {N : Ne} {post : Int32 → Prop} (hN : CN σ N) (hW : WN N) (h : post (nI (fb_ct (crs N) (nn N)))) : w_X1_size σ post := by
  have h24 := hW.1
  unfold w_X1_size
  refine jn_at ?_
  refine lpE2_inv (I := fun y3 y4 => ∃ c, c ≤ nn N ∧ y4 = nI c ∧ y3 = nI (fb_ct (crs N) c)) (μ := fun _ y4 => nn N - y4.toNatClampNeg) ?_ 0 0 ⟨0, by omega, rfl, rfl⟩
  rintro rec y3 y4 ⟨c, hc, rfl, rfl⟩ hrec
  unfold w_X1_size_L4
  refine br_le (nn N) c hN.1 rfl (by omega) (by omega) (fun q => by rw [show c = nn N by omega]; exact h) (fun q => ?_)
  have dec : nn N - (nI c + 1).toNatClampNeg < nn N - (nI c).toNatClampNeg := by rw [nI_1, cl_nI (by omega), cl_nI (by omega)]; omega
  refine c_crosses hN hW rfl q ?_
  cases t : crs N c with
  | false => exact br_1 rfl (nm_of (hrec _ _ ⟨c + 1, q, nI_1 c, by rw [fb_ct_succ, t]; rfl⟩ dec))
  | true => exact br_0 (by decide) (nm_of (nm_of (hrec _ _ ⟨c + 1, q, nI_1 c, by rw [fb_ct_succ, t, nI_1]; rfl⟩ dec)))
theorem c_keeperOf {σ : St} {N : Ne} {a : Int32} {post : Int32 → Prop} (hN : CN σ N) (hW : WN N) (h1 : ixI a (fb_ct (crs N) (nn N)) = none → post (-1)) (h2 : ∀ k, a = nI (fb_ct (crs N) k) → k < nn N → crs N k = true → post (nI k)) : w_X1_keeperOf σ a post := by
  have h24 := hW.1
  unfold w_X1_keeperOf
  refine jn_at ?_
  refine lpE2_inv (I := fun y2 y3 => ∃ c, c ≤ nn N ∧ y3 = nI c ∧ a = y2 + nI (fb_ct (crs N) c) ∧ ∀ d, d < c → crs N d = true → a ≠ nI (fb_ct (crs N) d)) (μ := fun _ y3 => nn N - y3.toNatClampNeg) ?_ a 0 ⟨0, by omega, rfl, by show a = a + 0; rw [Int32.add_zero], fun c z => absurd z (Nat.not_lt_zero _)⟩
  rintro rec y2 y3 ⟨c, hc, rfl, ea, hno⟩ hrec
  unfold w_X1_keeperOf_L4
  refine br_le (nn N) c hN.1 rfl (by omega) (by omega) (fun q => h1 ?_) (fun q => ?_)
  · have l := fb_ct_le (crs N) (nn N)
    rcases ix1 (a := a) (n := fb_ct (crs N) (nn N)) (by omega) with z | ⟨j, ej, hj, -⟩
    · exact z
    · obtain ⟨d, hd, hed, ec⟩ := fb_ct_kth hj
      exact absurd (by rw [ej, ec]) (hno d (by omega) hed)
  have dec : nn N - (nI c + 1).toNatClampNeg < nn N - (nI c).toNatClampNeg := by rw [nI_1, cl_nI (by omega), cl_nI (by omega)]; omega
  refine c_crosses hN hW rfl q ?_
  cases t : crs N c with
  | false =>
    refine br_1 rfl (nm_of (hrec _ _ ⟨c + 1, q, nI_1 c, ?_, fun d hd hed => ?_⟩ dec))
    · rw [fb_ct_succ, t, if_neg (by decide), Nat.add_zero]; exact ea
    · rcases (show d < c ∨ d = c by omega) with z | z
      · exact hno d z hed
      · rw [z, t] at hed; cases hed
  | true =>
    refine br_0 (by decide) (br_2 (fun z => h2 c ((dn0 ea).mp z) q t) (fun z => nm_of (nm_of (hrec _ _ ⟨c + 1, q, nI_1 c, ?_, fun d hd hed => ?_⟩ dec))))
    · rw [fb_ct_succ, t, if_pos rfl, dn1]; exact ea
    · rcases (show d < c ∨ d = c by omega) with y | y
      · exact hno d y hed
      · rw [y]; exact fun n => z ((dn0 ea).mpr n)
theorem c_isStill {σ : St} {N : Ne} {sl : Nat → Bool} {a : Int32} {k : Nat} {post : Int32 → Prop} (hN : CN σ N) (hW : WN N) (hS : CS σ N sl) (ha : a = nI k) (hk : k < nn N) (h6 : nk N k = 6) (h : post (bI (ast N sl k))) : w_X1_isStill σ a post := by
  unfold w_X1_isStill
  refine c_foreignBits hN hW ha hk h6 (fun r hr => br_b1 (w := ast N sl k) ?_ h)
  exact PM_zc (PM_andn hW hr hS) (fun b hb => fgn_lt hW hk h6 ((Bool.and_eq_true _ _).mp hb).1)
theorem c_isPassedOn {σ : St} {N : Ne} {a : Int32} {k : Nat} {post : Int32 → Prop} (hN : CN σ N) (hW : WN N) (ha : a = nI k) (hk : k < nn N) (h6 : nk N k = 6) (h : post (bI (usd N k))) : w_X1_isPassedOn σ a post := by
  have h24 := hW.1
  have fin0 : ∀ c, c < nn N → bdu N k c = true → post 0 := by
    intro c hc hb
    have : usd N k = false := by
      unfold usd zc
      have : fb_ct (bdu N k) (nn N) ≠ 0 := fun z => by rw [fb_ct_zero.mp z c hc] at hb; cases hb
      simp [this]
    rw [this] at h; exact h
  unfold w_X1_isPassedOn
  refine jn_at ?_
  refine lpE2_inv (I := fun y4 y5 => ∃ c, c ≤ nn N ∧ y5 = nI c ∧ y4 = nI (fb_ct (kus N k) c) ∧ zc (bdu N k) c = true) (μ := fun _ y5 => nn N - y5.toNatClampNeg) ?_ 0 0 ⟨0, by omega, rfl, rfl, rfl⟩
  rintro rec y4 y5 ⟨c, hc, rfl, rfl, hz⟩ hrec
  have kl := fb_ct_le (kus N k) c
  unfold w_X1_isPassedOn_L4
  refine br_le (nn N) c hN.1 rfl (by omega) (by omega) (fun q => ?_) (fun q => ?_)
  · have e : c = nn N := by omega
    subst e
    refine br_b1 (w := usd N k) ?_ h
    unfold usd
    rw [hz, Bool.true_and, decide_eq_true_iff]
    exact nI_eq (by omega) (by decide)
  have dec : nn N - (nI c + 1).toNatClampNeg < nn N - (nI c).toNatClampNeg := by rw [nI_1, cl_nI (by omega), cl_nI (by omega)]; omega
  have k6 := hW.2.1 c q
  have x31 : nk N c ≠ 5 → nx N c < 2 ^ 31 := fun n => by
    by_cases g : nk N c = 6
    · have := hW.2.2.2.1 c q g; omega
    · have := (hW.2.2.2.2.1 c q (by omega)).1; omega
  have y31 : nk N c ≤ 4 ∧ nk N c ≠ 3 → ny N c < 2 ^ 31 := fun n => by have := (hW.2.2.2.2.2.1 c q n.1 n.2).1; omega
  have z31 : nk N c = 4 → nz N c < 2 ^ 31 := fun n => by have := (hW.2.2.2.2.2.2.1 c q n).1; omega
  have ex : σ.1 10 c = nI k ↔ nk N c ≠ 5 ∧ nx N c = k := opt_eq' x31 (by omega) (fun g => by rw [hN.2.2.2.2.1 c q, if_neg g]) (fun g => by rw [hN.2.2.2.2.1 c q, if_pos (Classical.byContradiction g)])
  have ey : σ.1 11 c = nI k ↔ (nk N c ≤ 4 ∧ nk N c ≠ 3) ∧ ny N c = k := opt_eq' y31 (by omega) (fun g => by rw [hN.2.2.2.2.2.1 c q, if_pos g]) (fun g => by rw [hN.2.2.2.2.2.1 c q, if_neg g])
  have ez : σ.1 12 c = nI k ↔ nk N c = 4 ∧ nz N c = k := opt_eq' z31 (by omega) (fun g => by rw [hN.2.2.2.2.2.2.1 c q, if_pos g]) (fun g => by rw [hN.2.2.2.2.2.2.1 c q, if_neg g])
  have use : (lks N k c || kus N k c) = true ↔ (σ.1 10 c = nI k ∨ σ.1 11 c = nI k ∨ σ.1 12 c = nI k) := by
    rw [ex, ey, ez]
    simp only [lks, kus, Bool.or_eq_true, Bool.and_eq_true, decide_eq_true_eq]
    constructor
    · rintro (⟨g, (g1 | g1) | g1⟩ | ⟨g, g1⟩)
      · exact Or.inl ⟨by omega, g1⟩
      · exact Or.inr (Or.inl ⟨⟨g, g1.1⟩, g1.2⟩)
      · exact Or.inr (Or.inr g1)
      · exact Or.inl ⟨by omega, g1⟩
    · rintro (g | g | g)
      · by_cases u : nk N c = 6
        · exact Or.inr ⟨u, g.2⟩
        · exact Or.inl ⟨by omega, Or.inl (Or.inl g.2)⟩
      · exact Or.inl ⟨g.1.1, Or.inl (Or.inr ⟨g.1.2, g.2⟩)⟩
      · exact Or.inl ⟨by omega, Or.inr g⟩
  refine rd_of c rfl (by omega) (by decide) ?_
  rw [ha]
  refine jn_0 ((lks N k c || kus N k c) = true) (fun K hK => ?_) (fun hu => ?_)
  · refine br_2 (fun z => hK (use.mpr (Or.inl z))) (fun z1 => rd_of c rfl (by omega) (by decide) ?_)
    refine br_2 (fun z => hK (use.mpr (Or.inr (Or.inl z)))) (fun z2 => rd_of c rfl (by omega) (by decide) ?_)
    refine br_2 (fun z => hK (use.mpr (Or.inr (Or.inr z)))) (fun z3 => nm_of (hrec _ _ ⟨c + 1, q, nI_1 c, ?_, ?_⟩ dec))
    all_goals
      have nu : (lks N k c || kus N k c) = false := by
        cases w : (lks N k c || kus N k c) with
        | false => rfl
        | true =>
          rcases use.mp w with z | z | z
          · exact absurd z z1
          · exact absurd z z2
          · exact absurd z z3
      have nu2 := (Bool.or_eq_false_iff.mp nu)
    · rw [fb_ct_succ, nu2.2]; rfl
    · rw [zc_s, hz, Bool.true_and]
      unfold bdu
      rw [nu2.1, nu2.2]; rfl
  · refine br_eq c k rfl rfl (by omega) (by omega) (fun e => fin0 c q ?_) (fun e => ?_)
    · have ck : lks N k c = false := by unfold lks; rw [e, h6]; rfl
      rw [ck, Bool.false_or] at hu
      unfold bdu
      rw [hu, decide_eq_true e]; simp
    refine c_isKeeper hN hW (fun n => br_1 rfl (fin0 c q ?_)) (fun j ej hj j6 => br_0 (by decide) ?_)
    · have : kus N k c = false := by unfold kus; rw [decide_eq_false (n c rfl q)]; rfl
      rw [this, Bool.or_false] at hu
      unfold bdu
      rw [hu]; rfl
    have : j = c := (nI_eq (by omega) (by omega)).mp ej.symm
    subst this
    have cj := hW.2.2.1 j q (by omega)
    have ck := hW.2.2.1 k hk (by omega)
    refine rd_of j rfl (by omega) (by decide) (rd_of k rfl (by omega) (by decide) ?_)
    rw [hN.2.2.2.1 j q, if_pos (by omega), hN.2.2.2.1 k hk, if_pos (by omega)]
    have lk : lks N k j = false := by unfold lks; rw [decide_eq_false (by omega)]; rfl
    rw [lk, Bool.false_or] at hu
    refine br_eq (nc N j) (nc N k) rfl rfl (by omega) (by omega) (fun g => nm_of (nm_of (hrec _ _ ⟨j + 1, q, nI_1 j, ?_, ?_⟩ dec))) (fun g => fin0 j q ?_)
    · rw [fb_ct_succ, hu, nI_1]; rfl
    · rw [zc_s, hz, Bool.true_and]
      unfold bdu
      rw [lk, decide_eq_false e, decide_eq_false (by simp [g])]; simp
    · unfold bdu
      rw [hu, decide_eq_true g]; simp
/-- a crossing whose source is a bit has a foreign one -/
theorem fbt_crs {N : Ne} {k : Nat} (h : crs N k = true) (hb : 4 < nk N (nx N k)) : fbt N (nx N k) k = true := by
  unfold crs zc at h
  rw [Bool.and_eq_true, Bool.not_eq_true', decide_eq_false_iff_not] at h
  obtain ⟨b, hbn, hf⟩ := fb_ct_pos.mp (Nat.pos_of_ne_zero h.2)
  unfold fgn at hf
  rw [HG_bit N hb] at hf
  simp only [Bool.and_eq_true, decide_eq_true_eq] at hf
  obtain ⟨⟨-, e⟩, n⟩ := hf
  unfold fbt
  rw [decide_eq_true hb, decide_eq_true (by rw [← e]; exact n)]; rfl
theorem c_isTwice {σ : St} {N : Ne} {sl : Nat → Bool} {a : Int32} {k : Nat} {post : Int32 → Prop} (hN : CN σ N) (hW : WN N) (hS : CS σ N sl) (ha : a = nI k) (hk : k < nn N) (h : post (bI (twc N sl k))) : w_X1_isTwice σ a post := by
  have h24 := hW.1
  unfold w_X1_isTwice
  refine c_crosses hN hW ha hk ?_
  unfold twc at h
  cases t1 : crs N k with
  | false => rw [t1] at h; exact br_1 rfl h
  | true =>
    have h6 := crs_6 t1
    have hx := hW.2.2.2.1 k hk h6
    refine br_0 (by decide) (c_isStill hN hW hS ha hk h6 ?_)
    cases t2 : ast N sl k with
    | true => rw [t1, t2] at h; exact br_0 (by decide) h
    | false =>
      refine br_1 rfl (rd_of k ha (by omega) (by decide) ?_)
      rw [hN.2.2.2.2.1 k hk, if_neg (by omega)]
      refine c_isBit hN hW (fun n => br_1 rfl ?_) (fun j e hj j4 => br_0 (by decide) ?_)
      · have : fbt N (nx N k) k = false := by
          unfold fbt
          have := n (nx N k) rfl hx
          rw [decide_eq_false (by omega)]; rfl
        rw [this, Bool.and_false, Bool.false_and] at h
        exact h
      · have : j = nx N k := (nI_eq (by omega) (by omega)).mp e.symm
        rw [this] at j4
        rw [t1, t2, fbt_crs t1 j4] at h
        refine c_isPassedOn hN hW ha hk h6 ?_
        exact br_b (bI_zero _) h
theorem c_isHeld {σ : St} {N : Ne} {sl : Nat → Bool} {a b : Int32} {k : Nat} {post : Int32 → Prop} (hN : CN σ N) (hW : WN N) (hS : CS σ N sl) (ha : a = nI k) (hk : k < nn N) (h6 : nk N k = 6) (hb : b = nI (nx N k)) (h : post (bI (hel N sl k))) : w_X1_isHeld σ a b post := by
  have h24 := hW.1
  have hx := hW.2.2.2.1 k hk h6
  have kx := hW.2.1 _ hx
  have kc := hW.2.2.1 k hk (by omega)
  have no : hel N sl k = false → post 0 := fun e => by rw [e] at h; exact h
  unfold w_X1_isHeld
  refine rd_of (nx N k) hb (by omega) (by decide) ?_
  rw [hN.2.2.1 _ hx]
  refine br_eq (nk N (nx N k)) 4 rfl rfl (by omega) (by omega) (fun e4 => ?_) (fun e4 => no (by unfold hel; rw [decide_eq_false e4]; rfl))
  have rx := (hW.2.2.2.2.1 _ hx (by omega)).1
  have ry := (hW.2.2.2.2.2.1 _ hx (by omega) (by omega)).1
  have rz := (hW.2.2.2.2.2.2.1 _ hx e4).1
  refine rd_of (nx N k) hb (by omega) (by decide) ?_
  rw [hN.2.2.2.2.2.2.1 _ hx, if_pos e4]
  refine br_eq (nz N (nx N k)) k rfl ha (by omega) (by omega) (fun ez => ?_) (fun ez => no (by unfold hel; rw [decide_eq_false ez]; simp))
  refine rd_of (nx N k) hb (by omega) (by decide) (rd_of (nx N k) hb (by omega) (by decide) ?_)
  rw [hN.2.2.2.2.1 _ hx, if_neg (by omega), hN.2.2.2.2.2.1 _ hx, if_pos ⟨by omega, by omega⟩]
  refine c_isBit hN hW (fun n => br_1 rfl (no ?_)) (fun j e hj j4 => br_0 (by decide) ?_)
  · have := n _ rfl ry
    unfold hel fbt
    rw [decide_eq_false (show ¬ 4 < nk N (ny N (nx N k)) by omega)]; simp
  have : j = ny N (nx N k) := (nI_eq (by omega) (by omega)).mp e.symm
  subst this
  have cy := hW.2.2.1 _ ry j4
  refine rd_of (ny N (nx N k)) rfl (by omega) (by decide) (rd_of k ha (by omega) (by decide) ?_)
  rw [hN.2.2.2.1 _ ry, if_pos j4, hN.2.2.2.1 _ hk, if_pos (by omega)]
  refine br_eq (nc N (ny N (nx N k))) (nc N k) rfl rfl (by omega) (by omega) (fun g => no ?_) (fun g => ?_)
  · unfold hel fbt
    rw [decide_eq_false (show ¬ nc N (ny N (nx N k)) ≠ nc N k by simp [g])]; simp
  refine c_isKeeper hN hW (fun n => br_1 rfl (no ?_)) (fun j e2 hj2 j6 => br_0 (by decide) ?_)
  · unfold hel
    rw [decide_eq_false (n _ rfl rx)]; simp
  have : j = nx N (nx N k) := (nI_eq (by omega) (by omega)).mp e2.symm
  subst this
  have cx := hW.2.2.1 _ rx (by omega)
  refine rd_of (nx N (nx N k)) rfl (by omega) (by decide) (rd_of k ha (by omega) (by decide) ?_)
  rw [hN.2.2.2.1 _ rx, if_pos (by omega), hN.2.2.2.1 _ hk, if_pos (by omega)]
  refine br_eq (nc N (nx N (nx N k))) (nc N k) rfl rfl (by omega) (by omega) (fun g2 => ?_) (fun g2 => no ?_)
  · have rxx := hW.2.2.2.1 _ rx j6
    refine rd_of (nx N (nx N k)) rfl (by omega) (by decide) ?_
    rw [hN.2.2.2.2.1 _ rx, if_neg (by omega)]
    refine c_isTwice hN hW hS rfl rxx ?_
    refine br_b (bI_zero _) ?_
    have he : hel N sl k = twc N sl (nx N (nx N (nx N k))) := by
      have fb : fbt N (ny N (nx N k)) k = true := by unfold fbt; rw [decide_eq_true j4, decide_eq_true g]; rfl
      unfold hel
      rw [decide_eq_true e4, fb, decide_eq_true ez, decide_eq_true j6, decide_eq_true g2]
      cases t : twc N sl (nx N (nx N (nx N k))) with
      | false => simp
      | true =>
        have : crs N (nx N (nx N (nx N k))) = true := by
          unfold twc at t
          exact ((Bool.and_eq_true _ _).mp ((Bool.and_eq_true _ _).mp ((Bool.and_eq_true _ _).mp t).1).1).1
        rw [decide_eq_true (crs_6 this)]; rfl
    rw [← he]; exact h
  · unfold hel
    rw [decide_eq_false g2]; simp
theorem c_kindOf {σ : St} {N : Ne} {sl : Nat → Bool} {a : Int32} {k : Nat} {post : Int32 → Prop} (hN : CN σ N) (hW : WN N) (hS : CS σ N sl) (ha : a = nI k) (hk : k < nn N) (hc : crs N k = true) (h : post (nI (knd N sl k))) : w_X1_kindOf σ a post := by
  have h24 := hW.1
  have h6 := crs_6 hc
  have hx := hW.2.2.2.1 k hk h6
  unfold w_X1_kindOf
  refine rd_of k ha (by omega) (by decide) ?_
  rw [hN.2.2.2.2.1 k hk, if_neg (by omega)]
  unfold knd at h
  refine c_isStill hN hW hS ha hk h6 ?_
  cases t1 : ast N sl k with
  | true => rw [t1] at h; exact br_0 (by decide) h
  | false =>
    rw [t1, if_neg (by decide)] at h
    refine br_1 rfl (c_isTwice hN hW hS ha hk ?_)
    cases t2 : twc N sl k with
    | true => rw [t2] at h; exact br_0 (by decide) h
    | false =>
      rw [t2, if_neg (by decide)] at h
      refine br_1 rfl (c_isHeld hN hW hS ha hk h6 rfl ?_)
      cases t3 : hel N sl k with
      | true => rw [t3] at h; exact br_0 (by decide) h
      | false =>
        rw [t3, if_neg (by decide)] at h
        refine br_1 rfl (c_isBit hN hW (fun n => br_1 rfl ?_) (fun j e hj j4 => br_0 (by decide) ?_))
        · have := n _ rfl hx
          have : fbt N (nx N k) k = false := by unfold fbt; rw [decide_eq_false (by omega)]; rfl
          rw [this] at h; exact h
        · have : j = nx N k := (nI_eq (by omega) (by omega)).mp e.symm
          rw [this] at j4
          rw [fbt_crs hc j4] at h; exact h
theorem twc_6 {N : Ne} {sl : Nat → Bool} {k : Nat} (h : twc N sl k = true) : nk N k = 6 := by
  unfold twc at h
  exact crs_6 ((Bool.and_eq_true _ _).mp ((Bool.and_eq_true _ _).mp ((Bool.and_eq_true _ _).mp h).1).1).1
theorem c_meets {σ : St} {N : Ne} {sl : Nat → Bool} {a : Int32} {k : Nat} {post : Int32 → Prop} (hN : CN σ N) (hW : WN N) (hS : CS σ N sl) (ha : a = nI k) (hk : k < nn N) (h6 : nk N k = 6) (h : post (bI (mts N sl k))) : w_X1_meets σ a post := by
  have h24 := hW.1
  have kc := hW.2.2.1 k hk (by omega)
  have kx := hW.2.2.2.1 k hk h6
  unfold w_X1_meets
  refine c_isTwice hN hW hS ha hk ?_
  cases t : twc N sl k with
  | false =>
    refine br_1 rfl ?_
    have : mts N sl k = false := by
      unfold mts zc
      rw [Bool.not_eq_false', decide_eq_true_iff, fb_ct_zero]
      intro c _
      rw [t]; simp
    rw [this] at h; exact h
  | true =>
    refine br_0 (by decide) (jn_at ?_)
    have mi : ∀ c, (decide (c ≠ k) && twc N sl k && twc N sl c && decide (nc N c = nc N k) && decide (nx N c = nx N k)) = true ↔ c ≠ k ∧ twc N sl c = true ∧ nc N c = nc N k ∧ nx N c = nx N k := by
      intro c
      simp only [Bool.and_eq_true, decide_eq_true_eq, t, true_and, and_true, and_assoc]
    refine lpE1_inv (I := fun y5 => ∃ c, c ≤ nn N ∧ y5 = nI c ∧ ∀ d, d < c → ¬ (d ≠ k ∧ twc N sl d = true ∧ nc N d = nc N k ∧ nx N d = nx N k)) (μ := fun y5 => nn N - y5.toNatClampNeg) ?_ 0 ⟨0, by omega, rfl, fun d hd => absurd hd (Nat.not_lt_zero d)⟩
    rintro rec y5 ⟨c, hc, rfl, hno⟩ hrec
    unfold w_X1_meets_L12
    refine br_le (nn N) c hN.1 rfl (by omega) (by omega) (fun q => ?_) (fun q => ?_)
    · have : mts N sl k = false := by
        unfold mts zc
        rw [Bool.not_eq_false', decide_eq_true_iff, fb_ct_zero]
        intro d hd
        refine Bool.eq_false_iff.mpr (fun z => hno d (by omega) ((mi d).mp z))
      rw [this] at h; exact h
    have dec : nn N - (nI c + 1).toNatClampNeg < nn N - (nI c).toNatClampNeg := by rw [nI_1, cl_nI (by omega), cl_nI (by omega)]; omega
    have nx1 : ¬ (c ≠ k ∧ twc N sl c = true ∧ nc N c = nc N k ∧ nx N c = nx N k) → rec (nI c + 1) := fun n => hrec _ ⟨c + 1, q, nI_1 c, fun d hd => by
      rcases (show d < c ∨ d = c by omega) with y | y
      · exact hno d y
      · rw [y]; exact n⟩ dec
    refine br_eq c k rfl ha (by omega) (by omega) (fun e => nm_of (nx1 (fun z => z.1 e))) (fun e => ?_)
    refine c_isTwice hN hW hS rfl q ?_
    cases t2 : twc N sl c with
    | false => exact br_1 rfl (nm_of (nx1 (fun z => by rw [t2] at z; exact absurd z.2.1 (by decide))))
    | true =>
      have c6 := twc_6 t2
      have cc := hW.2.2.1 c q (by omega)
      have cx := hW.2.2.2.1 c q c6
      refine br_0 (by decide) (rd_of c rfl (by omega) (by decide) (rd_of k ha (by omega) (by decide) ?_))
      rw [hN.2.2.2.1 c q, if_pos (by omega), hN.2.2.2.1 k hk, if_pos (by omega)]
      refine br_eq (nc N c) (nc N k) rfl rfl (by omega) (by omega) (fun e1 => ?_) (fun e1 => nm_of (nx1 (fun z => e1 z.2.2.1)))
      refine rd_of c rfl (by omega) (by decide) (rd_of k ha (by omega) (by decide) ?_)
      rw [hN.2.2.2.2.1 c q, if_neg (by omega), hN.2.2.2.2.1 k hk, if_neg (by omega)]
      refine br_eq (nx N c) (nx N k) rfl rfl (by omega) (by omega) (fun e2 => ?_) (fun e2 => nm_of (nx1 (fun z => e2 z.2.2.2)))
      have : mts N sl k = true := by
        unfold mts zc
        rw [Bool.not_eq_true', decide_eq_false_iff_not, fb_ct_zero]
        intro z
        have z1 := z c q
        rw [(mi c).mpr ⟨e, t2, e1, e2⟩] at z1
        cases z1
      rw [this] at h; exact h
theorem c_crossings {σ : St} {N : Ne} {post : Int32 → Prop} (hN : CN σ N) (hW : WN N) (h : post (nI (fb_ct (crs N) (nn N)))) : w_X11_crossings σ post := by
  unfold w_X11_crossings
  exact c_size hN hW h
theorem c_isBad {σ : St} {N : Ne} {sl : Nat → Bool} {a : Int32} {k : Nat} {post : Int32 → Prop} (hN : CN σ N) (hW : WN N) (hS : CS σ N sl) (ha : a = nI k) (hk : k < nn N) (hc : crs N k = true) (h : post (bI (decide (2 < knd N sl k) || mts N sl k))) : w_X1_isBad σ a post := by
  have l := knd_le N sl k
  unfold w_X1_isBad
  refine c_kindOf hN hW hS ha hk hc ?_
  refine br_le 3 (knd N sl k) rfl rfl (by omega) (by omega) (fun z => ?_) (fun z => ?_)
  · rw [decide_eq_true (show 2 < knd N sl k by omega), Bool.true_or] at h; exact h
  · rw [decide_eq_false (show ¬ 2 < knd N sl k by omega), Bool.false_or] at h
    refine c_meets hN hW hS ha hk (crs_6 hc) ?_
    exact br_b (bI_zero _) h
theorem c_crossing {σ : St} {N : Ne} {sl : Nat → Bool} {a b : Int32} {post : Int32 → Prop} (hN : CN σ N) (hW : WN N) (hS : CS σ N sl)
    (h1 : ixI a (fb_ct (crs N) (nn N)) = none ∨ ixI b 5 = none → post (-1))
    (h2 : ∀ k w, a = nI (fb_ct (crs N) k) → k < nn N → crs N k = true → b = nI w → w < 5 → ∀ v : Int32, (w = 0 → v = nI k) → (w = 1 → v = nI (knd N sl k)) → (w = 2 → v = bI (mts N sl k)) → (w = 3 → v = bI (decide (2 < knd N sl k) || mts N sl k)) → (w = 4 → ∀ i, bt v i = fgn N k i) → post v) : w_X11_crossing σ a b post := by
  have h24 := hW.1
  unfold w_X11_crossing
  refine c_keeperOf hN hW (fun z => br_0 (by decide) (h1 (Or.inl z))) (fun k ek hk hc => br_1 (nI_pos' (by omega)) ?_)
  have h6 := crs_6 hc
  rcases ix1 (a := b) (n := 5) (by decide) with q | ⟨w, ew, hw, -⟩
  · have ne : ∀ j, j < 5 → ¬ b = nI j := fun j hj e => by rw [e, ixI_nI (by decide) hj] at q; cases q
    exact br_0 (ne 0 (by decide)) (br_0 (ne 1 (by decide)) (br_0 (ne 2 (by decide)) (br_0 (ne 3 (by decide)) (br_0 (ne 4 (by decide)) (h1 (Or.inr q))))))
  have hp := h2 k w ek hk hc ew hw
  refine br_eq w 0 ew rfl (by omega) (by omega) (fun e => hp _ (fun _ => rfl) (fun n => by omega) (fun n => by omega) (fun n => by omega) (fun n => by omega)) (fun n0 => ?_)
  refine br_eq w 1 ew rfl (by omega) (by omega) (fun e => c_kindOf hN hW hS rfl hk hc (hp _ (fun n => by omega) (fun _ => rfl) (fun n => by omega) (fun n => by omega) (fun n => by omega))) (fun n1 => ?_)
  refine br_eq w 2 ew rfl (by omega) (by omega) (fun e => c_meets hN hW hS rfl hk h6 (br_b (bI_zero _) (hp _ (fun n => by omega) (fun n => by omega) (fun _ => rfl) (fun n => by omega) (fun n => by omega)))) (fun n2 => ?_)
  refine br_eq w 3 ew rfl (by omega) (by omega) (fun e => c_isBad hN hW hS rfl hk hc (br_b (bI_zero _) (hp _ (fun n => by omega) (fun n => by omega) (fun n => by omega) (fun _ => rfl) (fun n => by omega)))) (fun n3 => ?_)
  refine br_1 (by rw [ew, show w = 4 by omega]; rfl) (c_foreignBits hN hW rfl hk h6 (fun r hr => c_asCells hN hW hr (fun r2 h2' => hp _ (fun n => by omega) (fun n => by omega) (fun n => by omega) (fun n => by omega) (fun _ i => ?_))))
  rw [h2' i]
  cases f : fgn N k i with
  | false => simp
  | true =>
    obtain ⟨i1, i2⟩ := fgn_lt hW hk h6 f
    rw [decide_eq_true i1, isB_t i2]; rfl
theorem c_look {σ : St} {N : Ne} {a b : Int32} {post : Int32 → Prop} (hN : CN σ N) (hW : WN N) (h1 : ixI a (nn N) = none ∨ ixI b 5 = none → post (-1)) (h2 : ∀ c w, a = nI c → c < nn N → b = nI w → w < 5 → post (lok N c w)) : w_X11_look σ a b post := by
  have h24 := hW.1
  unfold w_X11_look
  refine c_isCell hN.1 hW (fun g => br_1 rfl (h1 (Or.inl g))) (fun c ec hc => br_0 (by decide) ?_)
  rcases ix1 (a := b) (n := 5) (by decide) with q | ⟨w, ew, hw, -⟩
  · have ne : ∀ j, j < 5 → ¬ b = nI j := fun j hj e => by rw [e, ixI_nI (by decide) hj] at q; cases q
    exact br_0 (ne 0 (by decide)) (br_0 (ne 1 (by decide)) (br_0 (ne 2 (by decide)) (br_0 (ne 3 (by decide)) (br_0 (ne 4 (by decide)) (h1 (Or.inr q))))))
  have hp := h2 c w ec hc ew hw
  unfold lok at hp
  refine br_eq w 0 ew rfl (by omega) (by omega) (fun e => rd_of c ec (by omega) (by decide) ?_) (fun n0 => ?_)
  · rw [if_pos e] at hp; rw [hN.2.2.1 c hc]; exact hp
  rw [if_neg n0] at hp
  refine br_eq w 1 ew rfl (by omega) (by omega) (fun e => rd_of c ec (by omega) (by decide) ?_) (fun n1 => ?_)
  · rw [if_pos e] at hp; rw [hN.2.2.2.1 c hc]; exact hp
  rw [if_neg n1] at hp
  refine br_eq w 2 ew rfl (by omega) (by omega) (fun e => rd_of c ec (by omega) (by decide) ?_) (fun n2 => ?_)
  · rw [if_pos e] at hp; rw [hN.2.2.2.2.1 c hc]; exact hp
  rw [if_neg n2] at hp
  refine br_eq w 3 ew rfl (by omega) (by omega) (fun e => rd_of c ec (by omega) (by decide) ?_) (fun n3 => ?_)
  · rw [if_pos e] at hp; rw [hN.2.2.2.2.2.1 c hc]; exact hp
  rw [if_neg n3] at hp
  refine br_1 (by rw [ew, show w = 4 by omega]; rfl) (rd_of c ec (by omega) (by decide) ?_)
  rw [hN.2.2.2.2.2.2.1 c hc]; exact hp
