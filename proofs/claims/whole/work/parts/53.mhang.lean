/-! ON WHICH BITS A CELL HANGS; CROSSINGS (the reference) -/
def hv (N : Ne) : Nat → Nat → Nat → Bool
  | 0 => fun c b => decide (b = c) && isB N c
  | k + 1 => fun c b => if c = k ∧ nk N k ≤ 4 then (hv N k (nx N k) b || (decide (nk N k ≠ 3) && hv N k (ny N k) b)) || (decide (nk N k = 4) && hv N k (nz N k) b) else hv N k c b
def HG (N : Ne) : Nat → Nat → Bool := hv N (nn N)
theorem hv_bit (N : Ne) {c : Nat} (h : 4 < nk N c) (b : Nat) : ∀ k, hv N k c b = decide (b = c)
  | 0 => by show (decide (b = c) && isB N c) = _; simp [isB, h]
  | k + 1 => by
    show (if c = k ∧ nk N k ≤ 4 then _ else hv N k c b) = _
    rw [if_neg (by rintro ⟨rfl, q⟩; omega), hv_bit N h b k]
theorem hv_keep (N : Ne) {c k : Nat} (h : c < k) (b : Nat) : ∀ d, hv N (k + d) c b = hv N k c b
  | 0 => rfl
  | d + 1 => by
    show (if c = k + d ∧ nk N (k + d) ≤ 4 then _ else hv N (k + d) c b) = _
    rw [if_neg (by omega), hv_keep N h b d]
theorem hv_done (N : Ne) {c k n : Nat} (h : c < k) (hk : k ≤ n) (b : Nat) : hv N n c b = hv N k c b := by
  have := hv_keep N h b (n - k)
  rwa [show k + (n - k) = n by omega] at this
theorem hv_rf {N : Ne} {c r : Nat} (hr : rf N c r) (hc : c ≤ nn N) (b : Nat) : hv N c r b = HG N r b := by
  rcases Nat.lt_or_ge 4 (nk N r) with h | h
  · unfold HG; rw [hv_bit N h, hv_bit N h]
  · exact (hv_done N (hr.2 h) hc b).symm
theorem HG_bit (N : Ne) {c : Nat} (h : 4 < nk N c) (b : Nat) : HG N c b = decide (b = c) := hv_bit N h b _
/-- what a gate looks at -/
def looks (N : Ne) (c r : Nat) : Prop := r = nx N c ∨ (nk N c ≠ 3 ∧ r = ny N c) ∨ (nk N c = 4 ∧ r = nz N c)
theorem looks_rf {N : Ne} (hW : WN N) {c r : Nat} (hc : c < nn N) (hk : nk N c ≤ 4) (h : looks N c r) : rf N c r := by
  rcases h with rfl | ⟨h, rfl⟩ | ⟨h, rfl⟩
  · exact hW.2.2.2.2.1 c hc hk
  · exact hW.2.2.2.2.2.1 c hc hk h
  · exact hW.2.2.2.2.2.2.1 c hc h
theorem HG_gate {N : Ne} (hW : WN N) {c : Nat} (hc : c < nn N) (hk : nk N c ≤ 4) (b : Nat) : HG N c b = true ↔ ∃ r, looks N c r ∧ HG N r b = true := by
  have e : HG N c b = hv N (c + 1) c b := hv_done N (Nat.lt_succ_self c) (by omega) b
  have lr := fun r h => hv_rf (looks_rf hW (r := r) hc hk h) (by omega) b
  rw [e]
  show (if c = c ∧ nk N c ≤ 4 then (hv N c (nx N c) b || (decide (nk N c ≠ 3) && hv N c (ny N c) b)) || (decide (nk N c = 4) && hv N c (nz N c) b) else hv N c c b) = true ↔ _
  rw [if_pos ⟨rfl, hk⟩]
  simp only [Bool.or_eq_true, Bool.and_eq_true, decide_eq_true_eq]
  constructor
  · rintro ((h | ⟨h3, h⟩) | ⟨h4, h⟩)
    · exact ⟨_, Or.inl rfl, by rw [← lr _ (Or.inl rfl)]; exact h⟩
    · exact ⟨_, Or.inr (Or.inl ⟨h3, rfl⟩), by rw [← lr _ (Or.inr (Or.inl ⟨h3, rfl⟩))]; exact h⟩
    · exact ⟨_, Or.inr (Or.inr ⟨h4, rfl⟩), by rw [← lr _ (Or.inr (Or.inr ⟨h4, rfl⟩))]; exact h⟩
  · rintro ⟨r, hl, h⟩
    rw [← lr r hl] at h
    rcases hl with rfl | ⟨h3, rfl⟩ | ⟨h4, rfl⟩
    · exact Or.inl (Or.inl h)
    · exact Or.inl (Or.inr ⟨h3, h⟩)
    · exact Or.inr ⟨h4, h⟩
theorem HG_lt {N : Ne} (hW : WN N) {b : Nat} : ∀ c, c < nn N → HG N c b = true → b < nn N ∧ 4 < nk N b := by
  intro c
  induction c using Nat.strongRecOn with
  | _ c ih =>
    intro hc h
    rcases Nat.lt_or_ge 4 (nk N c) with g | g
    · rw [HG_bit N g] at h
      have := of_decide_eq_true h
      subst this
      exact ⟨hc, g⟩
    · obtain ⟨r, hl, hr⟩ := (HG_gate hW hc g b).mp h
      have hrf := looks_rf hW hc g hl
      rcases Nat.lt_or_ge 4 (nk N r) with q | q
      · rw [HG_bit N q] at hr
        have := of_decide_eq_true hr
        subst this
        exact ⟨hrf.1, q⟩
      · exact ih r (hrf.2 q) hrf.1 hr
theorem nI_m1 (c : Nat) : nI (c + 1) + (-1) = nI c := pk_m1 c
set_option maxHeartbeats 1000000 in
theorem m_hangs {σ : St} {N : Ne} {a : Int32} {s : Nat} {post : Int32 → Prop} (hN : NM σ N) (hW : WN N) (ha : a = nI s) (hs : s < nn N) (h : ∀ r : Int32, (∀ i, bt r i = (decide (i < nn N) && HG N s i)) → post r) : w_X12_hangs σ a post := by
  have h24 := hW.1
  obtain ⟨hn, -, hk, -, hx, hy, hz⟩ := id hN
  unfold w_X12_hangs
  have e1 : σ.1 0 1 - 1 = nI (nn N - 1) := by rw [hn, show nn N = (nn N - 1) + 1 by omega]; exact nI_pred (nn N - 1)
  refine nm_of (nm_as _ e1 ?_)
  rw [ha]
  refine jn_1 (fun y4 => ∀ b, b < nn N → 4 < nk N b → bt y4 b = HG N s b) (fun J3 hJ3 => ?_) ?_
  · -- downwards: the frontier
    have main : ∀ (I0 : Int32), (∀ b, HG N s b = true ↔ ∃ r, r < nn N ∧ bt I0 r = true ∧ (4 < nk N r ∨ r < nn N) ∧ HG N r b = true) → lpE2 (w_X12_hangs_L11 σ J3) I0 (nI (nn N - 1)) := by
      intro I0 h0
      refine lpE2_inv (I := fun y19 y20 => (∃ c, c < nn N ∧ y20 = nI c ∧ ∀ b, HG N s b = true ↔ ∃ r, r < nn N ∧ bt y19 r = true ∧ (4 < nk N r ∨ r < c + 1) ∧ HG N r b = true) ∨ (y20 = -1 ∧ ∀ b, HG N s b = true ↔ ∃ r, r < nn N ∧ bt y19 r = true ∧ 4 < nk N r ∧ HG N r b = true)) (μ := fun _ y20 => (y20 + 1).toNatClampNeg) ?_ I0 _ (Or.inl ⟨nn N - 1, by omega, rfl, fun b => by rw [h0 b, show nn N - 1 + 1 = nn N by omega]⟩)
      rintro rec y19 y20 hI hrec
      unfold w_X12_hangs_L11
      rcases hI with ⟨c, hc, rfl, hb⟩ | ⟨rfl, hb⟩
      rotate_left
      · refine br_1 (by decide) (hJ3 y19 (fun b hbl hb4 => ?_))
        rw [Bool.eq_iff_iff, hb b]
        constructor
        · exact fun g => ⟨b, hbl, g, hb4, by rw [HG_bit N hb4]; simp⟩
        · rintro ⟨r, hr, g, g4, gh⟩
          rw [HG_bit N g4] at gh
          have := of_decide_eq_true gh
          subst this
          exact g
      have nxt : ∀ y : Int32, (∀ b, HG N s b = true ↔ ∃ r, r < nn N ∧ bt y r = true ∧ (4 < nk N r ∨ r < c) ∧ HG N r b = true) → rec y (nI c + (-1)) := by
        intro y hy
        rcases Nat.eq_zero_or_pos c with z | z
        · subst z
          refine hrec y _ (Or.inr ⟨by decide, fun b => ?_⟩) (by decide)
          rw [hy b]
          constructor
          · rintro ⟨r, q1, q2, q3, q4⟩
            exact ⟨r, q1, q2, by omega, q4⟩
          · rintro ⟨r, q1, q2, q3, q4⟩
            exact ⟨r, q1, q2, Or.inl q3, q4⟩
        · obtain ⟨d, rfl⟩ : ∃ d, c = d + 1 := ⟨c - 1, by omega⟩
          rw [nI_m1]
          refine hrec y _ (Or.inl ⟨d, by omega, rfl, hy⟩) ?_
          rw [nI_1, nI_1, cl_nI (by omega), cl_nI (by omega)]
          omega
      refine br_0 (nI_pos (by omega)) ?_
      rw [b_get _ (by omega)]
      -- a cell that stays as it is
      have stay : (bt y19 c = true → 4 < nk N c) → rec y19 (nI c + (-1)) := by
        intro hst
        refine nxt y19 (fun b => ?_)
        rw [hb b]
        constructor
        · rintro ⟨r, q1, q2, q3, q4⟩
          refine ⟨r, q1, q2, ?_, q4⟩
          rcases q3 with q3 | q3
          · exact Or.inl q3
          · rcases (show r < c ∨ r = c by omega) with z | z
            · exact Or.inr z
            · subst z; exact Or.inl (hst q2)
        · rintro ⟨r, q1, q2, q3, q4⟩
          exact ⟨r, q1, q2, by omega, q4⟩
      cases hbt : bt y19 c with
      | false => exact br_0 (by decide) (nm_of (stay (fun z => by rw [hbt] at z; cases z)))
      | true =>
        refine br_1 rfl (rd_of c rfl (by omega) (by decide) ?_)
        have k6 := hW.2.1 c hc
        rw [hk c hc]
        refine br_le 5 (nk N c) rfl rfl (by omega) (by omega) (fun q => nm_of (stay (fun _ => q))) (fun q => ?_)
        have q4 : nk N c ≤ 4 := by omega
        have xl := (hW.2.2.2.2.1 c hc q4).1
        refine rd_of c rfl (by omega) (by decide) ?_
        rw [hx c hc, if_neg (by omega)]
        refine rd_of c rfl (by omega) (by decide) ?_
        rw [hy c hc]
        refine jn_1 (fun y31 => ∀ i, bt y31 i = (decide (nk N c ≠ 3) && decide (i = ny N c))) (fun J30 hJ30 => ?_) ?_
        · by_cases e3 : nk N c = 3
          · rw [if_neg (fun z => z.2 e3)]
            exact br_0 (by decide) (hJ30 _ (fun i => by rw [b_0]; simp [e3]))
          · have yl := (hW.2.2.2.2.2.1 c hc q4 e3).1
            rw [if_pos ⟨q4, e3⟩]
            refine br_1 (nI_pos' (by omega)) (rd_of c rfl (by omega) (by decide) ?_)
            rw [hy c hc, if_pos ⟨q4, e3⟩]
            exact hJ30 _ (fun i => by rw [b_one (by omega)]; simp [e3])
        intro y31 h31
        refine rd_of c rfl (by omega) (by decide) ?_
        rw [hz c hc]
        refine jn_1 (fun y34 => ∀ i, bt y34 i = (decide (nk N c = 4) && decide (i = nz N c))) (fun J33 hJ33 => ?_) ?_
        · by_cases e4 : nk N c = 4
          · have zl := (hW.2.2.2.2.2.2.1 c hc e4).1
            rw [if_pos e4]
            refine br_1 (nI_pos' (by omega)) (rd_of c rfl (by omega) (by decide) ?_)
            rw [hz c hc, if_pos e4]
            exact hJ33 _ (fun i => by rw [b_one (by omega)]; simp [e4])
          · rw [if_neg e4]
            exact br_0 (by decide) (hJ33 _ (fun i => by rw [b_0]; simp [e4]))
        intro y34 h34
        have hor : ∀ r, bt (y19 ||| ((((1 : Int32) <<< (nI (nx N c) &&& 31)) ||| y31) ||| y34)) r = true ↔ bt y19 r = true ∨ looks N c r := by
          intro r
          rw [b_or, b_or, b_or, b_one (by omega), h31, h34]
          simp only [Bool.or_eq_true, Bool.and_eq_true, decide_eq_true_eq, looks]
          constructor
          · rintro (z | (z | z) | z)
            · exact Or.inl z
            · exact Or.inr (Or.inl z)
            · exact Or.inr (Or.inr (Or.inl z))
            · exact Or.inr (Or.inr (Or.inr z))
          · rintro (z | z | z | z)
            · exact Or.inl z
            · exact Or.inr (Or.inl (Or.inl z))
            · exact Or.inr (Or.inl (Or.inr z))
            · exact Or.inr (Or.inr z)
        refine nm_of (nm_of (nxt _ (fun b => ?_)))
        rw [hb b]
        constructor
        · rintro ⟨r, q1, q2, q3, qh⟩
          by_cases z : r = c
          · subst z
            obtain ⟨r', hl, hr'⟩ := (HG_gate hW hc q4 b).mp qh
            have hrf := looks_rf hW hc q4 hl
            exact ⟨r', hrf.1, (hor r').mpr (Or.inr hl), by rcases Nat.lt_or_ge 4 (nk N r') with w | w; exact Or.inl w; exact Or.inr (hrf.2 w), hr'⟩
          · exact ⟨r, q1, (hor r).mpr (Or.inl q2), by omega, qh⟩
        · rintro ⟨r, q1, q2, q3, qh⟩
          rcases (hor r).mp q2 with z | z
          · exact ⟨r, q1, z, by omega, qh⟩
          · exact ⟨c, hc, hbt, Or.inr (by omega), (HG_gate hW hc q4 b).mpr ⟨r, z, qh⟩⟩
    refine main _ (fun b => ?_)
    constructor
    · exact fun g => ⟨s, hs, by rw [b_one (by omega)]; simp, Or.inr hs, g⟩
    · rintro ⟨r, q1, q2, q3, q4⟩
      rw [b_one (by omega)] at q2
      have := of_decide_eq_true q2
      subst this
      exact q4
  intro y4 h4
  refine jn_at ?_
  refine lpE2_inv (I := fun y7 y8 => ∃ c, c ≤ nn N ∧ y8 = nI c ∧ ∀ i, bt y7 i = (decide (i < c) && HG N s i)) (μ := fun _ y8 => nn N - y8.toNatClampNeg) ?_ 0 0 ⟨0, by omega, rfl, fun i => by rw [b_0]; simp⟩
  rintro rec y7 y8 ⟨c, hc, rfl, hb⟩ hrec
  unfold w_X12_hangs_L100
  refine br_le (nn N) c hn rfl (by omega) (by omega) (fun q => h y7 (fun i => by rw [hb i, show c = nn N by omega])) (fun q => ?_)
  refine jn_1 (fun y12 => ∀ i, bt y12 i = (decide (i = c) && HG N s c)) (fun J11 hJ11 => ?_) ?_
  · refine jn_0 (HG N s c = false) (fun J15 hJ15 => ?_) (fun e => hJ11 _ (fun i => by rw [b_0, e]; simp))
    rw [b_get _ (by omega)]
    have k6 := hW.2.1 c q
    have low : nk N c ≤ 4 → HG N s c = false := by
      intro z
      cases e : HG N s c with
      | false => rfl
      | true => have := (HG_lt hW s hs e).2; omega
    refine br_2 (fun b1 => ?_) (fun b1 => hJ15 ?_)
    · refine rd_of c rfl (by omega) (by decide) ?_
      rw [hk c q]
      refine br_le (nk N c) 4 rfl rfl (by omega) (by omega) (fun g => hJ15 (low g)) (fun g => hJ11 _ (fun i => ?_))
      rw [h4 c q g] at b1
      rw [b_one (by omega), (bI_one _).mp b1]; simp
    · rcases Nat.lt_or_ge 4 (nk N c) with g | g
      · rw [h4 c q g] at b1
        cases e : HG N s c with
        | false => rfl
        | true => rw [e] at b1; exact absurd rfl b1
      · exact low g
  intro y12 h12
  refine nm_of (nm_of (hrec _ _ ⟨c + 1, q, nI_1 c, fun i => ?_⟩ ?_))
  · rw [b_or, hb i, h12 i]
    by_cases g : i = c
    · subst g; simp
    · by_cases g2 : i < c
      · simp [g, g2, show i < c + 1 by omega]
      · simp [g, g2, show ¬ i < c + 1 by omega]
  · rw [nI_1, cl_nI (by omega), cl_nI (by omega)]; omega
