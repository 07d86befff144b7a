/-! THE REFERENCE: behind, countBits, turned, isKept -/
theorem m_behind {σ : St} {N : Ne} {v : Nat → Bool} {a : Int32} {st inp ots : Nat} {post : Int32 → Prop} (hN : NM σ N) (hW : WN N) (hK : MK σ N v st inp) (ha : a = nI ots) (h : ∀ r : Int32, (∀ i, bt r i = EV N (bhd N v st inp ots) i) → post r) : w_X12_behind σ a post := by
  have h24 := hW.1
  unfold w_X12_behind
  refine nm_of (jn_at ?_)
  refine lpE3_inv (I := fun y6 y7 y8 => ∃ c, c ≤ nn N ∧ y8 = nI c ∧ y7 = nI (fb_ct (eit N v st inp) c) ∧ ∀ r, bt y6 r = (bt (σ.1 0 22) r ^^ (decide (r < c) && (eit N v st inp r && ots.testBit (fb_ct (eit N v st inp) r))))) (μ := fun _ _ y8 => nn N - y8.toNatClampNeg) ?_ (σ.1 0 22) 0 0 ⟨0, by omega, rfl, rfl, fun r => by simp⟩
  rintro rec y6 y7 y8 ⟨c, hc, rfl, rfl, hb⟩ hrec
  have cl := fb_ct_le (eit N v st inp) c
  unfold w_X12_behind_L10
  refine br_le (nn N) c hN.1 rfl (by omega) (by omega) (fun q => ?_) (fun q => ?_)
  · have e : c = nn N := by omega
    subst e
    have key : ∀ r, (nn N ≤ r ∨ 4 < nk N r) → bt y6 r = bhd N v st inp ots r := by
      intro r hr
      rw [hb r, hK.2.1 r]
      unfold bhd
      have e1 : (decide (r < nn N) && (eit N v st inp r && ots.testBit (fb_ct (eit N v st inp) r))) = (eit N v st inp r && ots.testBit (fb_ct (eit N v st inp) r)) := by
        cases e : eit N v st inp r with
        | false => simp
        | true => simp [(eit_lt e).1]
      rw [e1]
      by_cases g : tik N st r = true
      · rw [if_pos g]
      · have g' : tik N st r = false := by simpa using g
        rw [if_neg g, pln_bit g']
        rcases hr with hr | hr
        · rw [EV_hi N v hr]
        · rw [EV_bit N v hr]
    refine m_settle hN hW (fun r hr => h r (fun i => ?_))
    rw [hr i]
    rcases Nat.lt_or_ge i (nn N) with g | g
    · exact EV_cong hW (fun b _ hb4 => key b (Or.inr hb4)) i g
    · rw [EV_hi N _ g, EV_hi N _ g]; exact key i (Or.inl g)
  rw [b_get _ (by omega), hK.2.2.2 c]
  have nxt : ∀ y : Int32, (∀ r, bt y r = (bt (σ.1 0 22) r ^^ (decide (r < c + 1) && (eit N v st inp r && ots.testBit (fb_ct (eit N v st inp) r))))) → rec y (nI (fb_ct (eit N v st inp) (c + 1))) (nI c + 1) := by
    intro y hy
    refine hrec y _ _ ⟨c + 1, q, nI_1 c, rfl, hy⟩ ?_
    rw [nI_1, cl_nI (by omega), cl_nI (by omega)]; omega
  cases he : eit N v st inp c with
  | false =>
    refine br_0 (by decide) (nm_of ?_)
    have e : nI (fb_ct (eit N v st inp) c) = nI (fb_ct (eit N v st inp) (c + 1)) := by rw [fb_ct_succ, he]; rfl
    rw [e]
    refine nxt y6 (fun r => ?_)
    rw [hb r]
    by_cases g : r = c
    · subst g; simp [he]
    · by_cases g2 : r < c
      · simp [g2, show r < c + 1 by omega]
      · simp [g2, show ¬ r < c + 1 by omega]
  | true =>
    refine br_1 rfl ?_
    refine jn_1 (fun y14 => y14 = bI (ots.testBit (fb_ct (eit N v st inp) c))) (fun J hJ => br_le 31 (fb_ct (eit N v st inp) c) rfl rfl (by omega) (by omega) (fun z => absurd z (by omega)) (fun _ => hJ _ (by rw [ha, b_getN (by omega)]))) ?_
    rintro y14 rfl
    have e : nI (fb_ct (eit N v st inp) c) + 1 = nI (fb_ct (eit N v st inp) (c + 1)) := by rw [fb_ct_succ, he, nI_1]; rfl
    refine nm_of (nm_as _ e (nm_of (nxt _ (fun r => ?_))))
    rw [b_xor, hb r, b_put1 (by omega)]
    by_cases g : r = c
    · subst g; simp [he]
    · by_cases g2 : r < c
      · simp [g, g2, show r < c + 1 by omega]
      · simp [g, g2, show ¬ r < c + 1 by omega]
theorem bI_add (n : Nat) (b : Bool) : nI n + bI b = nI (n + if b then 1 else 0) := by rw [bI_nI, nI_add]
theorem m_countBits {a : Int32} {post : Int32 → Prop} (h : post (nI (fb_ct (bt a) 24))) : w_X12_countBits a post := by
  unfold w_X12_countBits
  refine jn_at ?_
  refine lpE2_inv (I := fun y3 y4 => ∃ c, c ≤ 24 ∧ y4 = nI c ∧ y3 = nI (fb_ct (bt a) c)) (μ := fun _ y4 => 24 - y4.toNatClampNeg) ?_ 0 0 ⟨0, by omega, rfl, rfl⟩
  rintro rec y3 y4 ⟨c, hc, rfl, rfl⟩ hrec
  unfold w_X12_countBits_L4
  refine br_le 24 c rfl rfl (by omega) (by omega) (fun q => by rw [show c = 24 by omega]; exact h) (fun q => ?_)
  rw [b_get _ (by omega), bI_add]
  refine nm_of (nm_of (hrec _ _ ⟨c + 1, q, nI_1 c, rfl⟩ ?_))
  rw [nI_1, cl_nI (by omega), cl_nI (by omega)]; omega
theorem fb_ct_ext {p : Nat → Bool} {n m : Nat} (hm : n ≤ m) (h : ∀ k, n ≤ k → p k = false) : fb_ct p m = fb_ct p n := by
  have := fb_ct_split p n (m - n)
  rw [show n + (m - n) = m by omega] at this
  rw [this, fb_ct_zero.mpr (fun k hk => h (n + k) (by omega))]
  rfl
/-- how many keepers are either -/
noncomputable def ne_ (N : Ne) (v : Nat → Bool) (st inp : Nat) : Nat := fb_ct (eit N v st inp) (nn N)
theorem eit_24 {N : Ne} (hW : WN N) (v : Nat → Bool) (st inp : Nat) : fb_ct (eit N v st inp) 24 = ne_ N v st inp := fb_ct_ext hW.1 (fun k hk => by
  cases e : eit N v st inp k with
  | false => rfl
  | true => have := (eit_lt e).1; omega)
theorem ne_le (N : Ne) (hW : WN N) (v : Nat → Bool) (st inp : Nat) : ne_ N v st inp ≤ 10 := by
  have h1 : ne_ N v st inp ≤ fb_ct (isB N) (nn N) := fb_ct_sub (fun k hk e => by have := (eit_lt e).2; simp [isB]; omega)
  have h2 : fb_ct (isB N) (nn N) ≤ 10 := hW.2.2.2.2.2.2.2
  omega
theorem m_countE {σ : St} {N : Ne} {v : Nat → Bool} {st inp : Nat} {post : Int32 → Prop} (hW : WN N) (hK : MK σ N v st inp) (h : post (nI (ne_ N v st inp))) : w_X12_countBits (σ.1 0 24) post := by
  refine m_countBits ?_
  have e : bt (σ.1 0 24) = eit N v st inp := funext hK.2.2.2
  rw [e, eit_24 hW]
  exact h
theorem m_turned {σ : St} {N : Ne} {v : Nat → Bool} {a : Int32} {st inp ots : Nat} {post : Int32 → Prop} (hW : WN N) (hK : MK σ N v st inp) (ha : a = nI ots) (h : post (nI (fb_ct ots.testBit (ne_ N v st inp)))) : w_X12_turned σ a post := by
  have hl := ne_le N hW v st inp
  unfold w_X12_turned
  refine jn_at ?_
  refine lpE2_inv (I := fun y3 y4 => ∃ c, c ≤ ne_ N v st inp ∧ y4 = nI c ∧ y3 = nI (fb_ct ots.testBit c)) (μ := fun _ y4 => ne_ N v st inp - y4.toNatClampNeg) ?_ 0 0 ⟨0, by omega, rfl, rfl⟩
  rintro rec y3 y4 ⟨c, hc, rfl, rfl⟩ hrec
  unfold w_X12_turned_L4
  refine m_countE hW hK ?_
  refine br_le (ne_ N v st inp) c rfl rfl (by omega) (by omega) (fun q => by rw [show ne_ N v st inp = c by omega] at h; exact h) (fun q => ?_)
  rw [ha, b_getN (by omega), bI_add]
  refine nm_of (nm_of (hrec _ _ ⟨c + 1, q, nI_1 c, rfl⟩ ?_))
  rw [nI_1, cl_nI (by omega), cl_nI (by omega)]; omega
/-! promises -/
def dif (N : Ne) (vb vn : Nat → Bool) : Nat → Bool := fun c => isB N c && (vb c != vn c)
/-- of the bits from a to b: how many are others than before -/
def difs (N : Ne) (vb vn : Nat → Bool) (a b : Nat) : Nat := fb_ct (fun k => dif N vb vn (a + k)) (b + 1 - a)
/-- a promise of kind k holds -/
def kep (N : Ne) (k x y : Nat) (vb vn : Nat → Bool) (first : Bool) : Bool := if k = 0 then EV N vn x else if k = 1 then !(EV N vn x && EV N vn y) else if k = 2 then EV N vn x == EV N vn y else first || decide (difs N vb vn x y < 2)
/-- promises speak of cells that are there -/
def WP (N : Ne) (P : Pr) : Prop := P.1 ≤ 8 ∧ ∀ p, p < P.1 → P.2.1 p ≤ 3 ∧ P.2.2.1 p < nn N ∧ (P.2.1 p ≠ 0 → P.2.2.2 p < nn N) ∧ (P.2.1 p = 3 → P.2.2.1 p ≤ P.2.2.2 p)
theorem m_isKept {σ : St} {N : Ne} {P : Pr} {vb vn : Nat → Bool} {a b c d : Int32} {p : Nat} {first : Bool} {post : Int32 → Prop} (hN : NM σ N) (hW : WN N) (hP : MP σ P.1 P.2.1 P.2.2.1 P.2.2.2) (hWP : WP N P) (ha : a = nI p) (hp : p < P.1) (hb : first = false → ∀ r, r < nn N → 4 < nk N r → bt b r = vb r) (hc : ∀ r, r < nn N → bt c r = EV N vn r) (hd : d = bI first)
    (h : post (bI (kep N (P.2.1 p) (P.2.2.1 p) (P.2.2.2 p) vb vn first))) : w_X12_isKept σ a b c d post := by
  have h24 := hW.1
  obtain ⟨h8, hw⟩ := hWP
  obtain ⟨w3, wx, wy, wo⟩ := hw p hp
  obtain ⟨q1, q2, q3⟩ := hP.2 p hp
  unfold w_X12_isKept
  refine rd_of p ha (by omega) (by decide) ?_
  rw [q2]
  refine w_bitOf_of _ rfl (by omega) ?_
  rw [hc _ wx]
  refine rd_of p ha (by omega) (by decide) ?_
  rw [q1]
  refine br_eq (P.2.1 p) 0 rfl rfl (by omega) (by omega) (fun e0 => ?_) (fun e0 => ?_)
  · have ek : kep N (P.2.1 p) (P.2.2.1 p) (P.2.2.2 p) vb vn first = EV N vn (P.2.2.1 p) := by simp [kep, e0]
    rw [ek] at h
    cases hv : EV N vn (P.2.2.1 p) with
    | true => rw [hv] at h; exact br_1 rfl h
    | false => rw [hv] at h; exact br_0 (by decide) h
  have q3 := q3 e0
  have wy := wy e0
  refine br_eq (P.2.1 p) 1 rfl rfl (by omega) (by omega) (fun e1 => ?_) (fun e1 => ?_)
  · have ek : kep N (P.2.1 p) (P.2.2.1 p) (P.2.2.2 p) vb vn first = !(EV N vn (P.2.2.1 p) && EV N vn (P.2.2.2 p)) := by simp [kep, e1]
    rw [ek] at h
    refine rd_of p ha (by omega) (by decide) ?_
    rw [q3]
    refine w_bitOf_of _ rfl (by omega) ?_
    rw [hc _ wy, bI_and]
    cases hv : (EV N vn (P.2.2.1 p) && EV N vn (P.2.2.2 p)) with
    | false => rw [hv] at h; exact br_1 rfl h
    | true => rw [hv] at h; exact br_0 (by decide) h
  refine br_eq (P.2.1 p) 2 rfl rfl (by omega) (by omega) (fun e2 => ?_) (fun e2 => ?_)
  · have ek : kep N (P.2.1 p) (P.2.2.1 p) (P.2.2.2 p) vb vn first = (EV N vn (P.2.2.1 p) == EV N vn (P.2.2.2 p)) := by simp [kep, e2]
    rw [ek] at h
    refine rd_of p ha (by omega) (by decide) ?_
    rw [q3]
    refine w_bitOf_of _ rfl (by omega) ?_
    rw [hc _ wy]
    refine br_2 (fun g => ?_) (fun g => ?_)
    · rw [(bI_inj _ _).mp g, beq_self_eq_true] at h; exact h
    · have g' : ¬ EV N vn (P.2.2.1 p) = EV N vn (P.2.2.2 p) := fun z => g ((bI_inj _ _).mpr z)
      rw [beq_false_of_ne g'] at h; exact h
  have e3 : P.2.1 p = 3 := by omega
  have wo := wo e3
  have ek : kep N (P.2.1 p) (P.2.2.1 p) (P.2.2.2 p) vb vn first = (first || decide (difs N vb vn (P.2.2.1 p) (P.2.2.2 p) < 2)) := by simp [kep, e3]
  rw [ek] at h
  refine rd_of p ha (by omega) (by decide) ?_
  rw [q2]
  refine jn_1 (fun y19 => first = false → y19 = nI (difs N vb vn (P.2.2.1 p) (P.2.2.2 p))) (fun J hJ => ?_) ?_
  · refine lpE2_inv (I := fun y22 y23 => ∃ k, P.2.2.1 p + k ≤ P.2.2.2 p + 1 ∧ y23 = nI (P.2.2.1 p + k) ∧ (first = false → y22 = nI (fb_ct (fun j => dif N vb vn (P.2.2.1 p + j)) k))) (μ := fun _ y23 => P.2.2.2 p + 1 - y23.toNatClampNeg) ?_ 0 _ ⟨0, by omega, rfl, fun _ => rfl⟩
    rintro rec y22 y23 ⟨k, hk, rfl, e22⟩ hrec
    unfold w_X12_isKept_L110
    refine rd_of p ha (by omega) (by decide) ?_
    rw [q3]
    refine br_lt (P.2.2.2 p) (P.2.2.1 p + k) rfl rfl (by omega) (by omega) (fun g => hJ _ (fun hf => ?_)) (fun g => ?_)
    · rw [e22 hf]; unfold difs; rw [show P.2.2.2 p + 1 - P.2.2.1 p = k by omega]
    have k6 := hW.2.1 (P.2.2.1 p + k) (by omega)
    refine rd_of (P.2.2.1 p + k) rfl (by omega) (by decide) ?_
    rw [hN.2.2.1 _ (by omega)]
    refine jn_1 (fun y29 => first = false → y29 = bI (dif N vb vn (P.2.2.1 p + k))) (fun J28 hJ28 => ?_) ?_
    · refine jn_0 (first = false → dif N vb vn (P.2.2.1 p + k) = false) (fun J32 hJ32 => ?_) (fun e => hJ28 _ (fun hf => by rw [e hf]; rfl))
      refine br_le _ 4 rfl rfl (by omega) (by omega) (fun g4 => hJ32 (fun _ => by simp [dif, isB]; omega)) (fun g4 => ?_)
      refine w_bitOf_of _ rfl (by omega) (w_bitOf_of _ rfl (by omega) ?_)
      rw [hc _ (by omega), EV_bit N vn g4]
      refine br_2 (fun g5 => hJ32 (fun hf => ?_)) (fun g5 => hJ28 _ (fun hf => ?_))
      · rw [hb hf _ (by omega) g4] at g5
        simp [dif, (bI_inj _ _).mp g5]
      · rw [hb hf _ (by omega) g4] at g5
        have g6 : ¬ vb (P.2.2.1 p + k) = vn (P.2.2.1 p + k) := fun z => g5 ((bI_inj _ _).mpr z)
        have : dif N vb vn (P.2.2.1 p + k) = true := by simp [dif, isB, g4, g6]
        rw [this]; rfl
    intro y29 e29
    refine nm_of (nm_of (hrec _ _ ⟨k + 1, by omega, nI_1 _, fun hf => ?_⟩ ?_))
    · rw [e22 hf, e29 hf, bI_add, fb_ct_succ]
    · rw [nI_1, cl_nI (by omega), cl_nI (by omega)]; omega
  intro y19 e19
  rw [hd]
  cases hf : first with
  | true => rw [hf] at h; exact br_0 (by decide) h
  | false =>
    rw [hf, Bool.false_or] at h
    have dl : difs N vb vn (P.2.2.1 p) (P.2.2.2 p) < 2 ^ 31 := by
      have := fb_ct_le (fun k => dif N vb vn (P.2.2.1 p + k)) (P.2.2.2 p + 1 - P.2.2.1 p)
      unfold difs
      omega
    refine br_1 rfl (br_le 2 (difs N vb vn (P.2.2.1 p) (P.2.2.2 p)) rfl (e19 hf) (by omega) dl (fun g => ?_) (fun g => ?_))
    · rw [decide_eq_false (by omega)] at h; exact h
    · rw [decide_eq_true g] at h; exact h
