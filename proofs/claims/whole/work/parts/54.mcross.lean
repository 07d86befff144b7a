/-! CROSSINGS (the reference) -/
def fgn (N : Ne) (k b : Nat) : Bool := decide (b < nn N) && HG N (nx N k) b && decide (nc N b ≠ nc N k)
/-- none below c -/
def zc (p : Nat → Bool) (c : Nat) : Bool := decide (fb_ct p c = 0)
theorem zc_s (p : Nat → Bool) (c : Nat) : zc p (c + 1) = (zc p c && !p c) := by
  unfold zc
  rw [fb_ct_succ]
  cases p c <;> simp
def crs (N : Ne) (k : Nat) : Bool := decide (nk N k = 6) && !zc (fgn N k) (nn N)
def fbt (N : Ne) (c k : Nat) : Bool := decide (4 < nk N c) && decide (nc N c ≠ nc N k)
def kus (N : Ne) (k c : Nat) : Bool := decide (nk N c = 6) && decide (nx N c = k)
def lks (N : Ne) (k c : Nat) : Bool := decide (nk N c ≤ 4) && (decide (nx N c = k) || (decide (nk N c ≠ 3) && decide (ny N c = k)) || (decide (nk N c = 4) && decide (nz N c = k)))
def bdu (N : Ne) (k c : Nat) : Bool := lks N k c || (kus N k c && (decide (c = k) || decide (nc N c ≠ nc N k)))
def usd (N : Ne) (k : Nat) : Bool := zc (bdu N k) (nn N) && decide (fb_ct (kus N k) (nn N) = 1)
def ast (N : Ne) (sl : Nat → Bool) (k : Nat) : Bool := zc (fun b => fgn N k b && !sl b) (nn N)
def twc (N : Ne) (sl : Nat → Bool) (k : Nat) : Bool := crs N k && !ast N sl k && fbt N (nx N k) k && usd N k
def hel (N : Ne) (sl : Nat → Bool) (k : Nat) : Bool := decide (nk N (nx N k) = 4) && fbt N (ny N (nx N k)) k && decide (nz N (nx N k) = k) && decide (nk N (nx N (nx N k)) = 6) && decide (nc N (nx N (nx N k)) = nc N k) && decide (nk N (nx N (nx N (nx N k))) = 6) && twc N sl (nx N (nx N (nx N k)))
def knd (N : Ne) (sl : Nat → Bool) (k : Nat) : Nat := if ast N sl k then 0 else if twc N sl k then 1 else if hel N sl k then 2 else if fbt N (nx N k) k then 3 else 4
def mts (N : Ne) (sl : Nat → Bool) (k : Nat) : Bool := !zc (fun c => decide (c ≠ k) && twc N sl k && twc N sl c && decide (nc N c = nc N k) && decide (nx N c = nx N k)) (nn N)
theorem fgn_lt {N : Ne} (hW : WN N) {k b : Nat} (hk : k < nn N) (h6 : nk N k = 6) (h : fgn N k b = true) : b < nn N ∧ 4 < nk N b := by
  simp only [fgn, Bool.and_eq_true, decide_eq_true_eq] at h
  exact HG_lt hW _ (hW.2.2.2.1 k hk h6) h.1.2
theorem m_foreign {σ : St} {N : Ne} {a : Int32} {k : Nat} {post : Int32 → Prop} (hN : NM σ N) (hW : WN N) (ha : a = nI k) (hk : k < nn N) (h6 : nk N k = 6) (h : ∀ r : Int32, (∀ i, bt r i = fgn N k i) → post r) : w_X12_foreign σ a post := by
  have h24 := hW.1
  have xl := hW.2.2.2.1 k hk h6
  obtain ⟨hn, -, -, hcl, hx, -⟩ := id hN
  unfold w_X12_foreign
  refine rd_of k ha (by omega) (by decide) ?_
  rw [hx k hk, if_neg (by omega)]
  refine m_hangs hN hW rfl xl (fun r2 h2 => jn_at ?_)
  refine lpE2_inv (I := fun y6 y7 => ∃ c, c ≤ nn N ∧ y7 = nI c ∧ ∀ i, bt y6 i = (decide (i < c) && fgn N k i)) (μ := fun _ y7 => nn N - y7.toNatClampNeg) ?_ 0 0 ⟨0, by omega, rfl, fun i => by rw [b_0]; simp⟩
  rintro rec y6 y7 ⟨c, hc, rfl, hb⟩ hrec
  unfold w_X12_foreign_L16
  refine br_le (nn N) c hn rfl (by omega) (by omega) (fun q => h y6 (fun i => ?_)) (fun q => ?_)
  · rw [hb i, show c = nn N by omega]
    by_cases g : i < nn N <;> simp [fgn, g]
  refine jn_1 (fun y11 => ∀ i, bt y11 i = (decide (i = c) && fgn N k c)) (fun J10 hJ10 => ?_) ?_
  · refine jn_0 (fgn N k c = false) (fun J14 hJ14 => ?_) (fun e => hJ10 _ (fun i => by rw [b_0, e]; simp))
    rw [b_get _ (by omega), h2 c]
    refine br_2 (fun b1 => ?_) (fun b1 => hJ14 ?_)
    · have b2 := (bI_one _).mp b1
      simp only [Bool.and_eq_true, decide_eq_true_eq] at b2
      have c4 := (HG_lt hW _ xl b2.2).2
      have cc := hW.2.2.1 c q c4
      have kc := hW.2.2.1 k hk (by omega)
      refine rd_of c rfl (by omega) (by decide) (rd_of k ha (by omega) (by decide) ?_)
      rw [hcl c q, if_pos c4, hcl k hk, if_pos (by omega)]
      refine br_eq (nc N c) (nc N k) rfl rfl (by omega) (by omega) (fun e => hJ14 (by simp [fgn, e])) (fun e => hJ10 _ (fun i => ?_))
      rw [b_one (by omega)]
      simp [fgn, q, b2.2, e]
    · cases e : fgn N k c with
      | false => rfl
      | true =>
        simp only [fgn, Bool.and_eq_true] at e
        rw [e.1.1, e.1.2] at b1
        exact absurd rfl b1
  intro y11 h11
  refine nm_of (nm_of (hrec _ _ ⟨c + 1, q, nI_1 c, fun i => ?_⟩ ?_))
  · rw [b_or, hb i, h11 i]
    by_cases g : i = c
    · subst g; simp
    · by_cases g2 : i < c
      · simp [g, g2, show i < c + 1 by omega]
      · simp [g, g2, show ¬ i < c + 1 by omega]
  · rw [nI_1, cl_nI (by omega), cl_nI (by omega)]; omega
theorem mask0 {r : Int32} {f : Nat → Bool} {n : Nat} (h : ∀ i, bt r i = f i) (hn : ∀ i, f i = true → i < n) : r = 0 ↔ zc f n = true := by
  unfold zc
  rw [decide_eq_true_eq, fb_ct_zero]
  constructor
  · rintro rfl i _
    rw [← h i, b_0]
  · intro g
    apply b_ext
    intro i _
    rw [h i, b_0]
    cases e : f i with
    | false => rfl
    | true => rw [g i (hn i e)] at e; cases e
theorem fgn_n {N : Ne} {k : Nat} : ∀ i, fgn N k i = true → i < nn N := fun i h => by
  simp only [fgn, Bool.and_eq_true, decide_eq_true_eq] at h
  exact h.1.1
theorem m_isCrossing {σ : St} {N : Ne} {a : Int32} {k : Nat} {post : Int32 → Prop} (hN : NM σ N) (hW : WN N) (ha : a = nI k) (hk : k < nn N) (h : post (bI (crs N k))) : w_X12_isCrossing σ a post := by
  have h24 := hW.1
  have k6 := hW.2.1 k hk
  unfold w_X12_isCrossing
  refine rd_of k ha (by omega) (by decide) ?_
  rw [hN.2.2.1 k hk]
  refine br_eq (nk N k) 6 rfl rfl (by omega) (by omega) (fun e => ?_) (fun e => ?_)
  · refine m_foreign hN hW ha hk e (fun r hr => ?_)
    have e0 := mask0 hr (n := nn N) fgn_n
    cases hz : zc (fgn N k) (nn N) with
    | true =>
      have : crs N k = false := by simp [crs, hz]
      rw [this] at h
      exact br_1 (e0.mpr hz) h
    | false =>
      have : crs N k = true := by simp [crs, hz, e]
      rw [this] at h
      exact br_0 (fun z => by rw [e0.mp z] at hz; cases hz) h
  · have : crs N k = false := by simp [crs, e]
    rw [this] at h; exact h
theorem crs_6 {N : Ne} {k : Nat} (h : crs N k = true) : nk N k = 6 := by
  simp only [crs, Bool.and_eq_true, decide_eq_true_eq] at h
  exact h.1
theorem m_crossingAt {σ : St} {N : Ne} {a : Int32} {i : Nat} {post : Int32 → Prop} (hN : NM σ N) (hW : WN N) (ha : a = nI i) (hi : i < 2 ^ 31) (h1 : fb_ct (crs N) (nn N) ≤ i → post (-1)) (h2 : ∀ k, k < nn N → crs N k = true → fb_ct (crs N) k = i → post (nI k)) : w_X12_crossingAt σ a post := by
  have h24 := hW.1
  unfold w_X12_crossingAt
  refine jn_at ?_
  refine lpE2_inv (I := fun y2 y3 => ∃ c, c ≤ nn N ∧ y3 = nI c ∧ y2 = nI (fb_ct (crs N) c) ∧ fb_ct (crs N) c ≤ i) (μ := fun _ y3 => nn N - y3.toNatClampNeg) ?_ 0 0 ⟨0, by omega, rfl, rfl, Nat.zero_le i⟩
  rintro rec y2 y3 ⟨c, hc, rfl, rfl, hle⟩ hrec
  have cl := fb_ct_le (crs N) c
  unfold w_X12_crossingAt_L4
  refine br_le (nn N) c hN.1 rfl (by omega) (by omega) (fun q => h1 (by rw [show nn N = c by omega]; exact hle)) (fun q => ?_)
  refine m_isCrossing hN hW rfl q ?_
  cases hcr : crs N c with
  | false =>
    refine br_1 rfl (nm_of (hrec _ _ ⟨c + 1, q, nI_1 c, by rw [fb_ct_succ, hcr]; rfl, by rw [fb_ct_succ, hcr]; exact hle⟩ ?_))
    rw [nI_1, cl_nI (by omega), cl_nI (by omega)]; omega
  | true =>
    have l1 : fb_ct (crs N) (c + 1) = fb_ct (crs N) c + 1 := by rw [fb_ct_succ, hcr]; rfl
    refine br_0 (by decide) (br_eq (fb_ct (crs N) c) i rfl ha (by omega) hi (fun e => h2 c q hcr e) (fun e => ?_))
    refine nm_of (nm_of (hrec _ _ ⟨c + 1, q, nI_1 c, by rw [nI_1, l1], by omega⟩ ?_))
    rw [nI_1, cl_nI (by omega), cl_nI (by omega)]; omega
theorem m_crossings {σ : St} {N : Ne} {post : Int32 → St → Prop} (hN : NM σ N) (hW : WN N) (h : ∀ σ', fr0 σ σ' → post (nI (fb_ct (crs N) (nn N))) σ') : w_X12_crossings σ post := by
  have h24 := hW.1
  unfold w_X12_crossings
  refine nm_of ?_
  have f1 := fr0_up σ
  generalize upI σ 0 0 0 = σ1 at f1
  have N1 := NM_ag (fr_ag f1 (by decide)) hN
  refine jn_at ?_
  refine lpE2_inv (I := fun y4 y5 => ∃ c, c ≤ nn N ∧ y5 = nI c ∧ y4 = nI (fb_ct (crs N) c)) (μ := fun _ y5 => nn N - y5.toNatClampNeg) ?_ 0 0 ⟨0, by omega, rfl, rfl⟩
  rintro rec y4 y5 ⟨c, hc, rfl, rfl⟩ hrec
  unfold w_X12_crossings_L9
  refine br_le (nn N) c N1.1 rfl (by omega) (by omega) (fun q => by rw [show c = nn N by omega]; exact h σ1 f1) (fun q => ?_)
  refine m_isCrossing N1 hW rfl q ?_
  refine jn_1 (fun y11 => y11 = bI (crs N c)) (fun J hJ => ?_) ?_
  · cases hcr : crs N c with
    | false => rw [hcr] at hJ; exact br_1 rfl (hJ _ rfl)
    | true => rw [hcr] at hJ; exact br_0 (by decide) (hJ _ rfl)
  rintro y11 rfl
  refine nm_of (nm_of (hrec _ _ ⟨c + 1, q, nI_1 c, by rw [bI_add, fb_ct_succ]⟩ ?_))
  rw [nI_1, cl_nI (by omega), cl_nI (by omega)]; omega
theorem m_isForeignBit {σ : St} {N : Ne} {a b : Int32} {c k : Nat} {post : Int32 → Prop} (hN : NM σ N) (hW : WN N) (ha : a = nI c) (hc : c < nn N) (hb : b = nI k) (hk : k < nn N) (h6 : 4 < nk N k) (h : post (bI (fbt N c k))) : w_X12_isForeignBit σ a b post := by
  have h24 := hW.1
  have c6 := hW.2.1 c hc
  unfold w_X12_isForeignBit
  refine br_0 (by rw [ha]; exact nI_pos (by omega)) (rd_of c ha (by omega) (by decide) ?_)
  rw [hN.2.2.1 c hc]
  refine br_le (nk N c) 4 rfl rfl (by omega) (by omega) (fun g => ?_) (fun g => ?_)
  · have : fbt N c k = false := by simp [fbt]; omega
    rw [this] at h; exact h
  have q1 := hW.2.2.1 c hc g
  have q2 := hW.2.2.1 k hk h6
  refine rd_of c ha (by omega) (by decide) (rd_of k hb (by omega) (by decide) ?_)
  rw [hN.2.2.2.1 c hc, if_pos g, hN.2.2.2.1 k hk, if_pos h6]
  refine br_eq (nc N c) (nc N k) rfl rfl (by omega) (by omega) (fun e => ?_) (fun e => ?_)
  · have : fbt N c k = false := by simp [fbt, e]
    rw [this] at h; exact h
  · have : fbt N c k = true := by simp [fbt, e, g]
    rw [this] at h; exact h
theorem m_allStill {σ : St} {N : Ne} {sl f : Nat → Bool} {a : Int32} {post : Int32 → Prop} (hN : NM σ N) (hW : WN N) (hS : MS σ N sl) (ha : ∀ i, bt a i = f i) (h : post (bI (zc (fun b => f b && !sl b) (nn N)))) : w_X12_allStill σ a post := by
  have h24 := hW.1
  unfold w_X12_allStill
  refine jn_1 (fun y2 => y2 = bI (zc (fun b => f b && !sl b) (nn N))) (fun J hJ => ?_) (fun y2 e => ⟨by rw [e]; cases zc (fun b => f b && !sl b) (nn N) <;> decide, by rw [e]; exact h⟩)
  refine lpE2_inv (I := fun y3 y4 => ∃ c, c ≤ nn N ∧ y4 = nI c ∧ y3 = bI (zc (fun b => f b && !sl b) c)) (μ := fun _ y4 => nn N - y4.toNatClampNeg) ?_ 1 0 ⟨0, by omega, rfl, rfl⟩
  rintro rec y3 y4 ⟨c, hc, rfl, rfl⟩ hrec
  have nxt : ∀ y : Int32, c < nn N → y = bI (zc (fun b => f b && !sl b) (c + 1)) → rec y (nI c + 1) := by
    intro y hl e
    refine hrec _ _ ⟨c + 1, hl, nI_1 c, e⟩ ?_
    rw [nI_1, cl_nI (by omega), cl_nI (by omega)]; omega
  unfold w_X12_allStill_L4
  refine br_le (nn N) c hN.1 rfl (by omega) (by omega) (fun q => by rw [show c = nn N by omega]; exact hJ _ rfl) (fun q => ?_)
  have zs := zc_s (fun b => f b && !sl b) c
  cases hz : zc (fun b => f b && !sl b) c with
  | false => exact br_1 rfl (nm_of (nxt _ q (by rw [zs, hz]; rfl)))
  | true =>
    refine br_0 (by decide) ?_
    rw [b_get _ (by omega), ha c]
    cases hf : f c with
    | false => exact br_1 rfl (nm_of (nxt _ q (by rw [zs, hz, hf]; rfl)))
    | true =>
      refine br_0 (by decide) (rd_of c rfl (by omega) (by decide) ?_)
      rw [hS c q]
      cases hs : sl c with
      | false => exact br_1 rfl (nm_of (nxt _ q (by rw [zs, hz, hf, hs]; rfl)))
      | true => exact br_0 (by decide) (nm_of (nxt _ q (by rw [zs, hz, hf, hs]; rfl)))
