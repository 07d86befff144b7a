/-! SMALL THINGS OF THE WALK (the reference) -/
theorem m_inputsOf {σ : St} {N : Ne} {a : Int32} {st : Nat} {post : Int32 → Prop} (hN : NM σ N) (hW : WN N) (ha : a = nI st) (h : post (nI (inI N st (nn N)))) : w_X12_inputsOf σ a post := by
  have h24 := hW.1
  unfold w_X12_inputsOf
  refine jn_at ?_
  refine lpE2_inv (I := fun y3 y4 => ∃ c, c ≤ nn N ∧ y4 = nI c ∧ y3 = nI (inI N st c)) (μ := fun _ y4 => nn N - y4.toNatClampNeg) ?_ 0 0 ⟨0, by omega, rfl, rfl⟩
  rintro rec y3 y4 ⟨c, hc, rfl, rfl⟩ hrec
  unfold w_X12_inputsOf_L4
  refine br_le (nn N) c hN.1 rfl (by omega) (by omega) (fun q => by rw [show c = nn N by omega]; exact h) (fun q => ?_)
  have k6 := hW.2.1 c q
  refine rd_of c rfl (by omega) (by decide) ?_
  rw [hN.2.2.1 c q]
  refine jn_1 (fun y9 => y9 = bI (decide (nk N c = 5) && tik N st c)) (fun J8 hJ8 => ?_) ?_
  · refine jn_0 ((decide (nk N c = 5) && tik N st c) = false) (fun J12 hJ12 => ?_) (fun e => hJ8 _ (by rw [e]; rfl))
    refine br_eq (nk N c) 5 rfl rfl (by omega) (by omega) (fun e5 => m_isTicking hN hW ha rfl q ?_) (fun e5 => hJ12 (by simp [e5]))
    cases ht : tik N st c with
    | false => exact br_1 rfl (hJ12 (by simp [ht]))
    | true => exact br_0 (by decide) (hJ8 _ (by simp [e5, ht]; rfl))
  rintro y9 rfl
  refine nm_of (nm_of (hrec _ _ ⟨c + 1, q, nI_1 c, by rw [bI_add, inI_s]⟩ ?_))
  rw [nI_1, cl_nI (by omega), cl_nI (by omega)]; omega
/-- the clocks that some bit has -/
def cth (N : Ne) (i : Nat) : Bool := !zc (fun c => isB N c && decide (nc N c = i)) (nn N)
theorem m_clocksThere {σ : St} {N : Ne} {post : Int32 → Prop} (hN : NM σ N) (hW : WN N) (h : ∀ r : Int32, (∀ i, bt r i = cth N i) → post r) : w_X12_clocksThere σ post := by
  have h24 := hW.1
  unfold w_X12_clocksThere
  refine jn_at ?_
  refine lpE2_inv (I := fun y3 y4 => ∃ c, c ≤ nn N ∧ y4 = nI c ∧ ∀ i, bt y3 i = !zc (fun c => isB N c && decide (nc N c = i)) c) (μ := fun _ y4 => nn N - y4.toNatClampNeg) ?_ 0 0 ⟨0, by omega, rfl, fun i => by rw [b_0]; rfl⟩
  rintro rec y3 y4 ⟨c, hc, rfl, hb⟩ hrec
  unfold w_X12_clocksThere_L4
  refine br_le (nn N) c hN.1 rfl (by omega) (by omega) (fun q => h y3 (fun i => by rw [hb i, show c = nn N by omega]; rfl)) (fun q => ?_)
  have k6 := hW.2.1 c q
  refine rd_of c rfl (by omega) (by decide) ?_
  rw [hN.2.2.1 c q]
  refine jn_1 (fun y9 => ∀ i, bt y9 i = (isB N c && decide (nc N c = i))) (fun J hJ => ?_) ?_
  · refine br_le (nk N c) 4 rfl rfl (by omega) (by omega) (fun g => hJ _ (fun i => ?_)) (fun g => ?_)
    · rw [b_0]; simp [isB]; omega
    · have c4 := hW.2.2.1 c q g
      refine rd_of c rfl (by omega) (by decide) ?_
      rw [hN.2.2.2.1 c q, if_pos g]
      refine hJ _ (fun i => ?_)
      rw [b_one (by omega)]
      simp [isB, g, eq_comm]
  intro y9 h9
  refine nm_of (nm_of (hrec _ _ ⟨c + 1, q, nI_1 c, fun i => ?_⟩ ?_))
  · rw [b_or, hb i, h9 i, zc_s]
    cases zc (fun c => isB N c && decide (nc N c = i)) c <;> cases (isB N c && decide (nc N c = i)) <;> rfl
  · rw [nI_1, cl_nI (by omega), cl_nI (by omega)]; omega
/-- m packs the bits' values p -/
def PM (N : Ne) (m : Int32) (p : Nat → Bool) : Prop := (∀ c, c < nn N → 4 < nk N c → bt m (fb_ct (isB N) c) = p c) ∧ ∀ i, nb N ≤ i → bt m i = false
theorem isB_t {N : Ne} {c : Nat} (h : 4 < nk N c) : isB N c = true := by simp [isB, h]
theorem ix_lt {N : Ne} {c d : Nat} (hc : 4 < nk N c) (h : c < d) : fb_ct (isB N) c < fb_ct (isB N) d := by
  have l1 : fb_ct (isB N) (c + 1) = fb_ct (isB N) c + 1 := by rw [fb_ct_succ, isB_t hc]; rfl
  have l2 := fb_ct_mono (isB N) (show c + 1 ≤ d from h)
  omega
/-- one number packs them, no other -/
theorem PM_one {N : Ne} {m m' : Int32} {p q : Nat → Bool} (h : PM N m p) (h' : PM N m' q) (e : ∀ c, c < nn N → 4 < nk N c → p c = q c) : m = m' := by
  apply b_ext
  intro i _
  rcases Nat.lt_or_ge i (nb N) with g | g
  · obtain ⟨c, hc, hb, ec⟩ := fb_ct_kth g
    have h4 : 4 < nk N c := by simpa [isB] using hb
    rw [← ec, h.1 c hc h4, h'.1 c hc h4, e c hc h4]
  · rw [h.2 i g, h'.2 i g]
theorem m_bitsOf {σ : St} {N : Ne} {v : Nat → Bool} {a : Int32} {post : Int32 → Prop} (hN : NM σ N) (hW : WN N) (ha : ∀ c, c < nn N → 4 < nk N c → bt a c = v c) (h : ∀ r : Int32, PM N r v → post r) : w_X12_bitsOf σ a post := by
  have h24 := hW.1
  have h10 : fb_ct (isB N) (nn N) ≤ 10 := hW.2.2.2.2.2.2.2
  unfold w_X12_bitsOf
  refine jn_at ?_
  refine lpE3_inv (I := fun y3 y4 y5 => ∃ c, c ≤ nn N ∧ y5 = nI c ∧ y4 = nI (fb_ct (isB N) c) ∧ (∀ d, d < c → 4 < nk N d → bt y3 (fb_ct (isB N) d) = v d) ∧ ∀ i, fb_ct (isB N) c ≤ i → bt y3 i = false) (μ := fun _ _ y5 => nn N - y5.toNatClampNeg) ?_ 0 0 0 ⟨0, by omega, rfl, rfl, fun d hd => absurd hd (Nat.not_lt_zero d), fun i _ => b_0 i⟩
  rintro rec y3 y4 y5 ⟨c, hc, rfl, rfl, hb, hz⟩ hrec
  unfold w_X12_bitsOf_L7
  refine br_le (nn N) c hN.1 rfl (by omega) (by omega) (fun q => ?_) (fun q => ?_)
  · have e : c = nn N := by omega
    subst e
    exact h y3 ⟨fun d hd g => hb d hd g, hz⟩
  have k6 := hW.2.1 c q
  have ml := fb_ct_mono (isB N) hc
  refine rd_of c rfl (by omega) (by decide) ?_
  rw [hN.2.2.1 c q]
  have dec : nn N - (nI c + 1).toNatClampNeg < nn N - (nI c).toNatClampNeg := by rw [nI_1, cl_nI (by omega), cl_nI (by omega)]; omega
  refine br_le (nk N c) 4 rfl rfl (by omega) (by omega) (fun g => ?_) (fun g => ?_)
  · have e0 : isB N c = false := by simp [isB]; omega
    have l1 : fb_ct (isB N) (c + 1) = fb_ct (isB N) c := by rw [fb_ct_succ, e0]; rfl
    refine nm_of (hrec _ _ _ ⟨c + 1, q, nI_1 c, by rw [l1], fun d hd g4 => ?_, fun i hi => hz i (by omega)⟩ dec)
    rcases (show d < c ∨ d = c by omega) with z | z
    · exact hb d z g4
    · subst z; omega
  · have l1 : fb_ct (isB N) (c + 1) = fb_ct (isB N) c + 1 := by rw [fb_ct_succ, isB_t g]; rfl
    refine w_bitOf_of c rfl (by omega) ?_
    rw [ha c q g]
    refine nm_of (nm_of (nm_of (hrec _ _ _ ⟨c + 1, q, nI_1 c, by rw [nI_1, l1], fun d hd g4 => ?_, fun i hi => ?_⟩ dec)))
    · rw [b_or, b_put1 (by omega)]
      rcases (show d < c ∨ d = c by omega) with z | z
      · have := ix_lt g4 z
        rw [hb d z g4]
        simp [show ¬ fb_ct (isB N) d = fb_ct (isB N) c by omega]
      · subst z
        rw [hz _ (Nat.le_refl _)]
        simp
    · rw [b_or, b_put1 (by omega), hz i (by omega)]
      simp [show ¬ i = fb_ct (isB N) c by omega]
