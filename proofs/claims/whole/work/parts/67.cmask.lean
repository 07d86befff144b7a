/-! THE CLASS: masks out of the net -/
theorem ix_inj {N : Ne} {c d : Nat} (hc : 4 < nk N c) (hd : 4 < nk N d) (e : fb_ct (isB N) c = fb_ct (isB N) d) : c = d := fb_ct_kth_one (isB_t hc) (isB_t hd) e
theorem isB_f {N : Ne} {c : Nat} (h : ¬ 4 < nk N c) : isB N c = false := by simp [isB]; omega
/-- one bit more of a mask that is made bit by bit -/
theorem PM_step {N : Ne} {m m' : Int32} {P : Nat → Bool} {i c : Nat} (h : PM N m (fun d => decide (fb_ct (isB N) d < i) && P d)) (hc : c < nn N) (g : 4 < nk N c) (e : fb_ct (isB N) c = i) (hm : ∀ j, bt m' j = (bt m j || (P c && decide (j = i)))) : PM N m' (fun d => decide (fb_ct (isB N) d < i + 1) && P d) := by
  have hi : i < nb N := by rw [← e]; exact ix_lt g hc
  refine ⟨fun d hd q => ?_, fun j hj => ?_⟩
  · rw [hm, h.1 d hd q]
    by_cases z : fb_ct (isB N) d = i
    · have : d = c := ix_inj q g (by rw [z, e])
      subst this
      simp [z]
    · by_cases y : fb_ct (isB N) d < i
      · simp [y, z, show fb_ct (isB N) d < i + 1 by omega]
      · simp [y, z, show ¬ fb_ct (isB N) d < i + 1 by omega]
  · rw [hm, h.2 j hj]
    simp [show ¬ j = i by omega]
theorem PM_end {N : Ne} {m : Int32} {P : Nat → Bool} {i : Nat} (hi : nb N ≤ i) (h : PM N m (fun d => decide (fb_ct (isB N) d < i) && P d)) : PM N m P := PM_cong h (fun c hc g => by
  have : fb_ct (isB N) c < nb N := ix_lt g hc
  simp [show fb_ct (isB N) c < i by omega])
theorem PM_beg {N : Ne} (P : Nat → Bool) : PM N 0 (fun d => decide (fb_ct (isB N) d < 0) && P d) := PM_cong (PM_0 N) (fun c _ _ => by simp)
theorem PM_zero {N : Ne} {m : Int32} {p : Nat → Bool} (h : PM N m p) : m = 0 ↔ ∀ c, c < nn N → 4 < nk N c → p c = false :=
  ⟨fun e c hc g => by rw [← h.1 c hc g, e, b_0], fun e => PM_one h (PM_0 N) e⟩
theorem nb10 {N : Ne} (hW : WN N) : nb N ≤ 10 := hW.2.2.2.2.2.2.2
theorem PM_and {N : Ne} {m k : Int32} {p q : Nat → Bool} (h : PM N m p) (h' : PM N k q) : PM N (m &&& k) (fun c => p c && q c) := ⟨fun c hc g => by rw [b_and, h.1 c hc g, h'.1 c hc g], fun i hi => by rw [b_and, h.2 i hi, Bool.false_and]⟩
theorem PM_or {N : Ne} {m k : Int32} {p q : Nat → Bool} (h : PM N m p) (h' : PM N k q) : PM N (m ||| k) (fun c => p c || q c) := ⟨fun c hc g => by rw [b_or, h.1 c hc g, h'.1 c hc g], fun i hi => by rw [b_or, h.2 i hi, h'.2 i hi]; rfl⟩
theorem PM_xor {N : Ne} {m k : Int32} {p q : Nat → Bool} (h : PM N m p) (h' : PM N k q) : PM N (m ^^^ k) (fun c => p c ^^ q c) := ⟨fun c hc g => by rw [b_xor, h.1 c hc g, h'.1 c hc g], fun i hi => by rw [b_xor, h.2 i hi, h'.2 i hi]; rfl⟩
theorem PM_andn {N : Ne} (hW : WN N) {m k : Int32} {p q : Nat → Bool} (h : PM N m p) (h' : PM N k q) : PM N (m &&& (k ^^^ (-1 : Int32))) (fun c => p c && !q c) := ⟨fun c hc g => by
  have l : fb_ct (isB N) c < nb N := ix_lt g hc
  have := nb10 hW
  rw [b_and, b_not _ (by omega), h.1 c hc g, h'.1 c hc g], fun i hi => by rw [b_and, h.2 i hi, Bool.false_and]⟩
theorem c_foreignBits {σ : St} {N : Ne} {a : Int32} {k : Nat} {post : Int32 → Prop} (hN : CN σ N) (hW : WN N) (ha : a = nI k) (hk : k < nn N) (h6 : nk N k = 6) (h : ∀ r : Int32, PM N r (fgn N k) → post r) : w_X4_foreignBits σ a post := by
  obtain ⟨-, -, -, h9, h10, -, -, -, h15, h16, -⟩ := hN
  have h24 := hW.1
  have hx := hW.2.2.2.1 k hk h6
  have hc := hW.2.2.1 k hk (by omega)
  unfold w_X4_foreignBits
  refine rd_of k ha (by omega) (by decide) ?_
  rw [h10 k hk, if_neg (by omega)]
  refine rd_of (nx N k) rfl (by omega) (by decide) ?_
  refine rd_of k ha (by omega) (by decide) ?_
  rw [h9 k hk, if_pos (by omega)]
  refine rd_of (nc N k) rfl (by omega) (by decide) ?_
  refine h _ (PM_cong (PM_andn hW (h16 (nx N k) hx) (h15 (nc N k) hc)) (fun c q g => ?_))
  simp [fgn, q]
theorem c_bitsOfSet {σ : St} {N : Ne} {a : Int32} {st : Nat} {post : Int32 → Prop} (hN : CN σ N) (hW : WN N) (ha : a = nI st) (h : ∀ r : Int32, PM N r (tik N st) → post r) : w_X4_bitsOfSet σ a post := by
  have h15 := hN.2.2.2.2.2.2.2.2.1
  unfold w_X4_bitsOfSet
  refine jn_at ?_
  refine lpE2_inv (I := fun y3 y4 => ∃ k, k ≤ 4 ∧ y4 = nI k ∧ PM N y3 (fun c => decide (nc N c < k) && st.testBit (nc N c))) (μ := fun _ y4 => 4 - y4.toNatClampNeg) ?_ 0 0 ⟨0, by omega, rfl, PM_cong (PM_0 N) (fun c _ _ => by simp)⟩
  rintro rec y3 y4 ⟨k, hk, rfl, hp⟩ hrec
  unfold w_X4_bitsOfSet_L4
  refine br_le 4 k rfl rfl (by omega) (by omega) (fun q => h _ (PM_cong hp (fun c hc g => ?_))) (fun q => ?_)
  · have := hW.2.2.1 c hc g
    simp [tik, hc, isB_t g, show nc N c < k by omega]
  have dec : 4 - (nI k + 1).toNatClampNeg < 4 - (nI k).toNatClampNeg := by rw [nI_1, cl_nI (by omega), cl_nI (by omega)]; omega
  rw [ha, b_getN (by omega)]
  cases t : st.testBit k with
  | true =>
    refine br_1 rfl (rd_of k rfl q (by decide) (nm_of (nm_of (hrec _ _ ⟨k + 1, by omega, nI_1 k, ?_⟩ dec))))
    refine PM_cong (PM_or hp (h15 k q)) (fun c hc g => ?_)
    by_cases e : nc N c = k
    · simp [e, t]
    · by_cases e2 : nc N c < k
      · simp [e, e2, show nc N c < k + 1 by omega]
      · simp [e, e2, show ¬ nc N c < k + 1 by omega]
  | false =>
    refine br_0 (by decide) (nm_of (hrec _ _ ⟨k + 1, by omega, nI_1 k, PM_cong hp (fun c hc g => ?_)⟩ dec))
    by_cases e : nc N c = k
    · simp [e, t]
    · by_cases e2 : nc N c < k
      · simp [e2, show nc N c < k + 1 by omega]
      · simp [e2, show ¬ nc N c < k + 1 by omega]
theorem cth_iff {N : Ne} {i : Nat} : cth N i = true ↔ ∃ c, c < nn N ∧ 4 < nk N c ∧ nc N c = i := by
  unfold cth zc
  rw [Bool.not_eq_true', decide_eq_false_iff_not, fb_ct_zero]
  constructor
  · intro h
    refine Classical.byContradiction (fun n => h (fun c hc => ?_))
    by_cases g : 4 < nk N c
    · by_cases e : nc N c = i
      · exact absurd ⟨c, hc, g, e⟩ n
      · simp [e]
    · simp [isB_f g]
  · rintro ⟨c, hc, g, e⟩ n
    have := n c hc
    simp [isB_t g, e] at this
theorem c_clocksInUse {σ : St} {N : Ne} {post : Int32 → Prop} (hN : CN σ N) (hW : WN N) (h : ∀ r : Int32, (∀ i, bt r i = cth N i) → post r) : w_X4_clocksInUse σ post := by
  have h15 := hN.2.2.2.2.2.2.2.2.1
  unfold w_X4_clocksInUse
  refine jn_at ?_
  refine lpE2_inv (I := fun y3 y4 => ∃ k, k ≤ 4 ∧ y4 = nI k ∧ ∀ i, bt y3 i = (decide (i < k) && cth N i)) (μ := fun _ y4 => 4 - y4.toNatClampNeg) ?_ 0 0 ⟨0, by omega, rfl, fun i => by rw [b_0]; simp⟩
  rintro rec y3 y4 ⟨k, hk, rfl, hp⟩ hrec
  unfold w_X4_clocksInUse_L4
  refine br_le 4 k rfl rfl (by omega) (by omega) (fun q => h _ (fun i => ?_)) (fun q => ?_)
  · rw [hp i]
    rcases Nat.lt_or_ge i k with z | z
    · simp [z]
    · have : cth N i = false := by
        cases u : cth N i with
        | false => rfl
        | true =>
          obtain ⟨c, hc, g, e⟩ := cth_iff.mp u
          have := hW.2.2.1 c hc g
          omega
      rw [this, Bool.and_false]
  have dec : 4 - (nI k + 1).toNatClampNeg < 4 - (nI k).toNatClampNeg := by rw [nI_1, cl_nI (by omega), cl_nI (by omega)]; omega
  refine rd_of k rfl q (by decide) ?_
  refine jn_1 (fun y9 => ∀ i, bt y9 i = (decide (i = k) && cth N i)) (fun J hJ => ?_) ?_
  · refine br_2 (fun z => hJ _ (fun i => ?_)) (fun z => hJ _ (fun i => ?_))
    · rw [b_0]
      by_cases e : i = k
      · subst e
        cases u : cth N i with
        | false => simp
        | true =>
          exfalso
          obtain ⟨c, hc, g, e⟩ := cth_iff.mp u
          have := (PM_zero (h15 i q)).mp z c hc g
          simp [e] at this
      · simp [e]
    · rw [b_one (by omega)]
      by_cases e : i = k
      · subst e
        have : cth N i = true := by
          cases u : cth N i with
          | true => rfl
          | false =>
            exfalso
            apply z
            refine (PM_zero (h15 i q)).mpr (fun c hc g => ?_)
            by_cases e : nc N c = i
            · rw [cth_iff.mpr ⟨c, hc, g, e⟩] at u; cases u
            · simp [e]
        simp [this]
      · simp [e]
  intro y9 h9
  refine nm_of (nm_of (hrec _ _ ⟨k + 1, by omega, nI_1 k, fun i => ?_⟩ dec))
  rw [b_or, hp i, h9 i]
  by_cases e : i = k
  · simp [e]
  · by_cases e2 : i < k
    · simp [e, e2, show i < k + 1 by omega]
    · simp [e, e2, show ¬ i < k + 1 by omega]
theorem c_bitsBetween {σ : St} {N : Ne} {a b : Int32} {x y : Nat} {post : Int32 → Prop} (hN : CN σ N) (hW : WN N) (ha : a = nI x) (hb : b = nI y) (hx : x < 2 ^ 31) (hy : y < 2 ^ 31) (h : ∀ r : Int32, PM N r (fun c => decide (x ≤ c) && decide (c ≤ y)) → post r) : w_X4_bitsBetween σ a b post := by
  have h10 := nb10 hW
  have h24 := hW.1
  unfold w_X4_bitsBetween
  refine jn_at ?_
  refine lpE2_inv (I := fun y3 y4 => ∃ i, i ≤ nb N ∧ y4 = nI i ∧ PM N y3 (fun d => decide (fb_ct (isB N) d < i) && (decide (x ≤ d) && decide (d ≤ y)))) (μ := fun _ y4 => nb N - y4.toNatClampNeg) ?_ 0 0 ⟨0, by omega, rfl, PM_beg _⟩
  rintro rec y3 y4 ⟨i, hi, rfl, hp⟩ hrec
  unfold w_X4_bitsBetween_L5
  refine br_le (nb N) i hN.2.1 rfl (by omega) (by omega) (fun q => h _ (PM_end q hp)) (fun q => ?_)
  obtain ⟨c, hc, g, e, e14⟩ := cofb hN q
  have dec : nb N - (nI i + 1).toNatClampNeg < nb N - (nI i).toNatClampNeg := by rw [nI_1, cl_nI (by omega), cl_nI (by omega)]; omega
  have nx : ∀ m' : Int32, (∀ j, bt m' j = (bt y3 j || ((decide (x ≤ c) && decide (c ≤ y)) && decide (j = i)))) → rec m' (nI i + 1) := fun m' hm => hrec _ _ ⟨i + 1, q, nI_1 i, PM_step hp hc g e hm⟩ dec
  refine rd_of i rfl (by omega) (by decide) ?_
  rw [e14]
  refine br_lt c x rfl ha (by omega) hx (fun z => nm_of (nx _ (fun j => ?_))) (fun z => ?_)
  · simp [show ¬ x ≤ c by omega]
  refine rd_of i rfl (by omega) (by decide) ?_
  rw [e14]
  refine br_lt y c hb rfl hy (by omega) (fun u => nm_of (nx _ (fun j => ?_))) (fun u => nm_of (nm_of (nx _ (fun j => ?_))))
  · simp [show ¬ c ≤ y by omega]
  · rw [b_or, b_one (by omega)]; simp [z, u]
theorem c_asCells {σ : St} {N : Ne} {a : Int32} {p : Nat → Bool} {post : Int32 → Prop} (hN : CN σ N) (hW : WN N) (ha : PM N a p) (h : ∀ r : Int32, (∀ d, bt r d = (decide (d < nn N) && isB N d && p d)) → post r) : w_X4_asCells σ a post := by
  have h10 := nb10 hW
  have h24 := hW.1
  unfold w_X4_asCells
  refine jn_at ?_
  refine lpE2_inv (I := fun y3 y4 => ∃ i, i ≤ nb N ∧ y4 = nI i ∧ ∀ d, bt y3 d = (decide (d < nn N) && isB N d && (decide (fb_ct (isB N) d < i) && p d))) (μ := fun _ y4 => nb N - y4.toNatClampNeg) ?_ 0 0 ⟨0, by omega, rfl, fun d => by rw [b_0]; simp⟩
  rintro rec y3 y4 ⟨i, hi, rfl, hp⟩ hrec
  unfold w_X4_asCells_L4
  refine br_le (nb N) i hN.2.1 rfl (by omega) (by omega) (fun q => h _ (fun d => ?_)) (fun q => ?_)
  · rw [hp d]
    by_cases z : d < nn N
    · by_cases u : 4 < nk N d
      · have : fb_ct (isB N) d < nb N := ix_lt u z
        simp [show fb_ct (isB N) d < i by omega]
      · simp [isB_f u]
    · simp [z]
  obtain ⟨c, hc, g, e, e14⟩ := cofb hN q
  have dec : nb N - (nI i + 1).toNatClampNeg < nb N - (nI i).toNatClampNeg := by rw [nI_1, cl_nI (by omega), cl_nI (by omega)]; omega
  have hai : bt a i = p c := by rw [← e]; exact ha.1 c hc g
  refine rd_of i rfl (by omega) (by decide) ?_
  rw [e14, b_get _ (by omega), hai]
  refine nm_of (nm_of (hrec _ _ ⟨i + 1, q, nI_1 i, fun d => ?_⟩ dec))
  rw [b_or, b_put1 (by omega), hp d]
  by_cases z : d = c
  · subst z
    simp [hc, isB_t g, e]
  · by_cases z1 : d < nn N
    · by_cases u : 4 < nk N d
      · have ne : fb_ct (isB N) d ≠ i := fun q2 => z (ix_inj u g (by rw [q2, e]))
        by_cases y : fb_ct (isB N) d < i
        · simp [z, y, show fb_ct (isB N) d < i + 1 by omega]
        · simp [z, y, show ¬ fb_ct (isB N) d < i + 1 by omega]
      · simp [isB_f u, z]
    · simp [z, z1]
