/-! THE REFERENCE: a moment in the making -/
theorem b_getN {st k : Nat} (hk : k < 32) : (nI st >>> (nI k &&& 31)) &&& 1 = bI (st.testBit k) := by rw [b_get _ hk, bt_nI k hk]
theorem m_isTicking {σ : St} {N : Ne} {a b : Int32} {st c : Nat} {post : Int32 → Prop} (hN : NM σ N) (hW : WN N) (ha : a = nI st) (hb : b = nI c) (hc : c < nn N) (h : post (bI (tik N st c))) : w_X12_isTicking σ a b post := by
  have h24 := hW.1
  have h6 := hW.2.1 c hc
  obtain ⟨-, -, hk, hcl, -⟩ := hN
  unfold w_X12_isTicking
  refine rd_of c hb (by omega) (by decide) ?_
  rw [hk c hc]
  refine br_le (nk N c) 4 rfl rfl (by omega) (by omega) (fun q => ?_) (fun q => ?_)
  · have e : tik N st c = false := by simp [tik, isB, show ¬ 4 < nk N c by omega]
    rw [e] at h; exact h
  refine rd_of c hb (by omega) (by decide) ?_
  have h4 := hW.2.2.1 c hc q
  rw [hcl c hc, if_pos q, ha, b_getN (by omega)]
  have e : tik N st c = st.testBit (nc N c) := by simp [tik, isB, hc, q]
  rw [e] at h
  cases hb : st.testBit (nc N c) with
  | true => rw [hb] at h; exact br_1 rfl h
  | false => rw [hb] at h; exact br_0 (by decide) h
theorem m_isEither {σ : St} {N : Ne} {v p ch : Nat → Bool} {a : Int32} {c : Nat} {post : Int32 → Prop} (hN : NM σ N) (hW : WN N) (ha : a = nI c) (hc : c < nn N) (h6 : nk N c = 6)
    (hv : ∀ r, r < nn N → bt (σ.1 0 21) r = EV N v r) (hp : ∀ r, r < nn N → 4 < nk N r → bt (σ.1 0 22) r = p r) (hch : ∀ r, bt (σ.1 0 23) r = ch r) (hcb : ∀ r, ch r = true → r < nn N ∧ 4 < nk N r)
    (h1 : Bth N v p (fun b => ch b && decide (nc N b ≠ nc N c)) (nx N c) → post 1) (h0 : ¬ Bth N v p (fun b => ch b && decide (nc N b ≠ nc N c)) (nx N c) → post 0) : w_X12_isEither σ a post := by
  have h24 := hW.1
  obtain ⟨hn, -, hk, hcl, hx, -⟩ := id hN
  have hxc := hW.2.2.2.1 c hc h6
  have hcc := hW.2.2.1 c hc (by omega)
  generalize ho : (fun b => ch b && decide (nc N b ≠ nc N c)) = o at h1 h0
  have oz : ∀ r, o r = true → r < nn N ∧ 4 < nk N r := fun r hr => by
    rw [← ho] at hr
    exact hcb r (by simp only [Bool.and_eq_true] at hr; exact hr.1)
  unfold w_X12_isEither
  refine jn_1 (fun y2 => ∀ i, bt y2 i = o i) (fun J1 hJ1 => ?_) ?_
  · refine lpE2_inv (I := fun y17 y18 => ∃ k, k ≤ nn N ∧ y18 = nI k ∧ ∀ i, bt y17 i = (decide (i < k) && o i)) (μ := fun _ y18 => nn N - y18.toNatClampNeg) ?_ 0 0 ⟨0, by omega, rfl, fun i => by rw [b_0]; simp⟩
    rintro rec y17 y18 ⟨k, hkn, rfl, hb⟩ hrec
    unfold w_X12_isEither_L4
    refine br_le (nn N) k hn rfl (by omega) (by omega) (fun q => hJ1 y17 (fun i => ?_)) (fun q => ?_)
    · rw [hb i]
      by_cases g : i < k
      · simp [g]
      · cases e : o i with
        | false => simp
        | true => have := (oz i e).1; omega
    refine jn_1 (fun y22 => ∀ i, bt y22 i = (decide (i = k) && o i)) (fun J21 hJ => ?_) ?_
    · refine jn_0 (o k = false) (fun J25 hJ25 => ?_) (fun e => hJ _ (fun i => ?_))
      · rw [b_get _ (by omega), hch k]
        refine br_2 (fun b1 => ?_) (fun b1 => hJ25 ?_)
        · have b2 := (bI_one _).mp b1
          have b3 := (hcb k b2).2
          have b4 := hW.2.2.1 k q b3
          refine rd_of k rfl (by omega) (by decide) ?_
          refine rd_of c ha (by omega) (by decide) ?_
          rw [hcl k q, if_pos b3, hcl c hc, if_pos (by omega)]
          refine br_eq (nc N k) (nc N c) rfl rfl (by omega) (by omega) (fun e => hJ25 ?_) (fun e => hJ _ (fun i => ?_))
          · rw [← ho]; simp [e]
          · rw [b_one (by omega)]
            by_cases g : i = k
            · subst g
              rw [← ho]; simp [b2, e]
            · simp [g]
        · cases e : ch k with
          | false => rw [← ho]; simp [e]
          | true => rw [e] at b1; exact absurd rfl b1
      · rw [b_0]
        by_cases g : i = k
        · subst g; simp [e]
        · simp [g]
    intro y22 h22
    refine nm_of (nm_of (hrec _ _ ⟨k + 1, q, nI_1 k, fun i => ?_⟩ ?_))
    · rw [b_or, hb i, h22 i]
      by_cases g1 : i < k
      · simp [g1, show i < k + 1 by omega, show ¬ i = k by omega]
      · by_cases g2 : i = k
        · simp [g2]
        · simp [g1, g2, show ¬ i < k + 1 by omega]
    · rw [nI_1, cl_nI (by omega), cl_nI (by omega)]; omega
  intro y2 h2
  refine rd_of c ha (by omega) (by decide) ?_
  rw [hx c hc, if_neg (by omega)]
  refine w_bitOf_of (nx N c) rfl (by omega) ?_
  rw [hv _ hxc]
  obtain ⟨om, hom, eo⟩ := nn_of (x := y2) (by rw [h2]; cases e : o 31 with | false => rfl | true => have := (oz 31 e).1; omega)
  subst eo
  have ob : ∀ i, om.testBit i = o i := by
    intro i
    rcases Nat.lt_or_ge i 32 with q | q
    · rw [← bt_nI i q]; exact h2 i
    · rw [Nat.testBit_lt_two_pow (Nat.lt_of_lt_of_le hom (Nat.pow_le_pow_right (by decide) (by omega)))]
      cases e : o i with
      | false => rfl
      | true => have := (oz i e).1; omega
  refine jn_at ?_
  refine lpE1_inv (I := fun y7 => ∃ w, y7 = nI w ∧ w < 2 ^ 31 ∧ sbs w om ∧ ∀ s, sbs s om → w < s → EV N (mx v p s.testBit) (nx N c) = EV N v (nx N c)) (μ := fun y7 => y7.toNatClampNeg) ?_ (nI om) ⟨om, rfl, hom, fun _ h => h, fun s hs hl => ?_⟩
  rotate_left
  · exfalso
    have : s ≤ om := by
      have e : s &&& om = s := by
        apply Nat.eq_of_testBit_eq
        intro i
        rw [Nat.testBit_and]
        cases q : s.testBit i with
        | false => rfl
        | true => rw [hs i q]; rfl
      rw [← e]
      exact Nat.and_le_right
    omega
  rintro rec y7 ⟨w, rfl, hw31, hws, hall⟩ hrec
  unfold w_X12_isEither_L72
  refine br_le w 0 rfl rfl (by omega) (by omega) (fun q => h0 ?_) (fun q => ?_)
  · rintro ⟨w', hw', hne⟩
    apply hne
    have hz : ∀ b, w' b = (decide (b < 24) && w' b) := by
      intro b
      cases e : w' b with
      | false => simp
      | true => have := (oz b (hw' b e)).1; simp; omega
    have hs : sbs (ofb w' 24) om := by
      intro i hi
      rw [ofb_bit] at hi
      rw [ob]
      simp only [Bool.and_eq_true] at hi
      exact hw' i hi.2
    rcases Nat.eq_zero_or_pos (ofb w' 24) with e | e
    · have hf : w' = fun _ => false := by
        funext b
        rw [hz b, ← ofb_bit, e, Nat.zero_testBit]
      rw [hf]
      rfl
    · have key := hall _ hs (by omega)
      have hf : (ofb w' 24).testBit = w' := by
        funext b
        rw [ofb_bit]; exact (hz b).symm
      rwa [hf] at key
  refine m_mixed (w := w.testBit) (v := v) (p := p) hN hW (fun r hr g => by rw [hv r hr]; exact EV_bit N v g) hp (fun r hr g => bt_nI r (by omega)) (fun r10 hr => ?_)
  refine rd_of c ha (by omega) (by decide) ?_
  rw [hx c hc, if_neg (by omega)]
  refine w_bitOf_of (nx N c) rfl (by omega) ?_
  rw [hr _ hxc]
  refine br_2 (fun e => ?_) (fun e => h1 ⟨w.testBit, fun b hb => by rw [← ob]; exact hws b hb, fun g => e ((bI_inj _ _).mpr g)⟩)
  have e' := (bI_inj _ _).mp e
  have e3 : (nI w - 1) &&& nI om = nI ((w - 1) &&& om) := by
    rw [show nI w - 1 = nI (w - 1) by rw [show w = (w - 1) + 1 by omega]; exact nI_pred (w - 1), nx_and]
  refine nm_as _ e3 (hrec _ ⟨(w - 1) &&& om, rfl, ?_, sbs_and _ _, fun s hs hl => ?_⟩ ?_)
  · have := @Nat.and_le_left (w - 1) om; omega
  · rcases Nat.lt_trichotomy s w with g | g | g
    · exact absurd (sub_le w om s hws hs g) (by omega)
    · rw [g]; exact e'
    · exact hall s hs g
  · have := @Nat.and_le_left (w - 1) om
    rw [cl_nI (by omega), cl_nI (by omega)]
    omega
