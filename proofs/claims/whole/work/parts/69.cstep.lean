/-! THE CLASS: one moment in the making -/
theorem PM_stepB {N : Ne} {m m' : Int32} {B P : Nat → Bool} {i c : Nat} (h : PM N m (fun d => B d || (decide (fb_ct (isB N) d < i) && P d))) (hc : c < nn N) (g : 4 < nk N c) (e : fb_ct (isB N) c = i) (hm : ∀ j, bt m' j = (bt m j || (P c && decide (j = i)))) : PM N m' (fun d => B d || (decide (fb_ct (isB N) d < i + 1) && P d)) := by
  have hi : i < nb N := by rw [← e]; exact ix_lt g hc
  refine ⟨fun d hd q => ?_, fun j hj => ?_⟩
  · rw [hm, h.1 d hd q]
    by_cases z : fb_ct (isB N) d = i
    · have : d = c := ix_inj q g (by rw [z, e])
      subst this
      simp [z]
    · by_cases y : fb_ct (isB N) d < i
      · simp [y, z, show fb_ct (isB N) d < i + 1 by omega]
      · simp [y, z, show ¬ fb_ct (isB N) d < i + 1 by omega]
  · rw [hm, h.2 j hj]
    simp [show ¬ j = i by omega]
/-- the keepers that tick, the inputs that tick -/
def kti (N : Ne) (st : Nat) : Nat → Bool := fun c => decide (nk N c = 6) && tik N st c
def iti (N : Ne) (st : Nat) : Nat → Bool := fun c => decide (nk N c = 5) && tik N st c
/-- what is sampled: keepers that tick alone have changed, inputs that tick are 0 -/
def smp (N : Ne) (v : Nat → Bool) (st : Nat) : Nat → Bool := fun c => (v c && !tik N st c) || (kti N st c && EV N v (nx N c))
def CT (σ : St) (N : Ne) (v : Nat → Bool) (st : Nat) : Prop := PM N (σ.1 4 1) v ∧ PM N (σ.1 4 2) (kti N st) ∧ PM N (σ.1 4 3) (smp N v st) ∧ PM N (σ.1 4 5) (iti N st)
theorem CT_ag {σ σ' : St} {N : Ne} {v : Nat → Bool} {st : Nat} (h : ag [] [(4, 1), (4, 2), (4, 3), (4, 5)] σ σ') (hT : CT σ N v st) : CT σ' N v st := by
  obtain ⟨h1, h2, h3, h4⟩ := hT
  refine ⟨?_, ?_, ?_, ?_⟩
  · rw [(h 4 1 (by simp)).1]; exact h1
  · rw [(h 4 2 (by simp)).1]; exact h2
  · rw [(h 4 3 (by simp)).1]; exact h3
  · rw [(h 4 5 (by simp)).1]; exact h4
abbrev frT (σ σ' : St) : Prop := fr [] [(4, 1), (4, 2), (4, 3), (4, 5)] σ σ'
theorem c_tick {σ : St} {N : Ne} {v : Nat → Bool} {a b : Int32} {st : Nat} {post : St → Prop} (hN : CN σ N) (hW : WN N) (ha : PM N a v) (hb : b = nI st) (h : ∀ σ', frT σ σ' → CT σ' N v st → post σ') : w_X8_tick σ a b post := by
  have h24 := hW.1
  have h10 := nb10 hW
  unfold w_X8_tick
  refine nm_of ?_
  have f1 : frT σ (upI σ 4 1 a) := fr_I σ 4 1 a (by simp)
  refine c_bitsOfSet (CN_ag (fr_ag f1 (by decide)) hN) hW hb (fun r2 hr => ?_)
  refine nm_of (nm_of (nm_of (jn_at ?_)))
  generalize e6 : upI (upI (upI (upI σ 4 1 a) 4 2 _) 4 5 _) 4 3 _ = σ6
  have f6 : frT σ σ6 := by
    rw [← e6]
    exact fr_stepI (fr_stepI (fr_stepI f1 _ _ _ (by simp)) _ _ _ (by simp)) _ _ _ (by simp)
  have hK := hN.2.2.2.2.2.2.2.2.2.2.1
  have a1 : σ6.1 4 1 = a := by rw [← e6]; simp [upI_get]
  have a2 : PM N (σ6.1 4 2) (kti N st) := by
    rw [← e6]
    simp only [upI_get]
    refine PM_cong (PM_and hr hK) (fun c hc g => ?_)
    show (decide (nk N c = 6) && tik N st c) = _
    rw [Bool.and_comm]
  have a5 : PM N (σ6.1 4 5) (iti N st) := by
    rw [← e6]
    simp only [upI_get]
    refine PM_cong (PM_andn hW hr hK) (fun c hc g => ?_)
    have := hW.2.1 c hc
    show (decide (nk N c = 5) && tik N st c) = _
    by_cases e : nk N c = 6
    · simp [e]
    · simp [e, show nk N c = 5 by omega]
  have a3 : PM N (σ6.1 4 3) (fun d => (v d && !tik N st d) || (decide (fb_ct (isB N) d < 0) && (kti N st d && EV N v (nx N d)))) := by
    rw [← e6]
    simp only [upI_get]
    refine PM_cong (PM_andn hW ha hr) (fun c hc g => ?_)
    simp
  clear e6
  refine lpE2_inv (I := fun y9 σ10 => ∃ i, i ≤ nb N ∧ y9 = nI i ∧ frT σ σ10 ∧ σ10.1 4 1 = a ∧ PM N (σ10.1 4 2) (kti N st) ∧ PM N (σ10.1 4 5) (iti N st) ∧ PM N (σ10.1 4 3) (fun d => (v d && !tik N st d) || (decide (fb_ct (isB N) d < i) && (kti N st d && EV N v (nx N d))))) (μ := fun y9 _ => nb N - y9.toNatClampNeg) ?_ 0 σ6 ⟨0, by omega, rfl, f6, a1, a2, a5, a3⟩
  clear f6 a1 a2 a5 a3 σ6
  rintro rec y9 σ10 ⟨i, hi, rfl, f10, b1, b2, b5, b3⟩ hrec
  have hN' := CN_ag (fr_ag f10 (by decide)) hN
  unfold w_X8_tick_L57
  refine br_le (nb N) i hN'.2.1 rfl (by omega) (by omega) (fun q => ?_) (fun q => ?_)
  · refine h σ10 f10 ⟨by rw [b1]; exact ha, b2, PM_cong b3 (fun c hc g => ?_), b5⟩
    have : fb_ct (isB N) c < nb N := ix_lt g hc
    simp [smp, show fb_ct (isB N) c < i by omega]
  have dec : nb N - (nI i + 1).toNatClampNeg < nb N - (nI i).toNatClampNeg := by rw [nI_1, cl_nI (by omega), cl_nI (by omega)]; omega
  obtain ⟨c, hc, g, e, e14⟩ := cofb hN' q
  have hki : bt (σ10.1 4 2) i = kti N st c := by rw [← e]; exact b2.1 c hc g
  rw [b_get _ (by omega), hki]
  cases hk : kti N st c with
  | false =>
    refine br_0 (by decide) (nm_of (hrec _ _ ⟨i + 1, q, nI_1 i, f10, b1, b2, b5, PM_stepB b3 hc g e (fun j => ?_)⟩ dec))
    rw [hk]; simp
  | true =>
    have h6 : nk N c = 6 := by
      have := hk
      simp [kti] at this
      exact this.1
    refine br_1 rfl (rd_of i rfl (by omega) (by decide) ?_)
    rw [e14]
    refine rd_of c rfl (by omega) (by decide) ?_
    rw [hN'.2.2.2.2.1 c hc, if_neg (by omega)]
    refine c_valueOf hN' hW rfl (hW.2.2.2.1 c hc h6) (by rw [b1]; exact ha) ?_
    refine nm_of (nm_of (hrec _ _ ⟨i + 1, q, nI_1 i, fr_stepI f10 _ _ _ (by simp), ?_, ?_, ?_, ?_⟩ dec))
    · rw [upI_get, if_neg (by decide)]; exact b1
    · rw [upI_get, if_neg (by decide)]; exact b2
    · rw [upI_get, if_neg (by decide)]; exact b5
    · rw [upI_get, if_pos ⟨rfl, rfl⟩]
      refine PM_stepB b3 hc g e (fun j => ?_)
      rw [b_or, b_put1 (by omega), hk, Bool.true_and]
theorem nI_low (m : Nat) : nI m &&& (1 : Int32) = bI (m.testBit 0) := by
  apply b_ext
  intro i hi
  rw [b_and, bt_1, bt_nI i hi, bt_bI]
  by_cases e : i = 0
  · subst e; simp
  · simp [e]
/-- the digits of a number at the places of a mask -/
theorem c_spread {N : Ne} (hW : WN N) {a b : Int32} {n : Nat} {p : Nat → Bool} {post : Int32 → Prop} (ha : a = nI n) (hn : n < 2 ^ 31) (hb : PM N b p) (hp : ∀ c, p c = true → 4 < nk N c) (h : ∀ r : Int32, PM N r (fun c => p c && n.testBit (fb_ct p c)) → post r) : w_X8_spread a b post := by
  have h10 := nb10 hW
  have fin : ∀ y : Int32, (∀ j, j < 10 → bt y j = (bt b j && n.testBit (fb_ct (bt b) j))) → (∀ j, 10 ≤ j → bt y j = false) → post y := by
    intro y hy hz
    refine h y ⟨fun c hc g => ?_, fun j hj => ?_⟩
    · have l : fb_ct (isB N) c < nb N := ix_lt g hc
      rw [hy _ (by omega), hb.1 c hc g, PM_ct hb hp c (by omega)]
    · rcases Nat.lt_or_ge j 10 with q | q
      · rw [hy j q, hb.2 j hj, Bool.false_and]
      · exact hz j q
  unfold w_X8_spread
  refine jn_at ?_
  refine lpE3_inv (I := fun y3 y4 y5 => ∃ i, i ≤ 10 ∧ y5 = nI i ∧ y3 = nI (n / 2 ^ fb_ct (bt b) i) ∧ ∀ j, bt y4 j = (decide (j < i) && (bt b j && n.testBit (fb_ct (bt b) j)))) (μ := fun _ _ y5 => 10 - y5.toNatClampNeg) ?_ a 0 0 ⟨0, by omega, rfl, by rw [ha]; show _ = nI (n / 2 ^ 0); rw [Nat.pow_zero, Nat.div_one], fun j => by rw [b_0]; simp⟩
  rintro rec y3 y4 y5 ⟨i, hi, rfl, rfl, hy⟩ hrec
  have ml : n / 2 ^ fb_ct (bt b) i ≤ n := Nat.div_le_self _ _
  unfold w_X8_spread_L7
  refine br_le 10 i rfl rfl (by omega) (by omega) (fun q => ?_) (fun q => ?_)
  · refine fin _ (fun j hj => ?_) (fun j hj => ?_)
    · rw [hy j]; simp [show j < i by omega]
    · rw [hy j]; simp [show ¬ j < i by omega]
  refine br_eq (n / 2 ^ fb_ct (bt b) i) 0 rfl rfl (by omega) (by omega) (fun z => ?_) (fun z => ?_)
  · refine fin _ (fun j hj => ?_) (fun j hj => ?_)
    · rw [hy j]
      by_cases u : j < i
      · simp [u]
      · have lt : n < 2 ^ fb_ct (bt b) i := by
          rcases Nat.div_eq_zero_iff.mp z with w | w
          · exact absurd w (by have := Nat.two_pow_pos (fb_ct (bt b) i); omega)
          · exact w
        have le : 2 ^ fb_ct (bt b) i ≤ 2 ^ fb_ct (bt b) j := Nat.pow_le_pow_right (by decide) (fb_ct_mono _ (by omega))
        rw [Nat.testBit_lt_two_pow (by omega)]
        simp
    · rw [hy j]; simp [show ¬ j < i by omega]
  have dec : 10 - (nI i + 1).toNatClampNeg < 10 - (nI i).toNatClampNeg := by rw [nI_1, cl_nI (by omega), cl_nI (by omega)]; omega
  rw [b_get _ (by omega)]
  cases t : bt b i with
  | true =>
    have e1 : fb_ct (bt b) (i + 1) = fb_ct (bt b) i + 1 := by rw [fb_ct_succ, t]; rfl
    refine br_1 rfl ?_
    rw [nI_low, pk_shrN (by omega) _ 1 (by decide)]
    refine nm_of (nm_of (nm_of (hrec _ _ _ ⟨i + 1, by omega, nI_1 i, ?_, fun j => ?_⟩ dec)))
    · rw [e1, Nat.div_div_eq_div_mul, ← Nat.pow_add]
    · rw [b_or, hy j, b_put1 (by omega), Nat.testBit_div_two_pow, Nat.zero_add]
      by_cases u : j = i
      · subst u; simp [t]
      · by_cases u2 : j < i
        · simp [u, u2, show j < i + 1 by omega]
        · simp [u, u2, show ¬ j < i + 1 by omega]
  | false =>
    have e1 : fb_ct (bt b) (i + 1) = fb_ct (bt b) i := by rw [fb_ct_succ, t]; rfl
    refine br_0 (by decide) (nm_of (hrec _ _ _ ⟨i + 1, by omega, nI_1 i, by rw [e1], fun j => ?_⟩ dec))
    rw [hy j]
    by_cases u : j = i
    · subst u; simp [t]
    · by_cases u2 : j < i
      · simp [u2, show j < i + 1 by omega]
      · simp [u2, show ¬ j < i + 1 by omega]
/-- either: some of the foreign changing bits make the other value -/
theorem Bth_iff {N : Ne} (hW : WN N) {v : Nat → Bool} {st inp c : Nat} (hc : c < nn N) (h6 : nk N c = 6) : Bth N v (pln N v st inp) (oth N v st inp c) (nx N c) ↔ ∃ u, cub N v (fun b => chg N v st inp b && fgn N c b) u ∧ EV N u (nx N c) ≠ EV N v (nx N c) := by
  have hx := hW.2.2.2.1 c hc h6
  constructor
  · rintro ⟨w, hw, ne⟩
    have w0 : ∀ b, oth N v st inp c b = false → w b = false := fun b hb => by
      cases q : w b with
      | false => rfl
      | true => rw [hw b q] at hb; cases hb
    refine ⟨fun b => if fgn N c b = true then mx v (pln N v st inp) w b else v b, fun b hb g z => ?_, fun q => ne ?_⟩
    · show (if fgn N c b = true then mx v (pln N v st inp) w b else v b) = v b
      by_cases f : fgn N c b = true
      · rw [if_pos f]
        have cf : chg N v st inp b = false := by
          have z' : (chg N v st inp b && fgn N c b) = false := z
          rwa [f, Bool.and_true] at z'
        have : w b = false := w0 b (by unfold oth; rw [cf]; rfl)
        unfold mx
        rw [this]; rfl
      · rw [if_neg f]
    · rw [← q]
      refine (EV_supp hW (nx N c) hx (fun b hg hb g => ?_)).symm
      show (if fgn N c b = true then mx v (pln N v st inp) w b else v b) = _
      by_cases f : fgn N c b = true
      · rw [if_pos f]
      · rw [if_neg f]
        have nceq : nc N b = nc N c := Classical.byContradiction (fun n => f (by unfold fgn; rw [hg, decide_eq_true hb, decide_eq_true n]; rfl))
        have : w b = false := w0 b (by unfold oth; rw [decide_eq_false (by simp [nceq]), Bool.and_false])
        unfold mx
        rw [this]; rfl
  · rintro ⟨u, hu, ne⟩
    refine ⟨fun b => oth N v st inp c b && (u b != v b), fun b hb => ((Bool.and_eq_true _ _).mp hb).1, fun q => ne ?_⟩
    rw [← q]
    refine (EV_cong hW (fun b hb g => ?_) (nx N c) hx).symm
    show (if (oth N v st inp c b && (u b != v b)) = true then pln N v st inp b else v b) = u b
    by_cases e : u b = v b
    · rw [e]; simp
    · have vr : (chg N v st inp b && fgn N c b) = true := by
        cases z : (chg N v st inp b && fgn N c b) with
        | true => rfl
        | false => exact absurd (hu b hb g z) e
      obtain ⟨cg, fg⟩ := (Bool.and_eq_true _ _).mp vr
      have ncn : nc N b ≠ nc N c := by
        unfold fgn at fg
        simpa using ((Bool.and_eq_true _ _).mp fg).2
      have ot : oth N v st inp c b = true := by unfold oth; rw [cg, decide_eq_true ncn]; rfl
      have pe : pln N v st inp b ≠ v b := by unfold chg at cg; simpa using cg
      rw [ot, if_pos (by simp [e])]
      cases hu1 : u b <;> cases hv1 : v b <;> cases hp1 : pln N v st inp b <;> simp_all
theorem c_isEither {σ : St} {N : Ne} {v : Nat → Bool} {a b : Int32} {st inp c : Nat} {post : Int32 → Prop} (hN : CN σ N) (hW : WN N) (hv : PM N (σ.1 4 1) v) (ha : a = nI c) (hc : c < nn N) (h6 : nk N c = 6) (hb : PM N b (chg N v st inp)) (h1 : Bth N v (pln N v st inp) (oth N v st inp c) (nx N c) → post 1) (h0 : ¬ Bth N v (pln N v st inp) (oth N v st inp c) (nx N c) → post 0) : w_X8_isEither σ a b post := by
  have h24 := hW.1
  have hx := hW.2.2.2.1 c hc h6
  have iff := Bth_iff hW (v := v) (st := st) (inp := inp) hc h6
  unfold w_X8_isEither
  refine c_foreignBits hN hW ha hc h6 (fun r hr => nm_of ?_)
  have hp := PM_and hb hr
  refine br_2 (fun z => h0 (fun n => ?_)) (fun z => ?_)
  · obtain ⟨u, hu, ne⟩ := iff.mp n
    have z' := (PM_zero hp).mp z
    exact ne (EV_cong hW (fun d hd g => hu d hd g (z' d hd g)) _ hx)
  refine rd_of c ha (by omega) (by decide) ?_
  rw [hN.2.2.2.2.1 c hc, if_neg (by omega)]
  have vc : cub N v (fun b => chg N v st inp b && fgn N c b) v := fun _ _ _ _ => rfl
  refine c_hasBoth hN hW rfl hx hv hp (fun t f => br_0 (by decide) (h1 (iff.mpr ?_))) (fun n => br_1 rfl (h0 (fun B => n ?_)))
  · obtain ⟨u, hu, e⟩ := t
    obtain ⟨u', hu', e'⟩ := f
    cases z : EV N v (nx N c) with
    | true => exact ⟨u', hu', by rw [e']; decide⟩
    | false => exact ⟨u, hu, by rw [e]; decide⟩
  · obtain ⟨u, hu, ne⟩ := iff.mp B
    cases z : EV N v (nx N c) with
    | true => exact ⟨⟨v, vc, z⟩, u, hu, by
        cases y : EV N u (nx N c) with
        | false => rfl
        | true => rw [y, z] at ne; exact absurd rfl ne⟩
    | false => exact ⟨⟨u, hu, by
        cases y : EV N u (nx N c) with
        | true => rfl
        | false => rw [y, z] at ne; exact absurd rfl ne⟩, v, vc, z⟩
def CC (σ : St) (N : Ne) (v : Nat → Bool) (st inp : Nat) : Prop := PM N (σ.1 4 4) (pln N v st inp) ∧ PM N (σ.1 4 6) (eit N v st inp)
theorem CC_ag {σ σ' : St} {N : Ne} {v : Nat → Bool} {st inp : Nat} (h : ag [] [(4, 4), (4, 6)] σ σ') (hT : CC σ N v st inp) : CC σ' N v st inp := by
  obtain ⟨h1, h2⟩ := hT
  refine ⟨?_, ?_⟩
  · rw [(h 4 4 (by simp)).1]; exact h1
  · rw [(h 4 6 (by simp)).1]; exact h2
abbrev frC (σ σ' : St) : Prop := fr [] [(4, 4), (4, 6)] σ σ'
theorem eit_iff {N : Ne} {v : Nat → Bool} {st inp c : Nat} : eit N v st inp c = true ↔ kti N st c = true ∧ Bth N v (pln N v st inp) (oth N v st inp c) (nx N c) := by
  unfold eit kti
  rw [Bool.and_eq_true, @decide_eq_true_iff _ (Classical.propDecidable _)]
theorem kti_of {N : Ne} {st c : Nat} (h : kti N st c = true) : nk N c = 6 ∧ tik N st c = true ∧ c < nn N := by
  obtain ⟨h1, h2⟩ := (Bool.and_eq_true _ _).mp h
  exact ⟨by simpa using h1, h2, (tik_lt h2).1⟩
theorem c_choose {σ : St} {N : Ne} {v : Nat → Bool} {a : Int32} {st inp : Nat} {post : St → Prop} (hN : CN σ N) (hW : WN N) (hT : CT σ N v st) (ha : a = nI inp) (hi : inp < 2 ^ 31) (h : ∀ σ', frC σ σ' → CC σ' N v st inp → post σ') : w_X8_choose σ a post := by
  have h24 := hW.1
  have h10 := nb10 hW
  obtain ⟨t1, t2, t3, t5⟩ := hT
  unfold w_X8_choose
  refine c_spread hW ha hi t5 (fun c hc => ?_) (fun r1 hr => nm_of (nm_of (nm_of ?_)))
  · have := ((Bool.and_eq_true _ _).mp hc).1
    have : nk N c = 5 := by simpa using this
    omega
  generalize e4 : upI (upI σ 4 4 (σ.1 4 3 ||| r1)) 4 6 0 = σ4
  have f4 : frC σ σ4 := by rw [← e4]; exact fr_stepI (fr_I σ _ _ _ (by simp)) _ _ _ (by simp)
  have p4 : PM N (σ4.1 4 4) (pln N v st inp) := by
    have e : σ4.1 4 4 = σ.1 4 3 ||| r1 := by rw [← e4]; simp [upI_get]
    rw [e]
    refine PM_cong (PM_or t3 hr) (fun c hc g => ?_)
    have k6 := hW.2.1 c hc
    show pln N v st inp c = (smp N v st c || (iti N st c && inp.testBit (inI N st c)))
    unfold pln smp iti kti
    cases ht : tik N st c with
    | false => simp
    | true =>
      by_cases e6 : nk N c = 6
      · simp [e6]
      · simp [e6, show nk N c = 5 by omega]
  have p6 : σ4.1 4 6 = 0 := by rw [← e4]; simp [upI_get]
  have p1 : PM N (σ4.1 4 1) v := by
    have e : σ4.1 4 1 = σ.1 4 1 := by rw [← e4]; simp [upI_get]
    rw [e]; exact t1
  have p2 : PM N (σ4.1 4 2) (kti N st) := by
    have e : σ4.1 4 2 = σ.1 4 2 := by rw [← e4]; simp [upI_get]
    rw [e]; exact t2
  clear e4
  have pc : PM N (σ4.1 4 4 ^^^ σ4.1 4 1) (chg N v st inp) := PM_cong (PM_xor p4 p1) (fun c hc g => by
    unfold chg
    cases pln N v st inp c <;> cases v c <;> rfl)
  refine br_2 (fun z => ?_) (fun z => jn_at ?_)
  · refine h σ4 f4 ⟨p4, ?_⟩
    rw [p6]
    refine PM_cong (PM_0 N) (fun c hc g => ?_)
    cases q : eit N v st inp c with
    | false => rfl
    | true =>
      exfalso
      obtain ⟨k1, B⟩ := eit_iff.mp q
      obtain ⟨k6, -, -⟩ := kti_of k1
      obtain ⟨u, hu, ne⟩ := (Bth_iff hW hc k6).mp B
      have z' := (PM_zero pc).mp z
      exact ne (EV_cong hW (fun d hd g => hu d hd g (by show (chg N v st inp d && fgn N c d) = false; rw [z' d hd g]; rfl)) _ (hW.2.2.2.1 c hc k6))
  refine lpE2_inv (I := fun y9 σ10 => ∃ i, i ≤ nb N ∧ y9 = nI i ∧ frC σ σ10 ∧ PM N (σ10.1 4 4) (pln N v st inp) ∧ PM N (σ10.1 4 1) v ∧ PM N (σ10.1 4 2) (kti N st) ∧ PM N (σ10.1 4 6) (fun d => decide (fb_ct (isB N) d < i) && eit N v st inp d)) (μ := fun y9 _ => nb N - y9.toNatClampNeg) ?_ 0 σ4 ⟨0, by omega, rfl, f4, p4, p1, p2, by rw [p6]; exact PM_beg _⟩
  generalize σ4.1 4 4 ^^^ σ4.1 4 1 = x5 at pc
  clear f4 p4 p6 p1 p2 z σ4
  rintro rec y9 σ10 ⟨i, hi', rfl, f10, b4, b1, b2, b6⟩ hrec
  have hN' := CN_ag (fr_ag f10 (by decide)) hN
  unfold w_X8_choose_L39
  refine br_le (nb N) i hN'.2.1 rfl (by omega) (by omega) (fun q => h σ10 f10 ⟨b4, PM_end q b6⟩) (fun q => ?_)
  have dec : nb N - (nI i + 1).toNatClampNeg < nb N - (nI i).toNatClampNeg := by rw [nI_1, cl_nI (by omega), cl_nI (by omega)]; omega
  obtain ⟨c, hc, g, e, e14⟩ := cofb hN' q
  have hki : bt (σ10.1 4 2) i = kti N st c := by rw [← e]; exact b2.1 c hc g
  have no : eit N v st inp c = false → rec (nI i + 1) σ10 := fun n => hrec _ _ ⟨i + 1, q, nI_1 i, f10, b4, b1, b2, PM_step b6 hc g e (fun j => by rw [n]; simp)⟩ dec
  rw [b_get _ (by omega), hki]
  cases hk : kti N st c with
  | false =>
    refine br_0 (by decide) (nm_of (no ?_))
    cases y : eit N v st inp c with
    | false => rfl
    | true => rw [(eit_iff.mp y).1] at hk; cases hk
  | true =>
    obtain ⟨k6, -, -⟩ := kti_of hk
    refine br_1 rfl (rd_of i rfl (by omega) (by decide) ?_)
    rw [e14]
    refine c_isEither (st := st) (inp := inp) hN' hW b1 rfl hc k6 pc (fun B => br_0 (by decide) ?_) (fun B => br_1 rfl (nm_of (no ?_)))
    · have y := eit_iff.mpr ⟨hk, B⟩
      refine nm_of (nm_of (hrec _ _ ⟨i + 1, q, nI_1 i, fr_stepI f10 _ _ _ (by simp), ?_, ?_, ?_, ?_⟩ dec))
      · rw [upI_get, if_neg (by decide)]; exact b4
      · rw [upI_get, if_neg (by decide)]; exact b1
      · rw [upI_get, if_neg (by decide)]; exact b2
      · rw [upI_get, if_pos ⟨rfl, rfl⟩]
        refine PM_step b6 hc g e (fun j => ?_)
        rw [b_or, b_one (by omega), y, Bool.true_and]
    · cases y : eit N v st inp c with
      | false => rfl
      | true => exact absurd (eit_iff.mp y).2 B
theorem c_sbehind {σ : St} {N : Ne} {v : Nat → Bool} {a : Int32} {st inp ots : Nat} {post : Int32 → Prop} (hW : WN N) (hC : CC σ N v st inp) (ha : a = nI ots) (ho : ots < 2 ^ 31) (h : ∀ r : Int32, PM N r (bhd N v st inp ots) → post r) : w_X8_behind σ a post := by
  unfold w_X8_behind
  refine c_spread hW ha ho hC.2 (fun c hc => ?_) (fun r hr => h _ (PM_cong (PM_xor hC.1 hr) (fun c _ _ => rfl)))
  have := (eit_lt hc).2
  omega
