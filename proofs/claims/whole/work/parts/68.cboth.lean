/-! THE CLASS: whether a cell has both values -/
theorem EV_supp {N : Ne} (hW : WN N) {v w : Nat → Bool} : ∀ r, r < nn N → (∀ b, HG N r b = true → b < nn N → 4 < nk N b → v b = w b) → EV N v r = EV N w r := by
  intro r
  induction r using Nat.strongRecOn with
  | _ r ih =>
    intro hr h
    rcases Nat.lt_or_ge 4 (nk N r) with hb | hg
    · rw [EV_bit N v hb, EV_bit N w hb, h r (by rw [HG_bit N hb]; simp) hr hb]
    · have key : ∀ s, looks N r s → EV N v s = EV N w s := by
        intro s hs
        have rfs := looks_rf hW hr hg hs
        have sup : ∀ b, HG N s b = true → b < nn N → 4 < nk N b → v b = w b := fun b hb => h b ((HG_gate hW hr hg b).mpr ⟨s, hs, hb⟩)
        rcases Nat.lt_or_ge 4 (nk N s) with q | q
        · rw [EV_bit N v q, EV_bit N w q]
          exact sup s (by rw [HG_bit N q]; simp) rfs.1 q
        · exact ih s (rfs.2 q) rfs.1 sup
      rw [EV_gate hW v hr hg, EV_gate hW w hr hg, key _ (Or.inl rfl)]
      by_cases h3 : nk N r = 3
      · simp [gv, h3]
      · rw [key (ny N r) (Or.inr (Or.inl ⟨h3, rfl⟩))]
        by_cases h4 : nk N r = 4
        · rw [key (nz N r) (Or.inr (Or.inr ⟨h4, rfl⟩))]
        · have h5 : nk N r = 0 ∨ nk N r = 1 ∨ nk N r = 2 := by omega
          rcases h5 with q | q | q <;> simp [gv, q]
/-- x without the bits of y -/
def adn (x y : Nat) : Nat := x &&& (x ^^^ y)
theorem adn_bit (x y i : Nat) : (adn x y).testBit i = (x.testBit i && !y.testBit i) := by
  unfold adn
  rw [Nat.testBit_and, Nat.testBit_xor]
  cases x.testBit i <;> cases y.testBit i <;> rfl
theorem adn_le (x y : Nat) : adn x y ≤ x := Nat.and_le_left
theorem adn_I (x y : Nat) : nI x &&& (nI y ^^^ (-1 : Int32)) = nI (adn x y) := by
  apply b_ext
  intro i hi
  rw [b_and, b_not _ hi, bt_nI i hi, bt_nI i hi, bt_nI i hi, adn_bit]
theorem lb_shl (w : Int64) {m j : Nat} (hm : m < 64) (hj : j < 64) : lb (w <<< ((nI m).toInt64 &&& 63)) j = (decide (m ≤ j) && lb w (j - m)) := by
  obtain ⟨n, -, rfl⟩ := wb_of w
  rw [wb_shl n hm, lb_lN hj, ← Nat.shiftLeft_eq, Nat.testBit_shiftLeft, lb_lN (by omega)]
theorem lb_ne0 (w : Int64) : ¬ w = 0 ↔ ∃ j, j < 64 ∧ lb w j = true := by
  constructor
  · intro h
    refine Classical.byContradiction (fun n => h (lb_ext (fun i hi => ?_)))
    rw [z0_bit i hi]
    cases z : lb w i with
    | false => rfl
    | true => exact absurd ⟨i, hi, z⟩ n
  · rintro ⟨j, hj, z⟩ rfl
    rw [z0_bit j hj] at z; cases z
theorem pw2 : ∀ k, k < 6 → ((1 : Int32) <<< (nI k &&& 31)) = nI (2 ^ k) := by decide +kernel
theorem pw2_lt : ∀ k, k < 6 → 2 ^ k < 64 := by decide +kernel
theorem sub1 : ∀ k, k < 6 → ∀ j, j < 64 → j.testBit k = true → 2 ^ k ≤ j ∧ ∀ i, i < 6 → (j - 2 ^ k).testBit i = (j.testBit i && decide (i ≠ k)) := by decide +kernel
theorem sub0 : ∀ k, k < 6 → ∀ j, j < 64 → j.testBit k = false → 2 ^ k ≤ j → (j - 2 ^ k).testBit k = true := by decide +kernel
theorem low_eq : ∀ j, j < 64 → ∀ s, s < 64 → (∀ i, i < 6 → j.testBit i = s.testBit i) → j = s := by decide +kernel
theorem hi_in : ∀ q, q < 16 → ∀ h, h < 16 → ∀ p, p < 16 → adn p h = 0 → adn q h + p < 16 ∧ ∀ i, i < 4 → (adn q h + p).testBit i = if h.testBit i then p.testBit i else q.testBit i := by decide +kernel
def agr (q h p : Nat) : Bool := (h.testBit 0 || (p.testBit 0 == q.testBit 0)) && (h.testBit 1 || (p.testBit 1 == q.testBit 1)) && (h.testBit 2 || (p.testBit 2 == q.testBit 2)) && (h.testBit 3 || (p.testBit 3 == q.testBit 3))
theorem hi_o1 : ∀ q, q < 16 → ∀ h, h < 16 → ∀ p, p < 16 → agr q h p = true → adn q h + (p &&& h) = p := by decide +kernel
theorem hi_o2 : ∀ h, h < 16 → ∀ p, p < 16 → adn (p &&& h) h = 0 := by decide +kernel
theorem hi_out (q : Nat) (hq : q < 16) (h : Nat) (hh : h < 16) (p : Nat) (hp : p < 16) (a : agr q h p = true) : adn (p &&& h) h = 0 ∧ (p &&& h) ≤ h ∧ adn q h + (p &&& h) = p := ⟨hi_o2 h hh p hp, Nat.and_le_right, hi_o1 q hq h hh p hp a⟩
theorem agr_of {q h p : Nat} (a : ∀ i, (h.testBit i || (p.testBit i == q.testBit i)) = true) : agr q h p = true := by unfold agr; rw [a 0, a 1, a 2, a 3]; rfl
/-- the places that stay, or go all ways -/
def plc (t s k j : Nat) : Prop := ∀ i, i < 6 → (i < k ∧ t.testBit i = true) ∨ j.testBit i = s.testBit i
theorem plc_step {t s k j : Nat} (hk : k < 6) (hj : j < 64) (ht : t.testBit k = true) (hs : s.testBit k = false) : (plc t s k j ∨ (2 ^ k ≤ j ∧ plc t s k (j - 2 ^ k))) ↔ plc t s (k + 1) j := by
  have mo : plc t s k j → plc t s (k + 1) j := fun h i hi => by
    rcases h i hi with z | z
    · exact Or.inl ⟨by omega, z.2⟩
    · exact Or.inr z
  cases b : j.testBit k with
  | true =>
    obtain ⟨le, hb⟩ := sub1 k hk j hj b
    constructor
    · rintro (h | ⟨-, h⟩)
      · exact mo h
      · intro i hi
        by_cases e : i = k
        · exact Or.inl ⟨by omega, by rw [e]; exact ht⟩
        · rcases h i hi with z | z
          · exact Or.inl ⟨by omega, z.2⟩
          · right
            rw [hb i hi] at z
            simpa [e] using z
    · intro h
      refine Or.inr ⟨le, fun i hi => ?_⟩
      by_cases e : i = k
      · right
        rw [hb i hi, e, hs]; simp
      · rcases h i hi with z | z
        · exact Or.inl ⟨by omega, z.2⟩
        · right
          rw [hb i hi]
          simpa [e] using z
  | false =>
    constructor
    · rintro (h | ⟨le, h⟩)
      · exact mo h
      · exfalso
        rcases h k hk with z | z
        · omega
        · rw [sub0 k hk j hj b le, hs] at z; cases z
    · intro h
      left
      intro i hi
      by_cases e : i = k
      · right; rw [e, b, hs]
      · rcases h i hi with z | z
        · exact Or.inl ⟨by omega, z.2⟩
        · exact Or.inr z
theorem plc_same {t s k j : Nat} (ht : t.testBit k = false) : plc t s k j ↔ plc t s (k + 1) j := by
  constructor
  · intro h i hi
    rcases h i hi with z | z
    · exact Or.inl ⟨by omega, z.2⟩
    · exact Or.inr z
  · intro h i hi
    rcases h i hi with z | z
    · by_cases e : i = k
      · rw [e, ht] at z; exact absurd z.2 (by decide)
      · exact Or.inl ⟨by omega, z.2⟩
    · exact Or.inr z
theorem c_places {x3 : Int64} {x1' : Int32} {t s : Nat} {post : Int64 → Prop} (h1 : x1' = nI t) (ht : t < 64) (hs : s < 64) (hst : ∀ i, i < 6 → t.testBit i = true → s.testBit i = false) (h3 : x3 = (1 : Int64) <<< ((nI s).toInt64 &&& 63)) (h : ∀ y : Int64, (∀ j, j < 64 → (lb y j = true ↔ plc t s 6 j)) → post y) : lpE2 (w_X4_hasBothValues_L28 x1' post) x3 (0 : Int32) := by
  refine lpE2_inv (I := fun y23 y24 => ∃ k, k ≤ 6 ∧ y24 = nI k ∧ ∀ j, j < 64 → (lb y23 j = true ↔ plc t s k j)) (μ := fun _ y24 => 6 - y24.toNatClampNeg) ?_ _ 0 ⟨0, by omega, rfl, fun j hj => ?_⟩
  rotate_left
  · rw [h3, show (1 : Int64) = lN 1 from rfl, wb_shl 1 hs, Nat.one_mul, lb_lN hj, Nat.testBit_two_pow, decide_eq_true_iff]
    constructor
    · rintro rfl i _; exact Or.inr rfl
    · intro q
      exact (low_eq j hj s hs (fun i hi => by
        rcases q i hi with z | z
        · exact absurd z.1 (Nat.not_lt_zero i)
        · exact z)).symm
  rintro rec y23 y24 ⟨k, hk, rfl, hp⟩ hrec
  unfold w_X4_hasBothValues_L28
  refine br_le 6 k rfl rfl (by omega) (by omega) (fun q => ?_) (fun q => ?_)
  · have e : k = 6 := by omega
    subst e
    exact h _ hp
  have dec : 6 - (nI k + 1).toNatClampNeg < 6 - (nI k).toNatClampNeg := by rw [nI_1, cl_nI (by omega), cl_nI (by omega)]; omega
  rw [h1, b_getN (by omega)]
  cases tk : t.testBit k with
  | true =>
    refine br_1 rfl (nm_of (nm_of (hrec _ _ ⟨k + 1, by omega, nI_1 k, fun j hj => ?_⟩ dec)))
    rw [pw2 k q, lb_or, lb_shl _ (pw2_lt k q) hj, ← plc_step q hj tk (hst k q tk), Bool.or_eq_true, Bool.and_eq_true, decide_eq_true_iff, hp j hj, hp (j - 2 ^ k) (Nat.lt_of_le_of_lt (Nat.sub_le _ _) hj)]
  | false =>
    refine br_0 (by decide) (nm_of (hrec _ _ ⟨k + 1, by omega, nI_1 k, fun j hj => ?_⟩ dec))
    rw [hp j hj]
    exact plc_same tk
/-- as v, but for some bits -/
def cub (N : Ne) (v vr u : Nat → Bool) : Prop := ∀ c, c < nn N → 4 < nk N c → vr c = false → u c = v c
theorem c_hasBoth {σ : St} {N : Ne} {v vr : Nat → Bool} {a b d : Int32} {r : Nat} {post : Int32 → Prop} (hN : CN σ N) (hW : WN N) (ha : a = nI r) (hr : r < nn N) (hb : PM N b v) (hd : PM N d vr) (h1 : (∃ u, cub N v vr u ∧ EV N u r = true) → (∃ u, cub N v vr u ∧ EV N u r = false) → post 1) (h0 : ¬ ((∃ u, cub N v vr u ∧ EV N u r = true) ∧ (∃ u, cub N v vr u ∧ EV N u r = false)) → post 0) : w_X4_hasBothValues σ a b d post := by
  have h24 := hW.1
  have h10 := nb10 hW
  have htab := hN.2.2.2.2.2.2.2.2.2.2.2 r hr
  have hb2 := hb.2
  have hd2 := hd.2
  obtain ⟨q, hq, rfl, hqb⟩ := PM_nI hW hb
  obtain ⟨t, ht, rfl, htb⟩ := PM_nI hW hd
  unfold w_X4_hasBothValues
  have e1 : nI t &&& (63 : Int32) = nI (t % 64) := pk_andN (by omega) 6 (by decide)
  have e2 : nI t >>> ((6 : Int32) &&& 31) = nI (t / 64) := pk_shrN (by omega) _ 6 (by decide)
  have e3 : nI q &&& (63 : Int32) = nI (q % 64) := pk_andN (by omega) 6 (by decide)
  have e4 : nI q >>> ((6 : Int32) &&& 31) = nI (q / 64) := pk_shrN (by omega) _ 6 (by decide)
  have tlo : ∀ i, i < 6 → (t % 64).testBit i = t.testBit i := fun i hi => by rw [show (64 : Nat) = 2 ^ 6 from rfl, Nat.testBit_mod_two_pow]; simp [hi]
  have qlo : ∀ i, i < 6 → (q % 64).testBit i = q.testBit i := fun i hi => by rw [show (64 : Nat) = 2 ^ 6 from rfl, Nat.testBit_mod_two_pow]; simp [hi]
  have thi : ∀ i, (t / 64).testBit i = t.testBit (i + 6) := fun i => by rw [show (64 : Nat) = 2 ^ 6 from rfl, Nat.testBit_div_two_pow]
  have qhi : ∀ i, (q / 64).testBit i = q.testBit (i + 6) := fun i => by rw [show (64 : Nat) = 2 ^ 6 from rfl, Nat.testBit_div_two_pow]
  refine nm_as (nI (t % 64)) e1 (nm_as (nI (t / 64)) e2 (nm_of (jn_at ?_)))
  have sl := adn_le (q % 64) (t % 64)
  refine c_places (t := t % 64) (s := adn (q % 64) (t % 64)) rfl (Nat.mod_lt _ (by decide)) (by have := Nat.mod_lt q (show 0 < 64 by decide); omega) (fun i hi z => by rw [adn_bit, z]; simp) (by rw [e3, adn_I]) (fun y5 h5 => ?_)
  have x6e : a * (16 : Int32) + ((nI q >>> ((6 : Int32) &&& 31)) &&& (nI (t / 64) ^^^ (-1 : Int32))) = nI (16 * r + adn (q / 64) (t / 64)) := by
    rw [ha, e4, adn_I, show (16 : Int32) = nI 16 from rfl, pk_mul, nI_add, Nat.mul_comm]
  refine nm_as _ x6e (jn_at ?_)
  have Q16 : q / 64 < 16 := by omega
  have H16 : t / 64 < 16 := by omega
  -- one word of the cube, seen as a number of all bits
  have word : ∀ pt j, pt < 16 → adn pt (t / 64) = 0 → j < 64 → ∃ w, w < 1024 ∧ lb (σ.2 17 (16 * r + adn (q / 64) (t / 64) + pt)) j = EV N (upk N w) r ∧ w % 64 = j ∧ (lb y5 j = true → cub N v vr (upk N w)) := by
    intro pt j hpt hsub hj
    obtain ⟨hl, hbits⟩ := hi_in _ Q16 _ H16 pt hpt hsub
    refine ⟨64 * (adn (q / 64) (t / 64) + pt) + j, by omega, ?_, by omega, fun hl5 c hc g hz => ?_⟩
    · rw [← htab _ (by omega), show (64 * (adn (q / 64) (t / 64) + pt) + j) / 64 = adn (q / 64) (t / 64) + pt by omega, show (64 * (adn (q / 64) (t / 64) + pt) + j) % 64 = j by omega, Nat.add_assoc]
    · have l : fb_ct (isB N) c < nb N := ix_lt g hc
      show (decide (c < nn N) && isB N c && _) = v c
      rw [decide_eq_true hc, isB_t g, Bool.true_and, Bool.true_and, tb_hi hj, ← hqb c hc g]
      have tz := htb c hc g
      rw [hz] at tz
      by_cases z : fb_ct (isB N) c < 6
      · rw [if_pos z]
        rcases (h5 j hj).mp hl5 _ z with u | u
        · rw [tlo _ z, tz] at u; exact absurd u.2 (by decide)
        · rw [u, adn_bit, tlo _ z, tz, qlo _ z]; simp
      · rw [if_neg z, hbits _ (by omega), thi, qhi, show fb_ct (isB N) c - 6 + 6 = fb_ct (isB N) c by omega, tz]; rfl
  -- each way to choose is some place of some word
  have back : ∀ u, cub N v vr u → ∃ pt j, pt < t / 64 + 1 ∧ adn pt (t / 64) = 0 ∧ j < 64 ∧ lb y5 j = true ∧ lb (σ.2 17 (16 * r + adn (q / 64) (t / 64) + pt)) j = EV N u r := by
    intro u hu
    obtain ⟨w, hw, hwb, hwz⟩ : ∃ w, w < 1024 ∧ (∀ c, c < nn N → 4 < nk N c → w.testBit (fb_ct (isB N) c) = u c) ∧ ∀ i, t.testBit i = false → w.testBit i = q.testBit i := by
      let p : Nat → Bool := fun i => @decide (∃ c, c < nn N ∧ 4 < nk N c ∧ fb_ct (isB N) c = i ∧ u c = true) (Classical.propDecidable _)
      have hp : ∀ c, c < nn N → 4 < nk N c → p (fb_ct (isB N) c) = u c := by
        intro c hc g
        cases z : u c with
        | true => exact @decide_eq_true _ (Classical.propDecidable _) ⟨c, hc, g, rfl, z⟩
        | false =>
          refine @decide_eq_false _ (Classical.propDecidable _) ?_
          rintro ⟨d, hd, gd, e, ud⟩
          rw [ix_inj gd g e, z] at ud; cases ud
      have hpz : ∀ i, nb N ≤ i → p i = false := by
        intro i hi
        refine @decide_eq_false _ (Classical.propDecidable _) ?_
        rintro ⟨d, hd, gd, e, ud⟩
        have : fb_ct (isB N) d < nb N := ix_lt gd hd
        omega
      refine ⟨ofb p 10, ofb_lt p 10, fun c hc g => ?_, fun i hi => ?_⟩
      · have l : fb_ct (isB N) c < nb N := ix_lt g hc
        rw [ofb_bit, decide_eq_true (by omega), Bool.true_and, hp c hc g]
      · rw [ofb_bit]
        rcases Nat.lt_or_ge i (nb N) with z | z
        · rw [decide_eq_true (by omega), Bool.true_and]
          obtain ⟨c, hc, hB, e⟩ := fb_ct_kth (p := isB N) (n := nn N) z
          have g : 4 < nk N c := by simpa [isB] using hB
          rw [← e, hp c hc g, hqb c hc g]
          rw [← e, htb c hc g] at hi
          exact hu c hc g hi
        · rw [hpz i z, Bool.and_false]
          rcases Nat.lt_or_ge i 32 with y | y
          · have := hb2 i z
            rw [bt_nI i y] at this
            exact this.symm
          · rw [Nat.testBit_lt_two_pow]
            have : 2 ^ 10 ≤ 2 ^ i := Nat.pow_le_pow_right (by decide) (by omega)
            omega
    have whi : ∀ i, (w / 64).testBit i = w.testBit (i + 6) := fun i => by rw [show (64 : Nat) = 2 ^ 6 from rfl, Nat.testBit_div_two_pow]
    have wlo : ∀ i, i < 6 → (w % 64).testBit i = w.testBit i := fun i hi => by rw [show (64 : Nat) = 2 ^ 6 from rfl, Nat.testBit_mod_two_pow]; simp [hi]
    obtain ⟨g1, g2, g3⟩ := hi_out _ Q16 _ H16 (w / 64) (by omega) (agr_of fun i => by
      rw [thi, whi, qhi]
      cases z : t.testBit (i + 6) with
      | true => rfl
      | false => rw [hwz _ z]; simp)
    refine ⟨w / 64 &&& t / 64, w % 64, by omega, g1, Nat.mod_lt _ (by decide), (h5 _ (Nat.mod_lt _ (by decide))).mpr (fun i hi => ?_), ?_⟩
    · cases z : t.testBit i with
      | true => exact Or.inl ⟨hi, by rw [tlo i hi]; exact z⟩
      | false =>
        right
        rw [adn_bit, tlo i hi, qlo i hi, wlo i hi, z, hwz i z]; simp
    · rw [Nat.add_assoc, g3, htab w hw]
      exact EV_cong hW (fun c hc g => by
        show (decide (c < nn N) && isB N c && w.testBit (fb_ct (isB N) c)) = u c
        rw [hwb c hc g, decide_eq_true hc, isB_t g]; rfl) r hr
  refine lpE3_inv (I := fun y12 y13 y14 => ∃ k, k ≤ t / 64 + 1 ∧ y14 = nI k ∧ (∀ j, j < 64 → (lb y12 j = true ↔ lb y5 j = true ∧ ∃ pt, pt < k ∧ adn pt (t / 64) = 0 ∧ lb (σ.2 17 (16 * r + adn (q / 64) (t / 64) + pt)) j = true)) ∧ (∀ j, j < 64 → (lb y13 j = true ↔ lb y5 j = true ∧ ∃ pt, pt < k ∧ adn pt (t / 64) = 0 ∧ lb (σ.2 17 (16 * r + adn (q / 64) (t / 64) + pt)) j = false))) (μ := fun _ _ y14 => t / 64 + 1 - y14.toNatClampNeg) ?_ 0 0 0 ⟨0, by omega, rfl, fun j hj => ?_, fun j hj => ?_⟩
  rotate_left
  · rw [z0_bit j hj]
    exact ⟨fun z => absurd z (by decide), fun ⟨_, pt, z, _⟩ => absurd z (Nat.not_lt_zero pt)⟩
  · rw [z0_bit j hj]
    exact ⟨fun z => absurd z (by decide), fun ⟨_, pt, z, _⟩ => absurd z (Nat.not_lt_zero pt)⟩
  rintro rec y12 y13 y14 ⟨k, hk, rfl, hp, hz⟩ hrec
  unfold w_X4_hasBothValues_L91
  refine br_lt (t / 64) k rfl rfl (by omega) (by omega) (fun g => ?_) (fun g => ?_)
  · have ek : k = t / 64 + 1 := by omega
    subst ek
    have i1 : ¬ y12 = 0 ↔ ∃ u, cub N v vr u ∧ EV N u r = true := by
      rw [lb_ne0]
      constructor
      · rintro ⟨j, hj, z⟩
        obtain ⟨l5, pt, l1, l2, l3⟩ := (hp j hj).mp z
        obtain ⟨w, hw, e, -, hc⟩ := word pt j (by omega) l2 hj
        exact ⟨_, hc l5, by rw [← e]; exact l3⟩
      · rintro ⟨u, hu, e⟩
        obtain ⟨pt, j, l1, l2, hj, l5, l3⟩ := back u hu
        exact ⟨j, hj, (hp j hj).mpr ⟨l5, pt, l1, l2, by rw [l3]; exact e⟩⟩
    have i0 : ¬ y13 = 0 ↔ ∃ u, cub N v vr u ∧ EV N u r = false := by
      rw [lb_ne0]
      constructor
      · rintro ⟨j, hj, z⟩
        obtain ⟨l5, pt, l1, l2, l3⟩ := (hz j hj).mp z
        obtain ⟨w, hw, e, -, hc⟩ := word pt j (by omega) l2 hj
        exact ⟨_, hc l5, by rw [← e]; exact l3⟩
      · rintro ⟨u, hu, e⟩
        obtain ⟨pt, j, l1, l2, hj, l5, l3⟩ := back u hu
        exact ⟨j, hj, (hz j hj).mpr ⟨l5, pt, l1, l2, by rw [l3]; exact e⟩⟩
    refine br_2 (fun z => h0 (fun n => ?_)) (fun z => ?_)
    · exact (i1.mpr n.1) ((lg_cmp_eq _ _).mp z)
    have z1 := i1.mp (fun e => z ((lg_cmp_eq _ _).mpr e))
    refine br_2 (fun z2 => h0 (fun n => ?_)) (fun z2 => h1 z1 (i0.mp (fun e => z2 ((lg_cmp_eq _ _).mpr e))))
    exact (i0.mpr n.2) ((lg_cmp_eq _ _).mp z2)
  have dec : t / 64 + 1 - (nI k + 1).toNatClampNeg < t / 64 + 1 - (nI k).toNatClampNeg := by rw [nI_1, cl_nI (by omega), cl_nI (by omega)]; omega
  rw [adn_I]
  have al := adn_le k (t / 64)
  refine br_eq (adn k (t / 64)) 0 rfl rfl (by omega) (by omega) (fun z => ?_) (fun z => ?_)
  · have hl := (hi_in _ Q16 _ H16 k (by omega) z).1
    refine rd_of (16 * r + adn (q / 64) (t / 64) + k) (by rw [nI_add]) (by omega) (by decide) ?_
    refine nm_of (nm_of (nm_of (hrec _ _ _ ⟨k + 1, by omega, nI_1 k, fun j hj => ?_, fun j hj => ?_⟩ dec)))
    · rw [lb_or, lb_and, Bool.or_eq_true, hp j hj, Bool.and_eq_true]
      constructor
      · rintro (⟨l5, pt, l1, l2, l3⟩ | ⟨l3, l5⟩)
        · exact ⟨l5, pt, by omega, l2, l3⟩
        · exact ⟨l5, k, by omega, z, l3⟩
      · rintro ⟨l5, pt, l1, l2, l3⟩
        rcases (show pt < k ∨ pt = k by omega) with y | y
        · exact Or.inl ⟨l5, pt, y, l2, l3⟩
        · exact Or.inr ⟨by rw [y] at l3; exact l3, l5⟩
    · rw [lb_or, lb_and, lb_not _ hj, Bool.or_eq_true, hz j hj, Bool.and_eq_true, Bool.not_eq_true']
      constructor
      · rintro (⟨l5, pt, l1, l2, l3⟩ | ⟨l3, l5⟩)
        · exact ⟨l5, pt, by omega, l2, l3⟩
        · exact ⟨l5, k, by omega, z, l3⟩
      · rintro ⟨l5, pt, l1, l2, l3⟩
        rcases (show pt < k ∨ pt = k by omega) with y | y
        · exact Or.inl ⟨l5, pt, y, l2, l3⟩
        · exact Or.inr ⟨by rw [y] at l3; exact l3, l5⟩
  · refine nm_of (hrec _ _ _ ⟨k + 1, by omega, nI_1 k, fun j hj => ?_, fun j hj => ?_⟩ dec)
    · rw [hp j hj]
      constructor
      · rintro ⟨l5, pt, l1, l2, l3⟩; exact ⟨l5, pt, by omega, l2, l3⟩
      · rintro ⟨l5, pt, l1, l2, l3⟩
        rcases (show pt < k ∨ pt = k by omega) with y | y
        · exact ⟨l5, pt, y, l2, l3⟩
        · rw [y] at l2; exact absurd l2 z
    · rw [hz j hj]
      constructor
      · rintro ⟨l5, pt, l1, l2, l3⟩; exact ⟨l5, pt, by omega, l2, l3⟩
      · rintro ⟨l5, pt, l1, l2, l3⟩
        rcases (show pt < k ∨ pt = k by omega) with y | y
        · exact ⟨l5, pt, y, l2, l3⟩
        · rw [y] at l2; exact absurd l2 z
