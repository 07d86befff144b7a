/-! THE CLASS: digits of ticks, bounds; the cell of a bit -/
theorem lb_ext {x y : Int64} (h : ∀ i, i < 64 → lb x i = lb y i) : x = y := Int64.toBitVec_inj.mp (BitVec.eq_of_getLsbD_eq (fun i hi => h i hi))
theorem lb_lN {n : Nat} {j : Nat} (hj : j < 64) : lb (lN n) j = n.testBit j := by
  unfold lb
  rw [lN_bv, BitVec.getLsbD_ofNat, decide_eq_true hj, Bool.true_and]
theorem tN_s (d : Nat → Nat) (n : Nat) : tN d (n + 1) = tN d n + d n * 16 ^ n := rfl
theorem tN_lt {d : Nat → Nat} : ∀ {n : Nat}, (∀ k, k < n → d k < 16) → tN d n < 16 ^ n
  | 0, _ => by show 0 < 1; decide
  | n + 1, h => by
    have a := tN_lt (d := d) (n := n) (fun k hk => h k (by omega))
    have b := h n (by omega)
    show tN d n + d n * 16 ^ n < 16 ^ (n + 1)
    have c : d n * 16 ^ n ≤ 15 * 16 ^ n := Nat.mul_le_mul_right _ (by omega)
    rw [Nat.pow_succ]
    omega
theorem tN_bit {d : Nat → Nat} : ∀ {n : Nat}, (∀ k, k < n → d k < 16) → ∀ k j, k < n → j < 4 → (tN d n).testBit (4 * k + j) = (d k).testBit j
  | 0, _, k, _, hk, _ => absurd hk (Nat.not_lt_zero k)
  | n + 1, h, k, j, hk, hj => by
    have a := tN_lt (d := d) (n := n) (fun k hk => h k (by omega))
    have e : tN d (n + 1) = 2 ^ (4 * n) * d n + tN d n := by
      show tN d n + d n * 16 ^ n = _
      rw [show (16 : Nat) = 2 ^ 4 from rfl, ← Nat.pow_mul, Nat.mul_comm, Nat.add_comm]
    have a2 : tN d n < 2 ^ (4 * n) := by rw [Nat.pow_mul]; exact a
    rw [e, Nat.testBit_two_pow_mul_add _ a2]
    rcases (show k < n ∨ k = n by omega) with q | q
    · rw [if_pos (by omega)]
      exact tN_bit (fun k hk => h k (by omega)) k j q hj
    · rw [q, if_neg (by omega), show 4 * n + j - 4 * n = j by omega]
theorem tN_cong {d e : Nat → Nat} : ∀ {n : Nat}, (∀ k, k < n → d k = e k) → tN d n = tN e n
  | 0, _ => rfl
  | n + 1, h => by
    show tN d n + d n * 16 ^ n = tN e n + e n * 16 ^ n
    rw [tN_cong (fun k hk => h k (by omega)), h n (by omega)]
theorem tN_inc (d : Nat → Nat) {p : Nat} : ∀ {n : Nat}, p < n → tN (fu d p (d p + 1)) n = tN d n + 16 ^ p
  | 0, h => absurd h (Nat.not_lt_zero p)
  | n + 1, h => by
    show tN (fu d p (d p + 1)) n + fu d p (d p + 1) n * 16 ^ n = tN d n + d n * 16 ^ n + 16 ^ p
    rcases (show p < n ∨ p = n by omega) with q | q
    · rw [tN_inc d q, fu_n _ _ (by omega)]; omega
    · subst q
      rw [tN_cong (e := d) (fun k hk => fu_n _ _ (by omega)), fu_s, Nat.add_mul]; omega
/-- all digits below 16, the highest 0 -/
def dig (d : Nat → Nat) : Prop := (∀ k, k < 16 → d k < 16) ∧ d 15 = 0
theorem dig_lb {d : Nat → Nat} (h : dig d) {k j : Nat} (hk : k < 16) (hj : j < 4) : lb (lN (tN d 16)) (4 * k + j) = (d k).testBit j := by
  rw [lb_lN (by omega), tN_bit h.1 k j hk hj]
theorem dig_lt0 {d : Nat → Nat} {n : Nat} (h : ∀ k, k < n + 1 → d k < 16) (hz : d n = 0) : tN d (n + 1) < 2 ^ (4 * n) := by
  rw [tN_s, hz, Nat.zero_mul, Nat.add_zero, Nat.pow_mul]
  exact tN_lt (fun k hk => h k (by omega))
theorem dig_lt {d : Nat → Nat} (h : dig d) : tN d 16 < 2 ^ 60 := dig_lt0 (n := 15) h.1 h.2
theorem dig_ne {d : Nat → Nat} (h : dig d) : lN (tN d 16) ≠ -1 := by
  intro e
  have a := dig_lt h
  have b : lb (lN (tN d 16)) 63 = lb (-1) 63 := by rw [e]
  rw [lb_lN (by omega), Nat.testBit_lt_two_pow (by omega)] at b
  exact absurd b (by decide)
theorem dig_inj {d e : Nat → Nat} (hd : dig d) (he : dig e) (h : lN (tN d 16) = lN (tN e 16)) : ∀ k, k < 16 → d k = e k := by
  intro k hk
  apply Nat.eq_of_testBit_eq
  intro j
  rcases Nat.lt_or_ge j 4 with q | q
  · rw [← dig_lb hd hk q, ← dig_lb he hk q, h]
  · have p4 : (16 : Nat) ≤ 2 ^ j := by
      have := Nat.pow_le_pow_right (show 0 < 2 by decide) q
      exact this
    have a := hd.1 k hk
    have b := he.1 k hk
    rw [Nat.testBit_lt_two_pow (by omega), Nat.testBit_lt_two_pow (by omega)]
theorem lb_sar (w : Int64) {s i : Nat} (hs : s + i < 64) (hi : i < 32) : bt ((w >>> ((nI s).toInt64 &&& 63)).toInt32) i = lb w (s + i) := by
  rw [wb_c s (by omega)]
  unfold bt lb
  show ((w >>> lN s).toBitVec.signExtend 32).getLsbD i = _
  rw [BitVec.getLsbD_signExtend, Int64.toBitVec_shiftRight]
  have e : ((lN s).toBitVec.smod 64).toNat = s := by
    rw [lN_bv, wb_sm s (by omega), BitVec.toNat_ofNat]
    exact Nat.mod_eq_of_lt (by omega)
  rw [BitVec.sshiftRight', e, BitVec.getLsbD_sshiftRight]
  simp [hi, show i < 64 by omega, show ¬ 64 ≤ i by omega, hs]
theorem b_15 (i : Nat) : bt 15 i = decide (i < 4) := by
  rcases Nat.lt_or_ge i 32 with h | h
  · exact (by decide +kernel : ∀ i, i < 32 → bt 15 i = decide (i < 4)) i h
  · rw [b_big h]; simp; omega
/-- one digit read -/
theorem dig_get {d : Nat → Nat} (h : dig d) {k : Nat} (hk : k < 16) : (lN (tN d 16) >>> ((nI (4 * k)).toInt64 &&& 63)).toInt32 &&& (15 : Int32) = nI (d k) := by
  apply b_ext
  intro i hi
  have := h.1 k hk
  rw [b_and, b_15, bt_nI i hi]
  rcases Nat.lt_or_ge i 4 with q | q
  · rw [lb_sar _ (by omega) hi, dig_lb h hk q]; simp [q]
  · have p4 : (16 : Nat) ≤ 2 ^ i := Nat.pow_le_pow_right (show 0 < 2 by decide) q
    rw [Nat.testBit_lt_two_pow (by omega)]; simp; omega
theorem c_ticksOf {d : Nat → Nat} {a b : Int32} {c e : Nat} {post : Int32 → Prop} (h : dig d) (ha : a = nI c) (hb : b = nI e) (hc : c < 4) (he : e < 4) (hp : post (nI (d (4 * c + e)))) : w_X0_ticksOf (lN (tN d 16)) a b post := by
  unfold w_X0_ticksOf
  have e1 : (4 : Int32) * (a * (4 : Int32) + b) = nI (4 * (4 * c + e)) := by rw [ha, hb, ix4', show (4 : Int32) = nI 4 from rfl, pk_mul]
  rw [e1, dig_get h (by omega)]
  exact hp
/-- a digit is set to 0 -/
theorem dig_clr {d : Nat → Nat} (h : dig d) {p : Nat} (hp : p < 16) : lN (tN d 16) &&& (((15 : Int64) <<< ((nI (4 * p)).toInt64 &&& 63)) ^^^ (-1 : Int64)) = lN (tN (fu d p 0) 16) := by
  have h' : ∀ k, k < 16 → fu d p 0 k < 16 := fun k hk => by
    by_cases e : k = p
    · rw [e, fu_s]; decide
    · rw [fu_n _ _ e]; exact h.1 k hk
  apply lb_ext
  intro i hi
  obtain ⟨k, j, hj, rfl⟩ : ∃ k j, j < 4 ∧ i = 4 * k + j := ⟨i / 4, i % 4, Nat.mod_lt _ (by decide), by omega⟩
  have hk : k < 16 := by omega
  rw [lb_and, lb_not _ hi, dig_lb h hk hj, lb_lN hi, tN_bit h' k j hk hj]
  rw [show (15 : Int64) = lN 15 from rfl, wb_shl 15 (by omega), lb_lN hi]
  have e15 : (15 * 2 ^ (4 * p)).testBit (4 * k + j) = decide (k = p) := by
    have := Nat.testBit_two_pow_mul_add 15 (i := 4 * p) (b := 0) (Nat.two_pow_pos _) (4 * k + j)
    rw [Nat.add_zero, Nat.mul_comm] at this
    rw [this]
    by_cases q : k = p
    · rw [q, if_neg (by omega), show 4 * p + j - 4 * p = j by omega]
      simp
      exact (by decide : ∀ j, j < 4 → (15 : Nat).testBit j = true) j hj
    · rcases Nat.lt_or_ge k p with z | z
      · rw [if_pos (by omega)]; simp [q]
      · rw [if_neg (by omega), Nat.testBit_lt_two_pow]
        · simp [q]
        · have : 2 ^ 4 ≤ 2 ^ (4 * k + j - 4 * p) := Nat.pow_le_pow_right (show 0 < 2 by decide) (by omega)
          omega
  rw [e15]
  by_cases q : k = p
  · rw [q, fu_s]; simp
  · rw [fu_n _ _ q]; simp [q]
theorem dig_add (d : Nat → Nat) {p : Nat} (hp : p < 16) : lN (tN d 16) + ((1 : Int64) <<< ((nI (4 * p)).toInt64 &&& 63)) = lN (tN (fu d p (d p + 1)) 16) := by
  rw [show (1 : Int64) = lN 1 from rfl, wb_shl 1 (by omega), Nat.one_mul, lN_add, tN_inc d hp, Nat.pow_mul]
/-- bounds that can be: 9 at most, none of a clock to itself -/
def WB (bd : Nat → Nat) : Prop := (∀ k, k < 16 → bd k ≤ 9) ∧ ∀ c, c < 4 → bd (5 * c) = 0
/-- ticks that keep the bounds -/
def TB (bd tk : Nat → Nat) : Prop := ∀ k, k < 16 → bd k = 0 ∨ tk k ≤ bd k
theorem dig_dg {bd tk : Nat → Nat} (hB : WB bd) (hT : TB bd tk) : dig (dg bd tk) := by
  refine ⟨fun k hk => ?_, ?_⟩
  · show (if bd k = 0 then 0 else tk k) < 16
    have := hB.1 k hk
    rcases hT k hk with q | q
    · rw [if_pos q]; decide
    · split <;> omega
  · show (if bd 15 = 0 then 0 else tk 15) = 0
    rw [if_pos (hB.2 3 (by decide))]
theorem thn_TB {bd tk : Nat → Nat} {st : Nat} (h : canB bd st tk) : TB bd (thn st tk) := h
set_option maxHeartbeats 1000000 in
theorem c_bbehind {σ : St} {bd tk : Nat → Nat} {a : Int32} {st : Nat} {post : Int64 → Prop} (hB : CB σ bd) (hWB : WB bd) (hT : TB bd tk) (ha : a = nI st) (h1 : canB bd st tk → post (lN (tN (dg bd (thn st tk)) 16))) (h0 : ¬ canB bd st tk → post (-1)) : w_X0_behind σ (lN (tN (dg bd tk) 16)) a post := by
  have hd := dig_dg hWB hT
  unfold w_X0_behind
  refine jn_at ?_
  refine lpE2_inv (I := fun y3 y4 => ∃ k, k ≤ 16 ∧ y4 = nI k ∧ (∀ j, j < k → bd j = 0 ∨ thn st tk j ≤ bd j) ∧ ∃ d, dig d ∧ y3 = lN (tN d 16) ∧ ∀ j, j < 16 → d j = if j < k then dg bd (thn st tk) j else dg bd tk j) (μ := fun _ y4 => 16 - y4.toNatClampNeg) ?_ _ 0 ⟨0, by omega, rfl, fun j hj => absurd hj (Nat.not_lt_zero j), _, hd, rfl, fun j _ => by rw [if_neg (by omega)]⟩
  rintro rec y3 y4 ⟨k, hk, rfl, hall, d, hdd, rfl, hdk⟩ hrec
  unfold w_X0_behind_L6
  refine br_le 16 k rfl rfl (by omega) (by omega) (fun q => ?_) (fun q => ?_)
  · have e : tN d 16 = tN (dg bd (thn st tk)) 16 := tN_cong (fun j hj => by rw [hdk j hj, if_pos (by omega)])
    rw [e]
    exact h1 (fun j hj => hall j (by omega))
  have b9 := hWB.1 k q
  have next : ∀ y : Int64, (bd k = 0 ∨ thn st tk k ≤ bd k) → y = lN (tN (fu d k (dg bd (thn st tk) k)) 16) → rec y (nI k + 1) := by
    intro y hb hy
    refine hrec y _ ⟨k + 1, by omega, nI_1 k, fun j hj => ?_, fu d k (dg bd (thn st tk) k), ⟨fun j hj => ?_, ?_⟩, hy, fun j hj => ?_⟩ (by rw [nI_1, cl_nI (by omega), cl_nI (by omega)]; omega)
    · rcases (show j < k ∨ j = k by omega) with z | z
      · exact hall j z
      · rw [z]; exact hb
    · by_cases z : j = k
      · rw [z, fu_s]
        show (if bd k = 0 then 0 else thn st tk k) < 16
        rcases hb with u | u
        · rw [if_pos u]; decide
        · split <;> omega
      · rw [fu_n _ _ z]; exact hdd.1 j hj
    · by_cases z : 15 = k
      · rw [← z, fu_s]
        show (if bd 15 = 0 then 0 else thn st tk 15) = 0
        rw [if_pos (hWB.2 3 (by decide))]
      · rw [fu_n _ _ z]; exact hdd.2
    · by_cases z : j = k
      · rw [z, fu_s, if_pos (by omega)]
      · rw [fu_n _ _ z, hdk j hj]
        by_cases u : j < k
        · rw [if_pos u, if_pos (by omega)]
        · rw [if_neg u, if_neg (by omega)]
  have same : d k = dg bd (thn st tk) k → lN (tN d 16) = lN (tN (fu d k (dg bd (thn st tk) k)) 16) := fun e => by
    congr 1
    refine tN_cong (fun j hj => ?_)
    by_cases z : j = k
    · rw [z, fu_s]; exact e
    · rw [fu_n _ _ z]
  have dk : d k = dg bd tk k := by rw [hdk k q, if_neg (by omega)]
  refine rd_of k rfl q (by decide) ?_
  rw [hB k q]
  refine br_eq (bd k) 0 rfl rfl (by omega) (by omega) (fun e => nm_of (next _ (Or.inl e) (same ?_))) (fun e => ?_)
  · rw [dk]
    show (if bd k = 0 then 0 else tk k) = if bd k = 0 then 0 else thn st tk k
    rw [if_pos e, if_pos e]
  have e4 : (4 : Int32) = nI 4 := rfl
  refine nm_as (nI (k / 4)) (by rw [e4, pk_div (by omega) (by omega) (by omega)]) (nm_as (nI (k % 4)) (by rw [e4, pk_rem (by omega) (by omega) (by omega)]) ?_)
  have em : (4 : Int32) * nI k = nI (4 * k) := by rw [e4, pk_mul]
  have dg1 : dg bd tk k = tk k := if_neg e
  have dg2 : dg bd (thn st tk) k = thn st tk k := if_neg e
  rw [ha, b_getN (by omega), b_getN (by omega)]
  cases t1 : st.testBit (k % 4) with
  | true =>
    refine br_1 rfl (nm_of (nm_of (next _ (Or.inr ?_) ?_)))
    · show (if st.testBit (k % 4) then 0 else _) ≤ _; rw [if_pos t1]; omega
    · rw [em, dig_clr hdd q]
      have : dg bd (thn st tk) k = 0 := by rw [dg2]; show (if st.testBit (k % 4) then 0 else _) = 0; rw [if_pos t1]
      rw [this]
  | false =>
    refine br_0 (by decide) ?_
    cases t2 : st.testBit (k / 4) with
    | true =>
      have et : thn st tk k = tk k + 1 := by show (if st.testBit (k % 4) then 0 else if st.testBit (k / 4) then tk k + 1 else tk k) = _; rw [t1, t2]; rfl
      have k16 : 4 * (k / 4) + k % 4 = k := by omega
      refine br_1 rfl (c_ticksOf hd rfl rfl (by omega) (by omega) ?_)
      refine rd_of k rfl q (by decide) ?_
      rw [hB k q, k16, dg1]
      have tl : tk k ≤ bd k := by
        rcases hT k q with z | z
        · exact absurd z e
        · exact z
      refine br_lt (tk k) (bd k) rfl rfl (by omega) (by omega) (fun z => nm_of (nm_of (next _ (Or.inr (by rw [et]; omega)) ?_))) (fun z => h0 (fun c => ?_))
      · rw [em, dig_add d q, dk, dg1, dg2, et]
      · rcases c k q with u | u
        · exact e u
        · rw [et] at u; omega
    | false =>
      have et : thn st tk k = tk k := by show (if st.testBit (k % 4) then 0 else if st.testBit (k / 4) then tk k + 1 else tk k) = _; rw [t1, t2]; rfl
      refine br_0 (by decide) (nm_of (next _ ?_ (same ?_)))
      · rw [et]; exact hT k q
      · rw [dk, dg1, dg2, et]
/-- the cell of a bit -/
theorem cofb {σ : St} {N : Ne} (hN : CN σ N) {i : Nat} (hi : i < nb N) : ∃ c, c < nn N ∧ 4 < nk N c ∧ fb_ct (isB N) c = i ∧ σ.1 14 i = nI c := by
  obtain ⟨c, hc, hb, e⟩ := fb_ct_kth (p := isB N) (n := nn N) hi
  have h4 : 4 < nk N c := by simpa [isB] using hb
  refine ⟨c, hc, h4, e, ?_⟩
  rw [← e]
  exact (hN.2.2.2.2.2.2.2.1 c hc h4).2
/-- of the packed numbers: how many -/
theorem PM_ct {N : Ne} {m : Int32} {p : Nat → Bool} (h : PM N m p) (hp : ∀ c, p c = true → 4 < nk N c) : ∀ c, c ≤ nn N → fb_ct (bt m) (fb_ct (isB N) c) = fb_ct p c
  | 0, _ => rfl
  | c + 1, hc => by
    have ih := PM_ct h hp c (by omega)
    rw [fb_ct_succ (isB N), fb_ct_succ p]
    by_cases q : 4 < nk N c
    · rw [isB_t q, if_pos rfl, fb_ct_succ, ih, h.1 c (by omega) q]
    · have e1 : isB N c = false := by simp [isB]; omega
      have e2 : p c = false := by
        cases z : p c with
        | false => rfl
        | true => exact absurd (hp c z) q
      rw [e1, e2]; exact ih
theorem bitCount10 : ∀ q, q < 1024 → w_J6_bitCount_0f7a4 (nI q) (fun r => r = nI (fb_ct q.testBit 10)) := by
  have key : ∀ q, q < 1024 → (let a1 := nI q; let x1 := (a1 - ((((a1).toUInt32 >>> (((1 : Int32) : Int32).toUInt32 &&& Int32.toUInt32 31)).toInt32) &&& (1431655765 : Int32))); let x2 := ((x1 &&& (858993459 : Int32)) + ((((x1).toUInt32 >>> (((2 : Int32) : Int32).toUInt32 &&& Int32.toUInt32 31)).toInt32) &&& (858993459 : Int32))); let x3 := ((x2 + (((x2).toUInt32 >>> (((4 : Int32) : Int32).toUInt32 &&& Int32.toUInt32 31)).toInt32)) &&& (252645135 : Int32)); let x4 := (x3 + (((x3).toUInt32 >>> (((8 : Int32) : Int32).toUInt32 &&& Int32.toUInt32 31)).toInt32)); let x5 := (x4 + (((x4).toUInt32 >>> (((16 : Int32) : Int32).toUInt32 &&& Int32.toUInt32 31)).toInt32)); (x5 &&& (63 : Int32)) = nI (fb_ct q.testBit 10)) := by decide +kernel
  intro q hq
  unfold w_J6_bitCount_0f7a4
  exact nm_of (nm_of (nm_of (nm_of (nm_of (key q hq)))))
theorem c_bitCount {a : Int32} {q : Nat} {post : Int32 → Prop} (ha : a = nI q) (hq : q < 1024) (h : post (nI (fb_ct q.testBit 10))) : w_J6_bitCount_0f7a4 a post := by
  subst ha
  have k := bitCount10 q hq
  unfold w_J6_bitCount_0f7a4 at k ⊢
  refine nm_of (nm_of (nm_of (nm_of (nm_of ?_))))
  have k2 := k _ rfl _ rfl _ rfl _ rfl _ rfl
  rw [k2]
  exact h
/-- how many of the bits -/
theorem c_count {N : Ne} (hW : WN N) {a : Int32} {p : Nat → Bool} {post : Int32 → Prop} (h : PM N a p) (hp : ∀ c, p c = true → 4 < nk N c) (hh : post (nI (fb_ct p (nn N)))) : w_J6_bitCount_0f7a4 a post := by
  obtain ⟨q, hq, e, -⟩ := PM_nI hW h
  refine c_bitCount e hq ?_
  have h10 : nb N ≤ 10 := hW.2.2.2.2.2.2.2
  have e1 : fb_ct q.testBit 10 = fb_ct p (nn N) := by
    rw [← PM_ct h hp (nn N) (Nat.le_refl _)]
    show _ = fb_ct (bt a) (nb N)
    rw [fb_ct_cong (q := bt a) (fun k hk => by rw [e, bt_nI k (by omega)])]
    exact fb_ct_ext h10 h.2
  rw [e1]
  exact hh
