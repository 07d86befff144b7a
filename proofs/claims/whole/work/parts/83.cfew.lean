/-! THE FEWEST (the class) -/
theorem lb_ushr (w : Int64) {k i : Nat} (hk : k < 64) (hi : i < 32) : bt (((w.toUInt64 >>> ((nI k).toInt64.toUInt64 &&& Int64.toUInt64 63)).toInt64 : Int64).toInt32) i = lb w (k + i) := by
  rw [wb_cu k hk]
  unfold bt lb
  show ((w.toUInt64 >>> UInt64.ofNat k).toBitVec.signExtend 32).getLsbD i = _
  rw [BitVec.getLsbD_signExtend, UInt64.toBitVec_shiftRight]
  have e : ((UInt64.ofNat k).toBitVec % 64).toNat = k := by
    show ((BitVec.ofNat 64 k) % 64#64).toNat = k
    rw [BitVec.toNat_umod, BitVec.toNat_ofNat, Nat.mod_eq_of_lt (show k < 2 ^ 64 by omega)]
    exact Nat.mod_eq_of_lt hk
  simp only [hi, decide_true, Bool.true_and, show i < 64 by omega, if_true]
  show (w.toBitVec >>> ((UInt64.ofNat k).toBitVec % 64).toNat).getLsbD i = _
  rw [e, BitVec.getLsbD_ushiftRight]
theorem dec_to {x : Int32} {to tu : Nat} (hto : to < 250) (htu : tu ≤ 10) (h : ∀ b, b < 12 → bt x b = (16 * to + tu).testBit b) : (x >>> ((4 : Int32) &&& 31)) &&& (255 : Int32) = nI to := by
  apply b_ext
  intro i hi
  rw [b_and, b_255, show (x >>> ((4 : Int32) &&& 31)) = (x >>> (nI 4 &&& 31)) from rfl, b_sshr 4 (by omega) x hi, bt_nI i hi]
  by_cases z : i < 8
  · rw [if_pos (by omega), h _ (by omega), cod_bit (by omega), if_neg (by omega), show 4 + i - 4 = i by omega, decide_eq_true z, Bool.and_true]
  · have : 2 ^ 8 ≤ 2 ^ i := Nat.pow_le_pow_right (by decide) (by omega)
    rw [decide_eq_false z, Bool.and_false, Nat.testBit_lt_two_pow (by omega)]
theorem dec_tu {x : Int32} {to tu : Nat} (htu : tu ≤ 10) (h : ∀ b, b < 12 → bt x b = (16 * to + tu).testBit b) : x &&& (15 : Int32) = nI tu := by
  apply b_ext
  intro i hi
  rw [b_and, b_15, bt_nI i hi]
  by_cases z : i < 4
  · rw [h _ (by omega), cod_bit (by omega), if_pos z, decide_eq_true z, Bool.and_true]
  · have : 2 ^ 4 ≤ 2 ^ i := Nat.pow_le_pow_right (by decide) (by omega)
    rw [decide_eq_false z, Bool.and_false, Nat.testBit_lt_two_pow (by omega)]
/-- each moment belongs to a state -/
theorem WL_part {w : Wk} {k : Nat} (h : WL w k) {m : Nat} : ∀ n, n ≤ k → m < opn w n → ∃ j, j < n ∧ opn w j ≤ m ∧ m < wk_c w j
  | 0, _, hm => absurd hm (by show ¬ m < 0; omega)
  | n + 1, hn, hm => by
    have e : opn w (n + 1) = wk_c w n := by unfold opn; rw [if_neg (by omega)]; rfl
    rw [e] at hm
    rcases Nat.lt_or_ge m (opn w n) with q | q
    · obtain ⟨j, j1, j2, j3⟩ := WL_part h n (by omega) q
      exact ⟨j, by omega, j2, j3⟩
    · exact ⟨n, by omega, q, hm⟩
theorem WL_from {w : Wk} {k : Nat} (h : WL w k) {m j : Nat} (hm : m < wk_m w) (hj : j < k) (e : (wk_w w m).1 = j) : opn w j ≤ m ∧ m < wk_c w j := by
  rcases Nat.lt_or_ge m (opn w k) with q | q
  · obtain ⟨i, i1, i2, i3⟩ := WL_part h k (Nat.le_refl _) q
    have := h.2.2.1 i i1 m i2 i3
    have : i = j := by omega
    subst this
    exact ⟨i2, i3⟩
  · have := h.2.2.2 m q hm
    omega
def CCo (σ : St) (w : Wk) (C : Nat → Nat) : Prop := ∀ s, s < wk_s w → σ.1 35 s = nI (C s)
def CSe (σ : St) (w : Wk) (S : Nat → Bool) : Prop := ∀ s, s < wk_s w → σ.1 36 s = bI (S s)
theorem c_nearest {σ : St} {w : Wk} {C : Nat → Nat} {S : Nat → Bool} {a : Int32} {post : Int32 → Prop} (hC : CCo σ w C) (hS : CSe σ w S) (hc : ∀ s, s < wk_s w → C s ≤ 1048576) (h250 : wk_s w ≤ 250) (hl : wk_l w ≤ wk_s w) (ha : a = nI (wk_l w)) (h1 : (∀ t, t < wk_l w → S t = false → 1048576 ≤ C t) → post (-1)) (h2 : ∀ k, k < wk_l w → S k = false → C k < 1048576 → (∀ t, t < wk_l w → S t = false → C k ≤ C t) → post (nI k)) : w_X10_nearest σ a post := by
  unfold w_X10_nearest
  refine jn_at ?_
  refine lpE3_inv (I := fun y3 y4 y5 => ∃ k, k ≤ wk_l w ∧ y5 = nI k ∧ ((y3 = -1 ∧ y4 = nI 1048576 ∧ ∀ t, t < k → S t = false → 1048576 ≤ C t) ∨ (∃ b, b < k ∧ y3 = nI b ∧ y4 = nI (C b) ∧ S b = false ∧ C b < 1048576 ∧ ∀ t, t < k → S t = false → C b ≤ C t))) (μ := fun _ _ y5 => wk_l w - y5.toNatClampNeg) ?_ _ _ 0 ⟨0, Nat.zero_le _, rfl, Or.inl ⟨rfl, rfl, fun t ht => absurd ht (Nat.not_lt_zero t)⟩⟩
  rintro rec y3 y4 y5 ⟨k, hk, rfl, hI⟩ hrec
  unfold w_X10_nearest_L8
  refine br_le (wk_l w) k ha rfl (by omega) (by omega) (fun q => ?_) (fun q => ?_)
  · rcases hI with ⟨rfl, -, h3⟩ | ⟨b, b1, rfl, -, b3, b4, b5⟩
    · exact h1 (fun t ht => h3 t (by omega))
    · exact h2 b (by omega) b3 b4 (fun t ht => b5 t (by omega))
  have dec : wk_l w - (nI k + 1).toNatClampNeg < wk_l w - (nI k).toNatClampNeg := by rw [nI_1, cl_nI (by omega), cl_nI (by omega)]; omega
  have ck := hc k (by omega)
  refine rd_of k rfl (by omega) (by decide) ?_
  rw [hS k (by omega)]
  have skip : (S k = false → (∀ x, y4 = nI x → x < 2 ^ 31 → x ≤ C k)) → rec y3 y4 (nI k + 1) := fun hsk => hrec _ _ _ ⟨k + 1, q, nI_1 k, by
    rcases hI with ⟨e3, e4, h3⟩ | ⟨b, b1, e3, e4, b3, b4, b5⟩
    · refine Or.inl ⟨e3, e4, fun t ht st => ?_⟩
      rcases (show t < k ∨ t = k by omega) with y | y
      · exact h3 t y st
      · rw [y] at st ⊢; exact hsk st _ e4 (by decide)
    · refine Or.inr ⟨b, by omega, e3, e4, b3, b4, fun t ht st => ?_⟩
      rcases (show t < k ∨ t = k by omega) with y | y
      · exact b5 t y st
      · rw [y] at st ⊢; exact hsk st _ e4 (by omega)⟩ dec
  cases t : S k with
  | true => exact br_0 (by decide) (nm_of (skip (fun z => by rw [t] at z; cases z)))
  | false =>
    refine br_1 rfl (rd_of k rfl (by omega) (by decide) ?_)
    rw [hC k (by omega)]
    obtain ⟨x, ex, hx⟩ : ∃ x, y4 = nI x ∧ x < 2 ^ 31 := by
      rcases hI with ⟨-, e4, -⟩ | ⟨b, -, -, e4, -, b4, -⟩
      · exact ⟨_, e4, by decide⟩
      · exact ⟨_, e4, by omega⟩
    refine br_le x (C k) ex rfl hx (by omega) (fun z => nm_of (skip (fun _ x' ex' hx' => by
      have := (nI_eq hx hx').mp (by rw [← ex, ex'])
      omega))) (fun z => rd_of k rfl (by omega) (by decide) ?_)
    rw [hC k (by omega)]
    refine nm_of (hrec _ _ _ ⟨k + 1, q, nI_1 k, Or.inr ⟨k, by omega, rfl, rfl, t, ?_, fun u hu su => ?_⟩⟩ dec)
    · rcases hI with ⟨-, e4, -⟩ | ⟨b, -, -, e4, -, b4, -⟩
      · have e : x = 1048576 := (nI_eq hx (by decide)).mp (by rw [← ex, e4])
        omega
      · have e : x = C b := (nI_eq hx (by omega)).mp (by rw [← ex, e4])
        omega
    · rcases (show u < k ∨ u = k by omega) with y | y
      · rcases hI with ⟨-, e4, h3⟩ | ⟨b, -, -, e4, -, b4, b5⟩
        · have := h3 u y su; omega
        · have e : x = C b := (nI_eq hx (by omega)).mp (by rw [← ex, e4])
          have := b5 u y su; omega
      · rw [y]; exact Nat.le_refl _
/-- the ways go on from a state -/
theorem c_goOn {σ : St} {N : Ne} {bd : Nat → Nat} {fs : Nat → Bool} {w : Wk} {C : Nat → Nat} {a : Int32} {k : Nat} {post : St → Prop} (hWW : WW N bd fs w) (hL : WL w (wk_l w)) (hl : wk_l w ≤ wk_s w) (hM : CWm σ w) (hc : CWl σ w) (hC : CCo σ w C) (hok : okC w 1048576 C) (ha : a = nI k) (hk : k < wk_l w) (hkC : C k < 1048576)
    (h : ∀ σ' C', fr [35] [] σ σ' → CCo σ' w C' → okC w 1048576 C' → (∀ s, s < wk_s w → C' s ≤ C s ∧ (C' s = C s ∨ C k ≤ C' s) ∧ (C s ≤ C k → C' s = C s)) → (∀ m, m < wk_m w → (wk_w w m).1 = k → C' (wk_w w m).2.1 ≤ C k + (wk_w w m).2.2) → post σ') : w_X10_goOnFrom σ a post := by
  have h250 := hWW.1.2.1
  have m20 := hWW.1.2.2
  have cl := hL.2.1 k hk
  unfold w_X10_goOnFrom
  refine jn_1 (fun y2 => y2 = nI (opn w k)) (fun J hJ => ?_) ?_
  · refine br_eq k 0 ha rfl (by omega) (by omega) (fun e => hJ _ (by unfold opn; rw [if_pos e]; rfl)) (fun e => ?_)
    refine rd_of (k - 1) (by rw [ha, show (1 : Int32) = nI 1 from rfl, pk_sub (by omega)]) (by omega) (by decide) (hJ _ ?_)
    rw [hc (k - 1) (by omega)]
    unfold opn
    rw [if_neg e]
  rintro y2 rfl
  refine jn_at ?_
  refine lpE2_inv (I := fun y5 σ6 => ∃ m, opn w k ≤ m ∧ m ≤ wk_c w k ∧ y5 = nI m ∧ fr [35] [] σ σ6 ∧ ∃ C', CCo σ6 w C' ∧ okC w 1048576 C' ∧ (∀ s, s < wk_s w → C' s ≤ C s ∧ (C' s = C s ∨ C k ≤ C' s) ∧ (C s ≤ C k → C' s = C s)) ∧ ∀ i, opn w k ≤ i → i < m → C' (wk_w w i).2.1 ≤ C k + (wk_w w i).2.2) (μ := fun y5 _ => wk_c w k - y5.toNatClampNeg) ?_ _ σ ⟨opn w k, Nat.le_refl _, cl.1, rfl, fr_rf, C, hC, hok, fun s hs => ⟨Nat.le_refl _, Or.inl rfl, fun _ => rfl⟩, fun i h1 h2 => by omega⟩
  rintro rec y5 σ6 ⟨m, hm1, hm2, rfl, f6, C', M', K', B', E'⟩ hrec
  have M6 := CWm_ag (fr_ag f6 (by decide)) hM
  have c6 := CWl_ag (fr_ag f6 (by decide)) hc
  have ekk := (B' k (by omega)).2.2 (Nat.le_refl _)
  unfold w_X10_goOnFrom_L19
  refine rd_of k ha (by omega) (by decide) ?_
  rw [c6 k hk]
  refine br_le (wk_c w k) m rfl rfl (by omega) (by omega) (fun q => ?_) (fun q => ?_)
  · refine h σ6 C' f6 M' K' B' (fun i hi ei => ?_)
    obtain ⟨r1, r2⟩ := WL_from hL hi hk ei
    exact E' i r1 (by omega)
  have mm : m < wk_m w := by omega
  obtain ⟨t1, t2, t3⟩ := hWW.2.2.2.2.2.1 m mm
  have d1 : nI m / (5 : Int32) = nI (m / 5) := by rw [show (5 : Int32) = nI 5 from rfl, pk_div (by omega) (by omega) (by omega)]
  have d2 : (nI m - nI m / (5 : Int32) * (5 : Int32)) * (12 : Int32) = nI (12 * (m % 5)) := by rw [show (5 : Int32) = nI 5 from rfl, pk_rem (by omega) (by omega) (by omega), show (12 : Int32) = nI 12 from rfl, pk_mul, Nat.mul_comm]
  rw [d2, d1]
  refine rd_of (m / 5) rfl (by omega) (by decide) ?_
  have bits : ∀ b, b < 12 → bt ((((σ6.2 33 (m / 5)).toUInt64 >>> ((nI (12 * (m % 5))).toInt64.toUInt64 &&& Int64.toUInt64 63)).toInt64 : Int64).toInt32) b = (16 * (wk_w w m).2.1 + (wk_w w m).2.2).testBit b := fun b hb => by
    rw [lb_ushr _ (by omega) (by omega), M6 m (by omega) b hb, if_pos mm]; rfl
  refine nm_of ?_
  refine nm_as (nI (wk_w w m).2.1) (dec_to (by omega) t3 bits) ?_
  rw [dec_tu t3 bits]
  refine rd_of k ha (by omega) (by decide) ?_
  rw [M' k (by omega), ekk, nI_add]
  refine nm_of (rd_of (wk_w w m).2.1 rfl (by omega) (by decide) ?_)
  rw [M' _ t2]
  have kt := (K'.2 _ t2).1
  have dec : wk_c w k - (nI m + 1).toNatClampNeg < wk_c w k - (nI m).toNatClampNeg := by rw [nI_1, cl_nI (by omega), cl_nI (by omega)]; omega
  refine br_le (C' (wk_w w m).2.1) (C k + (wk_w w m).2.2) rfl rfl (by omega) (by omega) (fun y => nm_of (hrec _ _ ⟨m + 1, by omega, q, nI_1 m, f6, C', M', K', B', fun i h1 h2 => ?_⟩ dec)) (fun y => ?_)
  · rcases (show i < m ∨ i = m by omega) with z | z
    · exact E' i h1 z
    · rw [z]; exact y
  have fm : (wk_w w m).1 = k := hL.2.2.1 k hk m hm1 q
  have bt2 := B' _ t2
  refine wr_at (wk_w w m).2.1 rfl (by omega) (by decide) (fun σ18 t18 => nm_of (hrec _ _ ⟨m + 1, by omega, q, nI_1 m, by rw [t18]; exact fr_stepI f6 _ _ _ (by simp), fu C' (wk_w w m).2.1 (C k + (wk_w w m).2.2), fun s hs => ?_, ⟨?_, fun s hs => ?_⟩, fun s hs => ?_, fun i h1 h2 => ?_⟩ dec))
  · rw [t18, upI_get]
    by_cases u : s = (wk_w w m).2.1
    · rw [if_pos ⟨rfl, u⟩, u, fu_s]
    · rw [if_neg (fun x => u x.2), fu_n _ _ u]; exact M' s hs
  · by_cases u : (wk_w w m).2.1 = 0
    · rw [u, K'.1] at y; omega
    · rw [fu_n _ _ (fun x => u x.symm)]; exact K'.1
  · by_cases u : s = (wk_w w m).2.1
    · rw [u, fu_s]
      refine ⟨by omega, fun _ => ?_⟩
      obtain ⟨n, hn⟩ := (K'.2 k (by omega)).2 (by omega)
      rw [ekk, ← fm] at hn
      have := wy_s mm (by omega) hn rfl
      rw [fm] at this
      exact ⟨n + 1, this⟩
    · rw [fu_n _ _ u]; exact K'.2 s hs
  · by_cases u : s = (wk_w w m).2.1
    · rw [u, fu_s]
      refine ⟨by omega, Or.inr (by omega), fun z => ?_⟩
      have := bt2.2.2 z
      omega
    · rw [fu_n _ _ u]; exact B' s hs
  · by_cases u : (wk_w w i).2.1 = (wk_w w m).2.1
    · rw [u, fu_s]
      rcases (show i < m ∨ i = m by omega) with z | z
      · have := E' i h1 z
        rw [u] at this
        omega
      · rw [z]; exact Nat.le_refl _
    · rw [fu_n _ _ u]
      rcases (show i < m ∨ i = m by omega) with z | z
      · exact E' i h1 z
      · exact absurd (by rw [z]) u
set_option maxHeartbeats 1000000 in
theorem c_measure {σ : St} {N : Ne} {bd : Nat → Nat} {fs : Nat → Bool} {w : Wk} {a b : Int32} {post : St → Prop} (hWW : WW N bd fs w) (hL : WL w (wk_l w)) (hl : wk_l w ≤ wk_s w) (hM : CWm σ w) (hc : CWl σ w) (ha : a = nI (wk_s w)) (hb : b = nI (wk_l w))
    (h : ∀ σ' C, fr [35, 36] [] σ σ' → CCo σ' w C → okC w 1048576 C → clos w C → post σ') : w_X10_measure σ a b post := by
  have h250 := hWW.1.2.1
  have s0 := hWW.1.1
  unfold w_X10_measure
  refine jn_1 (fun σ2 => fr [35, 36] [] σ σ2 ∧ CCo σ2 w (fun t => if t = 0 then 0 else 1048576) ∧ CSe σ2 w (fun _ => false)) (fun J hJ => ?_) ?_
  · refine lpE2_inv (I := fun y16 σ17 => ∃ s, s ≤ wk_s w ∧ y16 = nI s ∧ fr [35, 36] [] σ σ17 ∧ (∀ t, t < s → σ17.1 35 t = nI (if t = 0 then 0 else 1048576)) ∧ ∀ t, t < s → σ17.1 36 t = 0) (μ := fun y16 _ => wk_s w - y16.toNatClampNeg) ?_ 0 σ ⟨0, Nat.zero_le _, rfl, fr_rf, fun t ht => absurd ht (Nat.not_lt_zero t), fun t ht => absurd ht (Nat.not_lt_zero t)⟩
    rintro rec y16 σ17 ⟨s, hs, rfl, f17, n17, z17⟩ hrec
    unfold w_X10_measure_L2
    refine br_le (wk_s w) s ha rfl (by omega) (by omega) (fun q => hJ _ ⟨f17, fun t ht => n17 t (by omega), fun t ht => z17 t (by omega)⟩) (fun q => ?_)
    refine jn_1 (fun y21 => y21 = nI (if s = 0 then 0 else 1048576)) (fun J2 hJ2 => ?_) ?_
    · exact br_eq s 0 rfl rfl (by omega) (by omega) (fun e => hJ2 _ (by rw [if_pos e]; rfl)) (fun e => hJ2 _ (by rw [if_neg e]; rfl))
    rintro y21 rfl
    refine wr_at s rfl (by omega) (by decide) (fun σ22 t22 => wr_at s rfl (by omega) (by decide) (fun σ23 t23 => nm_of (hrec _ _ ⟨s + 1, q, nI_1 s, by rw [t23, t22]; exact fr_stepI (fr_stepI f17 _ _ _ (by simp)) _ _ _ (by simp), fun t ht => ?_, fun t ht => ?_⟩ (by rw [nI_1, cl_nI (by omega), cl_nI (by omega)]; omega))))
    · rw [t23, upI_get, if_neg (by omega), t22, upI_get]
      by_cases y : t = s
      · rw [if_pos ⟨rfl, y⟩, y]
      · rw [if_neg (fun u => y u.2)]; exact n17 t (by omega)
    · rw [t23, upI_get]
      by_cases y : t = s
      · rw [if_pos ⟨rfl, y⟩, nar_bool]; rfl
      · rw [if_neg (fun u => y u.2), t22, upI_get, if_neg (by omega)]; exact z17 t (by omega)
  rintro σ2 ⟨f2, C2, S2⟩
  refine jn_at ?_
  refine lpE2_inv (I := fun y5 σ6 => ∃ r, r ≤ wk_l w ∧ y5 = nI r ∧ fr [35, 36] [] σ σ6 ∧ ∃ C S, CCo σ6 w C ∧ CSe σ6 w S ∧ okC w 1048576 C ∧ fb_ct S (wk_l w) = r ∧ (∀ s, s < wk_s w → S s = true → s < wk_l w ∧ ∀ t, t < wk_l w → S t = false → C s ≤ C t) ∧ ∀ m, m < wk_m w → S (wk_w w m).1 = true → C (wk_w w m).2.1 ≤ C (wk_w w m).1 + (wk_w w m).2.2) (μ := fun y5 _ => wk_l w - y5.toNatClampNeg) ?_ 0 σ2 ⟨0, Nat.zero_le _, rfl, f2, _, _, C2, S2, ⟨rfl, fun t ht => ?_⟩, ct_none (fun _ _ => rfl), fun s _ z => Bool.noConfusion z, fun m _ z => Bool.noConfusion z⟩
  rotate_left
  · show (if t = 0 then 0 else 1048576) ≤ 1048576 ∧ ((if t = 0 then 0 else 1048576) < 1048576 → ∃ n, wy w n t (if t = 0 then 0 else 1048576))
    by_cases z : t = 0
    · rw [if_pos z]; exact ⟨by omega, fun _ => ⟨0, z, rfl⟩⟩
    · rw [if_neg z]; exact ⟨Nat.le_refl _, fun y => absurd y (Nat.lt_irrefl _)⟩
  clear S2 C2 f2 σ2
  rintro rec y5 σ6 ⟨r, hr, rfl, f6, C, S, hC, hS, hok, hct, i2, i3⟩ hrec
  have M6 := CWm_ag (fr_ag f6 (by decide)) hM
  have c6 := CWl_ag (fr_ag f6 (by decide)) hc
  have done : (∀ t, t < wk_l w → S t = false → 1048576 ≤ C t) → post σ6 := fun hd => h σ6 C f6 hC hok ⟨hok.1, fun m hm hf => by
    cases t : S (wk_w w m).1 with
    | true => exact i3 m hm t
    | false =>
      have := hd _ hf t
      have := (hok.2 _ (hWW.2.2.2.2.2.1 m hm).2.1).1
      omega⟩
  unfold w_X10_measure_L38
  refine br_le (wk_l w) r hb rfl (by omega) (by omega) (fun q => done (fun t ht st => ?_)) (fun q => ?_)
  · have e : fb_ct S (wk_l w) = wk_l w := by omega
    rw [fb_ct_all.mp e t ht] at st; cases st
  refine c_nearest hC hS (fun s hs => (hok.2 s hs).1) h250 hl hb (fun z => br_0 (by decide) (done z)) (fun k hk sk ck mk => ?_)
  refine br_1 (nI_pos' (by omega)) (wr_at k rfl (by omega) (by decide) (fun σ12 t12 => ?_))
  have f12 : fr [36] [] σ6 σ12 := by rw [t12]; exact fr_I σ6 _ _ _ (by simp)
  have a12 : ag [35] [] σ6 σ12 := fr_ag f12 (by decide)
  refine c_goOn (C := C) hWW hL hl (CWm_ag (fr_ag f12 (by decide)) M6) (CWl_ag (fr_ag f12 (by decide)) c6) (fun s hs => by rw [(a12 35 s (by simp)).1]; exact hC s hs) hok rfl hk ck (fun σ14 C' f14 hC' hok' B' E' => nm_of (hrec _ _ ⟨r + 1, q, nI_1 r, fr_tr f6 (fr_tr (fr_mo f12 (by decide)) (fr_mo f14 (by decide))), C', fu S k true, hC', fun s hs => ?_, hok', ?_, fun s hs ss => ?_, fun m hm sm => ?_⟩ (by rw [nI_1, cl_nI (by omega), cl_nI (by omega)]; omega)))
  · have a14 : ag [36] [] σ12 σ14 := fr_ag f14 (by decide)
    rw [(a14 36 s (by simp)).1, t12, upI_get]
    by_cases y : s = k
    · rw [if_pos ⟨rfl, y⟩, y, fu_s, nar_bool]; rfl
    · rw [if_neg (fun u => y u.2), fu_n _ _ y]; exact hS s hs
  · exact ct_add hk sk (fun j => rfl) hct
  · -- what is settled is no longer than the rest
    have sC : C s ≤ C k := by
      by_cases y : s = k
      · rw [y]; exact Nat.le_refl _
      · rw [fu_n _ _ y] at ss
        exact (i2 s hs ss).2 k hk sk
    refine ⟨?_, fun t ht st => ?_⟩
    · by_cases y : s = k
      · rw [y]; exact hk
      · rw [fu_n _ _ y] at ss; exact (i2 s hs ss).1
    · have tk : t ≠ k := fun e => by rw [e, fu_s] at st; cases st
      rw [fu_n _ _ tk] at st
      rw [(B' s hs).2.2 sC]
      rcases (B' t (by omega)).2.1 with e | e
      · have := mk t ht st; omega
      · omega
  · have fl := (hWW.2.2.2.2.2.1 m hm)
    by_cases y : (wk_w w m).1 = k
    · have := E' m hm y
      rw [y, (B' k (by omega)).2.2 (Nat.le_refl _)]
      exact this
    · rw [fu_n _ _ y] at sm
      have e1 := i3 m hm sm
      have e2 := (B' _ fl.2.1).1
      have e3 := (B' _ fl.1).2.2 ((i2 _ fl.1 sm).2 k hk sk)
      omega
def CMz (σ : St) (w : Wk) : Prop := σ.1 7 4 = 0 ∨ (σ.1 7 4 = 1 ∧ ∀ k, k < wk_s w → ∃ c, σ.1 35 k = nI c ∧ c ≤ 1048576 ∧ isL w k (if c < 1048576 then nI c else -2))
theorem CMz_ag {σ σ' : St} {w : Wk} (h : ag [35] [(7, 4)] σ σ') (hM : CMz σ w) : CMz σ' w := by
  unfold CMz
  rw [(h 7 4 (by simp)).1]
  refine hM.imp id (fun ⟨h1, h2⟩ => ⟨h1, fun k hk => ?_⟩)
  rw [(h 35 k (by simp)).1]; exact h2 k hk
theorem c_fewest {σ : St} {N : Ne} {bd : Nat → Nat} {fs : Nat → Bool} {w : Wk} {v : Bool} {a : Int32} {post : Int32 → St → Prop} (hX : CX σ N w v) (hv : 0 < wk_s w → v = true) (h250 : wk_s w ≤ 250) (hz : 0 < wk_s w → CMz σ w) (hWW : 0 < wk_s w → WW N bd fs w ∧ EX w ∧ WL w (wk_l w) ∧ wk_l w ≤ wk_s w) (h1 : ixI a (wk_s w) = none → post (-1) σ) (h2 : ∀ k u, a = nI k → k < wk_s w → isL w k u → ∀ σ', fr [35, 36] [(7, 4)] σ σ' → CMz σ' w → post u σ') : w_X11_fewest σ a post := by
  unfold w_X11_fewest
  refine c_hasState hX.2.1 h250 (fun g => br_1 rfl (h1 g)) (fun k ek hk => br_0 (by decide) ?_)
  obtain ⟨WWw, hE, hL, lw⟩ := hWW (by omega)
  have vt := hv (by omega)
  unfold w_X10_fewestTo
  have fin : ∀ σ2, fr [35, 36] [(7, 4)] σ σ2 → σ2.1 7 4 = 1 → (∀ k, k < wk_s w → ∃ c, σ2.1 35 k = nI c ∧ c ≤ 1048576 ∧ isL w k (if c < 1048576 then nI c else -2)) → rd (σ2.1 35) 250 a (fun v3 => br ((1048576 : Int32) ≤ v3) (post (-2 : Int32) σ2) (rd (σ2.1 35) 250 a (fun v5 => post v5 σ2))) := by
    intro σ2 f2 e2 hh
    obtain ⟨c, c1, c2, c3⟩ := hh k hk
    refine rd_of k ek (by omega) (by decide) ?_
    rw [c1]
    refine br_le 1048576 c rfl rfl (by omega) (by omega) (fun z => h2 k _ ek hk (by rw [if_neg (by omega)] at c3; exact c3) σ2 f2 (Or.inr ⟨e2, hh⟩)) (fun z => rd_of k ek (by omega) (by decide) ?_)
    rw [c1]
    exact h2 k _ ek hk (by rw [if_pos z] at c3; exact c3) σ2 f2 (Or.inr ⟨e2, hh⟩)
  refine jn_at ?_
  rcases hz (by omega) with e | ⟨e, hh⟩
  · refine br_1 e (c_measure WWw hL lw (hX.2.2.2.2.2 vt).2.1 hX.2.2.2.2.1 hX.2.1.1 hX.1.1 (fun σ8 C f8 hC hok hcl => nm_of (fin _ (fr_stepI (fr_mo f8 (by decide)) _ _ _ (by simp)) (by rw [upI_get, if_pos ⟨rfl, rfl⟩]) (fun j hj => ⟨C j, ?_, (hok.2 j hj).1, isL_of WWw hE (by decide) hcl (hok.2 j hj).2⟩))))
    rw [upI_get, if_neg (by omega)]; exact hC j hj
  · exact br_0 (by rw [e]; decide) (fin σ fr_rf e hh)
