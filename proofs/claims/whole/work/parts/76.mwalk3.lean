/-! THE WALK (the reference): sets of clocks, all states -/
theorem sh1 {n : Nat} (hn : n < 31) : (1 : Int32) <<< (nI n &&& 31) = nI (2 ^ n) := by
  have l : 1 * 2 ^ n < 2 ^ 32 := by rw [Nat.one_mul]; exact Nat.pow_lt_pow_right (by decide) (by omega)
  rw [show (1 : Int32) = nI 1 from rfl, pk_shlN _ n (s_l n (by omega)) l, Nat.one_mul]
theorem c_mvS {N : Ne} {bd : Nat → Nat} {P : Pr} {k : Nat} {s : SI} {set inp ots : Nat} {w : Wk} : wk_c (mvS N bd P k s set inp ots w) = wk_c w := by
  unfold mvS
  split
  · rfl
  · split
    · rfl
    · split <;> rfl
theorem c_wO {N : Ne} {bd : Nat → Nat} {P : Pr} {k : Nat} {s : SI} {set inp : Nat} {w : Wk} : ∀ n, wk_c (wO N bd P k s set inp w n) = wk_c w
  | 0 => rfl
  | n + 1 => by
    rw [wO]
    split
    · exact c_wO n
    · rw [c_mvS]; exact c_wO n
theorem c_wI {N : Ne} {bd : Nat → Nat} {P : Pr} {k : Nat} {s : SI} {set : Nat} {w : Wk} : ∀ n, wk_c (wI N bd P k s set w n) = wk_c w
  | 0 => rfl
  | n + 1 => by
    rw [wI]
    split
    · exact c_wI n
    · rw [c_wO]; exact c_wI n
theorem c_wS {N : Ne} {bd : Nat → Nat} {P : Pr} {k : Nat} {s : SI} {w : Wk} : ∀ n, wk_c (wS N bd P k s w n) = wk_c w
  | 0 => rfl
  | n + 1 => by
    rw [wS]
    split
    · exact c_wS n
    · rw [c_wI]; exact c_wS n
theorem at_op {N : Ne} {bd : Nat → Nat} {P : Pr} {fs : Nat → Bool} : ∀ k, wk_x (wK N bd P fs k) = false → k ≤ wk_s (wK N bd P fs k) → opn (wK N bd P fs k) k = wk_m (wK N bd P fs k)
  | 0, _, _ => rfl
  | k + 1, hx, hk => by
    rw [wK] at hx hk ⊢
    by_cases q : wk_x (wK N bd P fs k) = true ∨ wk_s (wK N bd P fs k) ≤ k
    · rw [if_pos q] at hx hk
      rcases q with z | z
      · rw [z] at hx; cases hx
      · omega
    · rw [if_neg q] at hx ⊢
      by_cases q2 : wk_x (wS N bd P k (wk_i (wK N bd P fs k) k) (wK N bd P fs k) 16) = true
      · rw [if_pos q2, q2] at hx; cases hx
      · rw [if_neg q2]
        unfold opn
        rw [if_neg (by omega)]
        exact fu_s _ _ _
abbrev frX (σ σ' : St) : Prop := fr [16, 17, 18, 19, 20, 21, 22, 23, 24, 25, 26, 27, 28, 29] [(0, 21), (0, 22), (0, 23), (0, 24), (0, 26), (0, 27), (0, 29), (0, 38)] σ σ'
set_option maxHeartbeats 1000000 in
theorem m_trySet {σ : St} {N : Ne} {bd : Nat → Nat} {fs : Nat → Bool} {P : Pr} {w : Wk} {k set : Nat} {s : SI} {a1 a2 : Int32} {post : St → Prop} (hN : NM σ N) (hW : WN N) (hB : MB σ bd) (hbd : ∀ k, k < 16 → bd k ≤ 9) (hP : MP σ P.1 P.2.1 P.2.2.1 P.2.2.2) (hWP : WP N P) (ha : at_k N bd fs k s w) (h1 : a1 = nI k) (h2 : a2 = nI set) (h0 : 0 < set) (h16 : set < 16) (hM : MW σ N w)
    (hy : canB bd set (sq_t s) → ∀ σ', frX σ σ' → MW σ' N (wI N bd P k s set w (2 ^ inI N set (nn N))) → post σ') (hn : ¬ canB bd set (sq_t s) → ∀ σ', frX σ σ' → MW σ' N w → post σ') : w_X12_trySet σ a1 a2 post := by
  have h250 := ha.1.1.2.1
  have hk := ha.2.2.1
  have es := ha.2.2.2
  have hsok : sok N bd s := by rw [← es]; exact (ha.1.2.1 k hk).1
  have e17 := (hM.2.1.2 k hk).2.1
  rw [es] at e17
  have tl : ∀ i, i < 16 → thn set (sq_t s) i < 2 ^ 31 := fun i hi => by
    have := sok_lt hbd hsok hi
    unfold thn
    split
    · omega
    · split <;> omega
  unfold w_X12_trySet
  refine jn_2 (fun y2 σ3 => fr [29] [] σ σ3 ∧ (∀ i, i < 16 → σ3.1 29 i = nI (thn set (sq_t s) i)) ∧ ∃ b : Bool, y2 = bI b ∧ (b = true ↔ canB bd set (sq_t s))) (fun J hJ => ?_) ?_
  · refine lpE3_inv (I := fun y32 y33 σ34 => ∃ i, i ≤ 16 ∧ y33 = nI i ∧ fr [29] [] σ σ34 ∧ (∀ j, j < i → σ34.1 29 j = nI (thn set (sq_t s) j)) ∧ ∃ b : Bool, y32 = bI b ∧ (b = true ↔ ∀ j, j < i → bd j = 0 ∨ thn set (sq_t s) j ≤ bd j)) (μ := fun _ y33 _ => 16 - y33.toNatClampNeg) ?_ 1 0 σ ⟨0, by omega, rfl, fr_rf, fun j hj => absurd hj (Nat.not_lt_zero j), true, rfl, ⟨fun _ j hj => absurd hj (Nat.not_lt_zero j), fun _ => rfl⟩⟩
    rintro rec y32 y33 σ34 ⟨i, hi, rfl, f34, n34, b, rfl, hb⟩ hrec
    unfold w_X12_trySet_L5
    refine br_le 16 i rfl rfl (by omega) (by omega) (fun q => hJ _ _ ⟨f34, fun j hj => n34 j (by omega), b, rfl, ?_⟩) (fun q => ?_)
    · rw [hb]
      exact ⟨fun z j hj => z j (by omega), fun z j hj => z j (by omega)⟩
    have dec : 16 - (nI i + 1).toNatClampNeg < 16 - (nI i).toNatClampNeg := by rw [nI_1, cl_nI (by omega), cl_nI (by omega)]; omega
    have a34 : ag [8, 17] [] σ σ34 := fr_ag f34 (by decide)
    refine rd_of (16 * k + i) (by rw [h1, show (16 : Int32) = nI 16 from rfl, pk_mul, nI_add]) (by omega) (by decide) ?_
    rw [(a34 17 _ (by simp)).1, e17 i q]
    refine w_then_of rfl h2 rfl q ?_
    refine wr_at i rfl q (by decide) (fun σ40 t40 => ?_)
    have f40 : fr [29] [] σ σ40 := by rw [t40]; exact fr_stepI f34 _ _ _ (by simp)
    have n40 : ∀ j, j < i + 1 → σ40.1 29 j = nI (thn set (sq_t s) j) := fun j hj => by
      rw [t40, upI_get]
      by_cases z : j = i
      · rw [if_pos ⟨rfl, z⟩, z]; rfl
      · rw [if_neg (fun y => z y.2)]; exact n34 j (by omega)
    cases b with
    | false =>
      refine br_1 rfl (nm_of (hrec _ _ _ ⟨i + 1, q, nI_1 i, f40, n40, false, rfl, ⟨fun z => Bool.noConfusion z, fun z => ?_⟩⟩ dec))
      exact hb.mpr (fun j hj => z j (by omega))
    | true =>
      refine br_0 (by decide) (rd_of i rfl q (by decide) ?_)
      rw [n40 i (by omega)]
      refine w_fits_of (MB_ag (fr_ag f40 (by decide)) hB) hbd rfl q rfl (tl i q) (fun z => br_0 (by decide) (nm_of (hrec _ _ _ ⟨i + 1, q, nI_1 i, f40, n40, true, rfl, ⟨fun _ j hj => ?_, fun _ => rfl⟩⟩ dec))) (fun z => br_1 rfl (nm_of (hrec _ _ _ ⟨i + 1, q, nI_1 i, f40, n40, false, rfl, ⟨fun y => Bool.noConfusion y, fun y => absurd (y i (by omega)) z⟩⟩ dec)))
      rcases (show j < i ∨ j = i by omega) with y | y
      · exact hb.mp rfl j y
      · rw [y]; exact z
  rintro y2 σ3 ⟨f3, n3, b, rfl, hb⟩
  have hN3 := NM_ag (fr_ag f3 (by decide)) hN
  have hM3 := MW_ag (fr_ag f3 (by decide)) hM
  refine m_inputsOf hN3 hW h2 ?_
  have i10 := in_10 hW set
  have i1024 := in_1024 hW set
  rw [sh1 (by omega)]
  refine nm_of (jn_at ?_)
  cases b with
  | false =>
    have nc : ¬ canB bd set (sq_t s) := fun z => by have := hb.mpr z; cases this
    refine lpE2_inv (I := fun y9 σ10 => y9 = 0 ∧ σ10 = σ3) (μ := fun _ _ => 0) ?_ 0 σ3 ⟨rfl, rfl⟩
    rintro rec y9 σ10 ⟨rfl, rfl⟩ hrec
    unfold w_X12_trySet_L82
    exact br_2 (fun _ => hn nc _ (fr_mo f3 (by decide)) hM3) (fun _ => br_1 rfl (hn nc _ (fr_mo f3 (by decide)) hM3))
  | true =>
  have can := hb.mp rfl
  refine lpE2_inv (I := fun y9 σ10 => ∃ n, n ≤ 2 ^ inI N set (nn N) ∧ y9 = nI n ∧ frX σ σ10 ∧ (∀ i, i < 16 → σ10.1 29 i = nI (thn set (sq_t s) i)) ∧ MW σ10 N (wI N bd P k s set w n)) (μ := fun y9 _ => 2 ^ inI N set (nn N) - y9.toNatClampNeg) ?_ 0 σ3 ⟨0, Nat.zero_le _, rfl, fr_mo f3 (by decide), n3, hM3⟩
  clear hM3 hN3 n3 f3 σ3
  rintro rec y9 σ10 ⟨n, hnl, rfl, f10, n10, M10⟩ hrec
  have at10 := at_I (P := P) hW ha h0 h16 can n (by omega)
  unfold w_X12_trySet_L82
  refine br_le (2 ^ inI N set (nn N)) n rfl rfl (by omega) (by omega) (fun q => hy can _ f10 (by rw [show 2 ^ inI N set (nn N) = n by omega]; exact M10)) (fun q => ?_)
  refine br_0 (by decide) ?_
  rw [M10.1.2.1]
  cases tx : wk_x (wI N bd P k s set w n) with
  | true =>
    refine br_0 (by decide) (hy can _ f10 ?_)
    have e := wI_end tx (2 ^ inI N set (nn N) - n)
    rw [show n + (2 ^ inI N set (nn N) - n) = 2 ^ inI N set (nn N) by omega] at e
    rw [e]; exact M10
  | false =>
  refine br_1 rfl ?_
  have hk10 := at10.2.2.1
  have es10 := at10.2.2.2
  have u1 := (M10.2.1.2 k hk10).1
  rw [es10] at u1
  refine rd_of k h1 (by omega) (by decide) ?_
  have hN10 := NM_ag (fr_ag f10 (by decide)) hN
  refine m_look hN10 hW u1 h2 rfl (fun σ17 f17 K17 => ?_)
  refine m_countE hW K17 ?_
  have e10 := ne_le N hW (sq_v s) set n
  have e1024 := ne_1024 hW (sq_v s) set n
  rw [sh1 (by omega)]
  refine nm_of (jn_1 (fun σ22 => frX σ σ22 ∧ (∀ i, i < 16 → σ22.1 29 i = nI (thn set (sq_t s) i)) ∧ MW σ22 N (wO N bd P k s set n (wI N bd P k s set w n) (2 ^ ne_ N (sq_v s) set n))) (fun J hJ => ?_) ?_)
  · have f17' : frX σ σ17 := fr_tr f10 (fr_mo f17 (by decide))
    have a17 : ag [29] [] σ10 σ17 := fr_ag f17 (by decide)
    refine lpE2_inv (I := fun y24 σ25 => ∃ m, m ≤ 2 ^ ne_ N (sq_v s) set n ∧ y24 = nI m ∧ frX σ σ25 ∧ (∀ i, i < 16 → σ25.1 29 i = nI (thn set (sq_t s) i)) ∧ MK σ25 N (sq_v s) set n ∧ MW σ25 N (wO N bd P k s set n (wI N bd P k s set w n) m)) (μ := fun y24 _ => 2 ^ ne_ N (sq_v s) set n - y24.toNatClampNeg) ?_ 0 σ17 ⟨0, Nat.zero_le _, rfl, f17', fun i hi => by rw [(a17 29 i (by simp)).1]; exact n10 i hi, K17, MW_ag (fr_ag f17 (by decide)) M10⟩
    rintro rec2 y24 σ25 ⟨m, hml, rfl, f25, n25, K25, M25⟩ hrec2
    have at25 := at_O (P := P) hW at10 h0 h16 (show n < 1024 by omega) can m (by omega)
    unfold w_X12_trySet_L128
    refine br_le (2 ^ ne_ N (sq_v s) set n) m rfl rfl (by omega) (by omega) (fun z => hJ _ ⟨f25, n25, by rw [show 2 ^ ne_ N (sq_v s) set n = m by omega]; exact M25⟩) (fun z => ?_)
    rw [M25.1.2.1]
    cases tx2 : wk_x (wO N bd P k s set n (wI N bd P k s set w n) m) with
    | true =>
      refine br_0 (by decide) (hJ _ ⟨f25, n25, ?_⟩)
      have e := wO_end tx2 (2 ^ ne_ N (sq_v s) set n - m)
      rw [show m + (2 ^ ne_ N (sq_v s) set n - m) = 2 ^ ne_ N (sq_v s) set n by omega] at e
      rw [e]; exact M25
    | false =>
      refine br_1 rfl (m_tryMove (fs := fs) (P := P) (NM_ag (fr_ag f25 (by decide)) hN) hW (MB_ag (fr_ag f25 (by decide)) hB) hbd (MP_ag (fr_ag f25 (by decide)) hP) hWP K25 n25 at25 h1 h2 rfl rfl h0 h16 (show n < 1024 by omega) (by omega) can M25 (fun σ30 f30 M30 => nm_of (hrec2 _ _ ⟨m + 1, z, nI_1 m, fr_tr f25 (fr_mo f30 (by decide)), fun i hi => ?_, MK_ag (fr_ag f30 (by decide)) K25, ?_⟩ ?_)))
      · have a30 : ag [29] [] σ25 σ30 := fr_ag f30 (by decide)
        rw [(a30 29 i (by simp)).1]; exact n25 i hi
      · rw [wO, if_neg (by rw [tx2]; decide)]; exact M30
      · rw [nI_1, cl_nI (by omega), cl_nI (by omega)]; omega
  rintro σ22 ⟨f22, n22, M22⟩
  refine nm_of (hrec _ _ ⟨n + 1, q, nI_1 n, f22, n22, ?_⟩ ?_)
  · rw [wI, if_neg (by rw [tx]; decide)]; exact M22
  · rw [nI_1, cl_nI (by omega), cl_nI (by omega)]; omega
theorem setin {r : Int32} {N : Ne} {set : Nat} (hs : set < 16) (hr : ∀ i, bt r i = cth N i) : nI set &&& (r ^^^ (-1 : Int32)) = 0 ↔ ∀ i, set.testBit i = true → cth N i = true := by
  constructor
  · intro h i hi
    have i32 : i < 32 := by
      rcases Nat.lt_or_ge i 32 with q | q
      · exact q
      · rw [Nat.testBit_lt_two_pow] at hi
        · cases hi
        · have : 2 ^ 4 ≤ 2 ^ i := Nat.pow_le_pow_right (by decide) (by omega)
          omega
    have e : bt (nI set &&& (r ^^^ (-1 : Int32))) i = false := by rw [h, b_0]
    rw [b_and, b_not _ i32, bt_nI i i32, hi, hr i, Bool.true_and] at e
    simpa using e
  · intro h
    apply b_ext
    intro i i32
    rw [b_and, b_not _ i32, bt_nI i i32, hr i, b_0]
    cases z : set.testBit i with
    | false => rfl
    | true => rw [h i z]; rfl
abbrev frY (σ σ' : St) : Prop := fr [16, 17, 18, 19, 20, 21, 22, 23, 24, 25, 26, 27, 28, 29] [(0, 0), (0, 21), (0, 22), (0, 23), (0, 24), (0, 25), (0, 26), (0, 27), (0, 28), (0, 29), (0, 38)] σ σ'
theorem MW_clo {σ : St} {N : Ne} {w : Wk} {k x : Nat} (hM : MW σ N w) (hx : opn w k = x) (hl : wk_l w = k) (hk : k < wk_s w) (h250 : wk_s w ≤ 250) {σ' : St} (h' : σ' = upI (upI σ 23 k (nI (wk_m w - x))) 0 28 (nI (k + 1))) : MW σ' N (clo w k) := by
  obtain ⟨⟨c1, c2, c3, c4, c5⟩, hs, hf, hm, hv⟩ := hM
  have f : fr [23] [(0, 28)] σ σ' := by rw [h']; exact fr_stepI (fr_I σ _ _ _ (by simp)) _ _ _ (by simp)
  have g : ∀ K j, σ'.1 K j = if K = 0 ∧ j = 28 then nI (k + 1) else if K = 23 ∧ j = k then nI (wk_m w - x) else σ.1 K j := fun K j => by rw [h', upI_get, upI_get]
  refine ⟨⟨?_, ?_, ?_, ?_, ?_⟩, MWs_ag (fr_ag f (by decide)) hs, fun j hj => ?_, MWm_ag (fr_ag f (by decide)) hm, MVn_ag (fr_ag f (by decide)) hv⟩
  · rw [g, if_neg (by omega), if_neg (by omega)]; exact c1
  · rw [g, if_neg (by omega), if_neg (by omega)]; exact c2
  · rw [g, if_pos ⟨rfl, rfl⟩]; show _ = nI (wk_l w + 1); rw [hl]
  · rw [g, if_neg (by omega), if_neg (by omega)]; exact c4
  · rw [g, if_neg (by omega), if_neg (by omega)]; exact c5
  · have hj : j < wk_s w := hj
    show _ = if j < wk_l w + 1 then nI (fu (wk_c w) k (wk_m w) j - opn (clo w k) j) else -2
    have oe : j ≤ k → opn (clo w k) j = opn w j := by
      intro hjk
      unfold opn
      by_cases q : j = 0
      · rw [if_pos q, if_pos q]
      · rw [if_neg q, if_neg q]; exact fu_n _ _ (by omega)
    rw [g, if_neg (by omega), hl]
    by_cases q : j = k
    · rw [if_pos ⟨rfl, q⟩, if_pos (by omega), oe (by omega), q, fu_s, hx]
    · rw [if_neg (fun z => q z.2), fu_n _ _ q, hf j hj, hl]
      by_cases z : j < k
      · rw [if_pos z, if_pos (show j < k + 1 by omega), oe (by omega)]
      · rw [if_neg z, if_neg (show ¬ j < k + 1 by omega)]
set_option maxHeartbeats 1000000 in
theorem m_walk {σ : St} {N : Ne} {bd : Nat → Nat} {fs : Nat → Bool} {P : Pr} {post : Int32 → St → Prop} (hN : NM σ N) (hW : WN N) (hF : MF σ N fs) (hB : MB σ bd) (hbd : ∀ k, k < 16 → bd k ≤ 9) (hP : MP σ P.1 P.2.1 P.2.2.1 P.2.2.2) (hWP : WP N P)
    (h1 : nb N = 0 → ∀ σ', fr0 σ σ' → post (-3) σ') (h2 : 0 < nb N → ∀ σ', frY σ σ' → MW σ' N (wAll N bd P fs) → post (if wk_x (wAll N bd P fs) = true then -2 - nI (wk_s (wAll N bd P fs)) else nI (wk_s (wAll N bd P fs))) σ') : w_X12_walk σ post := by
  have h10 := nb10 hW
  unfold w_X12_walk
  refine nm_of ?_
  have f1 : fr0 σ (upI σ 0 0 0) := fr0_up σ
  have a1 : ag [] [(0, 2)] σ (upI σ 0 0 0) := fr_ag f1 (by decide)
  rw [(a1 0 2 (by simp)).1]
  refine br_eq (nb N) 0 hN.2.1 rfl (by omega) (by omega) (fun z => h1 z _ f1) (fun z => ?_)
  generalize upI σ 0 0 0 = σ1 at f1
  clear a1
  refine m_unwalk (fun σ4 f4 U4 => nm_of ?_)
  obtain ⟨u25, u26, u27, u28, u29, u38⟩ := U4
  generalize t5 : upI σ4 0 25 1 = σ5
  have f5 : frY σ σ5 := by rw [← t5]; exact fr_stepI (fr_tr (fr_mo f1 (by decide)) (fr_mo f4 (by decide))) _ _ _ (by simp)
  have v5 : σ5.1 0 25 = 1 ∧ σ5.1 0 26 = 0 ∧ σ5.1 0 27 = 0 ∧ σ5.1 0 28 = 0 ∧ σ5.1 0 29 = 0 ∧ σ5.1 0 38 = 0 := by
    rw [← t5]
    refine ⟨?_, ?_, ?_, ?_, ?_, ?_⟩
    · rw [upI_get, if_pos ⟨rfl, rfl⟩]
    · rw [upI_get, if_neg (by decide)]; exact u26
    · rw [upI_get, if_neg (by decide)]; exact u27
    · rw [upI_get, if_neg (by decide)]; exact u28
    · rw [upI_get, if_neg (by decide)]; exact u29
    · rw [upI_get, if_neg (by decide)]; exact u38
  clear t5 u25 u26 u27 u28 u29 u38 f4
  refine jn_1 (fun σ7 => fr [28] [] σ5 σ7 ∧ ∀ p, p < 8 → σ7.1 28 p = 0) (fun J hJ => ?_) ?_
  · refine lpE2_inv (I := fun y s => ∃ p, p ≤ 8 ∧ y = nI p ∧ fr [28] [] σ5 s ∧ ∀ q, q < p → s.1 28 q = 0) (μ := fun y _ => 8 - y.toNatClampNeg) ?_ 0 σ5 ⟨0, by omega, rfl, fr_rf, fun q hq => absurd hq (Nat.not_lt_zero q)⟩
    rintro rec y s ⟨p, hp, rfl, fs', z'⟩ hrec
    unfold w_X12_walk_L26
    refine br_le 8 p rfl rfl (by omega) (by omega) (fun q => hJ _ ⟨fs', fun r hr => z' r (by omega)⟩) (fun q => ?_)
    refine wr_at p rfl q (by decide) (fun s' t' => nm_of (hrec _ _ ⟨p + 1, q, nI_1 p, by rw [t']; exact fr_stepI fs' _ _ _ (by simp), fun r hr => ?_⟩ (by rw [nI_1, cl_nI (by omega), cl_nI (by omega)]; omega)))
    rw [t', upI_get]
    by_cases y : r = p
    · rw [if_pos ⟨rfl, y⟩, nar_bool]; rfl
    · rw [if_neg (fun u => y u.2)]; exact z' r (by omega)
  rintro σ7 ⟨f7, n7⟩
  refine jn_1 (fun σ9 => fr [29] [] σ7 σ9 ∧ ∀ p, p < 16 → σ9.1 29 p = 0) (fun J hJ => ?_) ?_
  · refine lpE2_inv (I := fun y s => ∃ p, p ≤ 16 ∧ y = nI p ∧ fr [29] [] σ7 s ∧ ∀ q, q < p → s.1 29 q = 0) (μ := fun y _ => 16 - y.toNatClampNeg) ?_ 0 σ7 ⟨0, by omega, rfl, fr_rf, fun q hq => absurd hq (Nat.not_lt_zero q)⟩
    rintro rec y s ⟨p, hp, rfl, fs', z'⟩ hrec
    unfold w_X12_walk_L47
    refine br_le 16 p rfl rfl (by omega) (by omega) (fun q => hJ _ ⟨fs', fun r hr => z' r (by omega)⟩) (fun q => ?_)
    refine wr_at p rfl q (by decide) (fun s' t' => nm_of (hrec _ _ ⟨p + 1, q, nI_1 p, by rw [t']; exact fr_stepI fs' _ _ _ (by simp), fun r hr => ?_⟩ (by rw [nI_1, cl_nI (by omega), cl_nI (by omega)]; omega)))
    rw [t', upI_get]
    by_cases y : r = p
    · rw [if_pos ⟨rfl, y⟩]
    · rw [if_neg (fun u => y u.2)]; exact z' r (by omega)
  rintro σ9 ⟨f9, n9⟩
  have fY9 : frY σ σ9 := fr_tr f5 (fr_tr (fr_mo f7 (by decide)) (fr_mo f9 (by decide)))
  have v9 : σ9.1 0 25 = 1 ∧ σ9.1 0 26 = 0 ∧ σ9.1 0 27 = 0 ∧ σ9.1 0 28 = 0 ∧ σ9.1 0 29 = 0 ∧ σ9.1 0 38 = 0 := by
    have a : ag [] [(0, 25), (0, 26), (0, 27), (0, 28), (0, 29), (0, 38)] σ5 σ7 := fr_ag f7 (by decide)
    have b : ag [] [(0, 25), (0, 26), (0, 27), (0, 28), (0, 29), (0, 38)] σ7 σ9 := fr_ag f9 (by decide)
    rw [(b 0 25 (by simp)).1, (b 0 26 (by simp)).1, (b 0 27 (by simp)).1, (b 0 28 (by simp)).1, (b 0 29 (by simp)).1, (b 0 38 (by simp)).1, (a 0 25 (by simp)).1, (a 0 26 (by simp)).1, (a 0 27 (by simp)).1, (a 0 28 (by simp)).1, (a 0 29 (by simp)).1, (a 0 38 (by simp)).1]
    exact v5
  have n28 : MVn σ9 (fun _ => (false, 0, 0, 0, 0, 0)) := fun p hp => by
    have b : ag [28] [] σ7 σ9 := fr_ag f9 (by decide)
    exact ⟨by rw [(b 28 p (by simp)).1, n7 p hp]; rfl, fun z => Bool.noConfusion z⟩
  clear f9 n7 f7 v5 f5 f1 σ7 σ5 σ4 σ1
  have hN9 := NM_ag (fr_ag fY9 (by decide)) hN
  refine m_beginning hN9 hW (MF_ag (fr_ag fY9 (by decide)) hF) (fun r10 hr10 => ?_)
  refine m_addState (N := N) (w := ((0, 0, 0, false, fun _ => (fz N fs, fun _ => 0, 0, 0, 0, 0, 0), fun _ => 0, fun _ => (0, 0, 0), fun _ => (false, 0, 0, 0, 0, 0)) : Wk)) (w' := wk0 N P fs) (n := ((fz N fs, fun _ => 0, 0, 0, 0, 0, 0) : SI)) (nx0 := fun _ => 0) (MB_ag (fr_ag fY9 (by decide)) hB) hbd ⟨v9.2.2.1, fun k hk => absurd hk (Nat.not_lt_zero k)⟩ (fun k hk => absurd hk (Nat.not_lt_zero k)) (show 0 < 250 by decide) (Nat.le_refl _) (fun i hi => by rw [n9 i hi]; rfl) ?_ hr10 rfl (fun q => absurd q (Nat.lt_irrefl 0)) rfl rfl rfl rfl rfl (fun j hj => absurd hj (Nat.not_lt_zero j)) rfl rfl rfl (fun σ13 f13 S13 F13 => ?_)
  · funext i
    show 0 = if bd i = 0 then 0 else 0
    split <;> rfl
  have fY13 : frY σ σ13 := fr_tr fY9 (fr_mo f13 (by decide))
  have hN13 := NM_ag (fr_ag fY13 (by decide)) hN
  have hP13 := MP_ag (fr_ag fY13 (by decide)) hP
  have a13 : ag [] [(0, 25), (0, 26), (0, 28), (0, 29), (0, 38)] σ9 σ13 := fr_ag f13 (by decide)
  refine m_lookAtPromises (first := true) (f := -2) (vb := fz N fs) (vn := fz N fs) (set := 0) (inp := 0) (ots := 0) (to := 0) hN13 hW hP13 hWP (MVn_ag (fr_ag f13 (by decide)) n28) (fun q => Bool.noConfusion q) (fun r _ => hr10 r) (Or.inr ⟨by decide, rfl, rfl⟩) rfl rfl rfl rfl (fun σ15 f15 V15 => ?_)
  have fY15 : frY σ σ15 := fr_tr fY13 (fr_mo f15 (by decide))
  have a15 : ag [] [(0, 25), (0, 26), (0, 28), (0, 29), (0, 38)] σ13 σ15 := fr_ag f15 (by decide)
  have M15 : MW σ15 N (wK N bd P fs 0) := by
    refine ⟨⟨?_, ?_, ?_, ?_, ?_⟩, MWs_ag (fr_ag f15 (by decide)) S13, MWf_ag (fr_ag f15 (by decide)) F13, fun m hm => absurd hm (Nat.not_lt_zero m), V15⟩
    · rw [(a15 0 25 (by simp)).1, (a13 0 25 (by simp)).1]; exact v9.1
    · rw [(a15 0 26 (by simp)).1, (a13 0 26 (by simp)).1]; exact v9.2.1
    · rw [(a15 0 28 (by simp)).1, (a13 0 28 (by simp)).1]; exact v9.2.2.2.1
    · rw [(a15 0 29 (by simp)).1, (a13 0 29 (by simp)).1]; exact v9.2.2.2.2.1
    · rw [(a15 0 38 (by simp)).1, (a13 0 38 (by simp)).1]; exact v9.2.2.2.2.2
  clear a15 a13 hN13 hP13 fY13 f15 V15 F13 S13 f13 n28 v9 n9 fY9 hN9 hr10
  have hN15 := NM_ag (fr_ag fY15 (by decide)) hN
  refine m_clocksThere hN15 hW (fun r16 hr16 => ?_)
  refine jn_1 (fun σ19 => frY σ σ19 ∧ MW σ19 N (wAll N bd P fs)) (fun J hJ => ?_) ?_
  rotate_left
  · rintro σ19 ⟨f19, M19⟩
    have h3 := h2 (by omega) σ19 f19 M19
    rw [M19.1.2.1, M19.2.1.1]
    cases tx : wk_x (wAll N bd P fs) with
    | false => rw [tx] at h3; exact br_1 rfl h3
    | true => rw [tx] at h3; exact br_0 (by decide) h3
  refine lpE2_inv (I := fun y21 σ22 => ∃ k, k ≤ 250 ∧ y21 = nI k ∧ frY σ σ22 ∧ MW σ22 N (wK N bd P fs k)) (μ := fun y21 _ => 250 - y21.toNatClampNeg) ?_ 0 σ15 ⟨0, by omega, rfl, fY15, M15⟩
  clear M15 hN15 fY15 σ15
  rintro rec y21 σ22 ⟨k, hk, rfl, f22, M22⟩ hrec
  have fin : (wk_x (wK N bd P fs k) = true ∨ wk_s (wK N bd P fs k) ≤ k) → J σ22 := fun q => hJ _ ⟨f22, by
    have e := wK_end q (250 - k)
    rw [show k + (250 - k) = 250 by omega] at e
    unfold wAll
    rw [e]; exact M22⟩
  have atk := at_W (bd := bd) (P := P) (fs := fs) hW k
  have h250 := atk.1.1.2.1
  unfold w_X12_walk_L98
  refine br_le (wk_s (wK N bd P fs k)) k M22.2.1.1 rfl (by omega) (by omega) (fun q => fin (Or.inr q)) (fun q => ?_)
  rw [M22.1.2.1]
  cases tx : wk_x (wK N bd P fs k) with
  | true => exact br_0 (by decide) (fin (Or.inl tx))
  | false =>
  refine br_1 rfl ?_
  have ak := at_of atk tx q
  have op := at_op (bd := bd) (P := P) (fs := fs) k tx (by omega)
  have cond : ¬ (wk_x (wK N bd P fs k) = true ∨ wk_s (wK N bd P fs k) ≤ k) := by rintro (y | y); rw [tx] at y; cases y; omega
  generalize hw : wK N bd P fs k = w at *
  refine nm_as (nI (wk_m w)) M22.1.2.2.2.2 ?_
  refine jn_1 (fun σ28 => frY σ σ28 ∧ MW σ28 N (wS N bd P k (wk_i w k) w 16)) (fun J2 hJ2 => ?_) ?_
  · refine lpE2_inv (I := fun y34 σ35 => ∃ set, 0 < set ∧ set ≤ 16 ∧ y34 = nI set ∧ frY σ σ35 ∧ MW σ35 N (wS N bd P k (wk_i w k) w set)) (μ := fun y34 _ => 16 - y34.toNatClampNeg) ?_ 1 σ22 ⟨1, by omega, by omega, rfl, f22, by rw [wS_1]; exact M22⟩
    rintro rec2 y34 σ35 ⟨set, hs0, hs, rfl, f35, M35⟩ hrec2
    unfold w_X12_walk_L122
    refine br_le 16 set rfl rfl (by omega) (by omega) (fun q2 => hJ2 _ ⟨f35, by rw [show 16 = set by omega]; exact M35⟩) (fun q2 => ?_)
    have dec : 16 - (nI set + 1).toNatClampNeg < 16 - (nI set).toNatClampNeg := by rw [nI_1, cl_nI (by omega), cl_nI (by omega)]; omega
    rw [M35.1.2.1]
    cases tx2 : wk_x (wS N bd P k (wk_i w k) w set) with
    | true =>
      refine br_0 (by decide) (hJ2 _ ⟨f35, ?_⟩)
      have e := wS_end tx2 (16 - set)
      rw [show set + (16 - set) = 16 by omega] at e
      rw [e]; exact M35
    | false =>
      refine br_1 rfl ?_
      have at35 := at_Z (P := P) hW ak set (by omega)
      have skip : ¬ okS N bd (wk_i w k) set → ∀ σ', frY σ σ' → MW σ' N (wS N bd P k (wk_i w k) w set) → rec2 (nI set + 1) σ' := fun n σ' f' M' => hrec2 _ _ ⟨set + 1, by omega, q2, nI_1 set, f', by rw [wS, if_pos (Or.inr n)]; exact M'⟩ dec
      refine br_2 (fun z2 => ?_) (fun z2 => nm_of (skip (fun o => z2 ((setin q2 hr16).mpr o.2.1)) _ f35 M35))
      refine m_trySet (fs := fs) (P := P) (NM_ag (fr_ag f35 (by decide)) hN) hW (MB_ag (fr_ag f35 (by decide)) hB) hbd (MP_ag (fr_ag f35 (by decide)) hP) hWP at35 rfl rfl hs0 q2 M35 (fun can σ42 f42 M42 => nm_of (hrec2 _ _ ⟨set + 1, by omega, q2, nI_1 set, fr_tr f35 (fr_mo f42 (by decide)), ?_⟩ dec)) (fun nc σ42 f42 M42 => nm_of (skip (fun o => nc o.2.2) _ (fr_tr f35 (fr_mo f42 (by decide))) M42))
      rw [wS, if_neg (by rintro (y | y); rw [tx2] at y; cases y; exact y ⟨hs0, (setin q2 hr16).mp z2, can⟩)]
      exact M42
  rintro σ28 ⟨f28, M28⟩
  have at28 := at_Z (P := P) hW ak 16 (Nat.le_refl _)
  have dec : 250 - (nI k + 1).toNatClampNeg < 250 - (nI k).toNatClampNeg := by rw [nI_1, cl_nI (by omega), cl_nI (by omega)]; omega
  have nextK : wK N bd P fs (k + 1) = if wk_x (wS N bd P k (wk_i w k) w 16) = true then wS N bd P k (wk_i w k) w 16 else clo (wS N bd P k (wk_i w k) w 16) k := by
    rw [wK, hw, if_neg cond]
  rw [M28.1.2.1]
  cases tx2 : wk_x (wS N bd P k (wk_i w k) w 16) with
  | true =>
    refine br_0 (by decide) (nm_of (hrec _ _ ⟨k + 1, by omega, nI_1 k, f28, ?_⟩ dec))
    rw [nextK, if_pos tx2]; exact M28
  | false =>
    have oe : opn (wS N bd P k (wk_i w k) w 16) k = wk_m w := by
      rw [← op]
      unfold opn
      rw [c_wS]
    have ol : wk_m w ≤ wk_m (wS N bd P k (wk_i w k) w 16) := by
      rw [← oe]
      unfold opn
      by_cases y : k = 0
      · rw [if_pos y]; omega
      · rw [if_neg y]; exact (at28.2.1.2.1 (k - 1) (by omega)).2
    have m28 := at28.1.1.2.2
    refine br_1 rfl (wr_at k rfl (by omega) (by decide) (fun σ31 t31 => nm_of (nm_of (hrec _ _ ⟨k + 1, by omega, nI_1 k, ?_, ?_⟩ dec))))
    · rw [t31]; exact fr_stepI (fr_stepI f28 _ _ _ (by simp)) _ _ _ (by simp)
    · rw [nextK, if_neg (by rw [tx2]; decide)]
      refine MW_clo M28 oe at28.2.1.1 at28.2.2.1 at28.1.1.2.1 ?_
      have e28 : (upI σ28 23 k (nI (wk_m (wS N bd P k (wk_i w k) w 16) - wk_m w))).1 0 28 + 1 = nI (k + 1) := by
        rw [upI_get, if_neg (by omega), M28.1.2.2.1, nI_1, at28.2.1.1]
      rw [t31, M28.1.2.2.2.2, pk_sub ol, e28]
