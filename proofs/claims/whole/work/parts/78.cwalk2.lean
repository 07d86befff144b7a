/-! THE WALK (the class): moments -/
theorem cod_bit {to tu : Nat} (htu : tu < 16) (b : Nat) : (16 * to + tu).testBit b = if b < 4 then tu.testBit b else to.testBit (b - 4) := Nat.testBit_two_pow_mul_add to (i := 4) htu b
theorem cod_lt {to tu : Nat} (hto : to < 250) (htu : tu ≤ 10) : 16 * to + tu < 2 ^ 12 := by omega
theorem c_wadd {σ : St} {w w' : Wk} {a1 a2 a3 : Int32} {k to tu : Nat} {post : St → Prop} (hM : CWm σ w) (hm : wk_m w < 20000) (h1 : a1 = nI (wk_m w)) (h2 : a2 = nI to) (h3 : a3 = nI tu) (hto : to < 250) (htu : tu ≤ 10) (e1 : wk_m w' = wk_m w + 1) (e2 : wk_w w' = fu (wk_w w) (wk_m w) (k, to, tu)) (h : ∀ σ', fr [33] [] σ σ' → CWm σ' w' → post σ') : w_X10_add σ a1 a2 a3 post := by
  have cl := cod_lt hto htu
  have d1 : a1 / (5 : Int32) = nI (wk_m w / 5) := by rw [h1, show (5 : Int32) = nI 5 from rfl, pk_div (by omega) (by omega) (by omega)]
  have d2 : (a1 - a1 / (5 : Int32) * (5 : Int32)) * (12 : Int32) = nI (12 * (wk_m w % 5)) := by rw [h1, show (5 : Int32) = nI 5 from rfl, pk_rem (by omega) (by omega) (by omega), show (12 : Int32) = nI 12 from rfl, pk_mul, Nat.mul_comm]
  have d3 : ((a2 <<< ((4 : Int32) &&& 31)) ||| a3).toInt64 = lN (16 * to + tu) := by
    rw [h2, h3, pk_shlN (n := to) ((4 : Int32) &&& 31) 4 (by decide) (by omega), Nat.mul_comm, fa_or_sum to (k := 4) (by omega), nI_l (by omega)]
  unfold w_X10_add
  rw [d2, d3, d1]
  refine rd_of (wk_m w / 5) rfl (by omega) (by decide) ?_
  refine wrL_at (wk_m w / 5) rfl (by omega) (by decide) (fun σ2 t2 => h σ2 (by rw [t2]; exact fr_J σ _ _ _ (by simp)) (fun m hm' b hb => ?_))
  rw [t2, upJ_get, e1, e2]
  have old := hM m hm' b hb
  by_cases z : m / 5 = wk_m w / 5
  · rw [if_pos ⟨rfl, z⟩, lb_or, lb_shl _ (by omega) (by omega), lb_lN (by omega), ← z, old]
    by_cases y : m = wk_m w
    · subst y
      rw [if_neg (by omega), if_pos (by omega), fu_s, show 12 * (wk_m w % 5) + b - 12 * (wk_m w % 5) = b by omega, decide_eq_true (by omega)]
      rfl
    · have rest : (decide (12 * (wk_m w % 5) ≤ 12 * (m % 5) + b) && (16 * to + tu).testBit (12 * (m % 5) + b - 12 * (wk_m w % 5))) = false := by
        by_cases u : m % 5 < wk_m w % 5
        · rw [decide_eq_false (by omega), Bool.false_and]
        · have : 2 ^ 12 ≤ 2 ^ (12 * (m % 5) + b - 12 * (wk_m w % 5)) := Nat.pow_le_pow_right (by decide) (by omega)
          rw [Nat.testBit_lt_two_pow (by omega), Bool.and_false]
      rw [rest, Bool.or_false, fu_n _ _ y]
      by_cases u : m < wk_m w
      · rw [if_pos u, if_pos (by omega)]
      · rw [if_neg u, if_neg (by omega)]
  · have y : m ≠ wk_m w := fun e => z (by rw [e])
    rw [if_neg (fun u => z u.2), old, fu_n _ _ y]
    by_cases u : m < wk_m w
    · rw [if_pos u, if_pos (by omega)]
    · rw [if_neg u, if_neg (by omega)]
theorem ct_ots {N : Ne} (hW : WN N) {v : Nat → Bool} {set inp ots : Nat} (h : ots < 2 ^ ne_ N v set inp) : fb_ct ots.testBit 10 = fb_ct ots.testBit (ne_ N v set inp) := fb_ct_ext (ne_le N hW v set inp) (fun k hk => by
  have : 2 ^ ne_ N v set inp ≤ 2 ^ k := Nat.pow_le_pow_right (by decide) hk
  rw [Nat.testBit_lt_two_pow (by omega)])
abbrev frV (σ σ' : St) : Prop := fr [25, 26, 27, 28, 29, 30, 31, 33] [(6, 5), (6, 7), (6, 8)] σ σ'
theorem c_tail {σ : St} {N : Ne} {bd : Nat → Nat} {fs : Nat → Bool} {P : Pr} {w : Wk} {k set inp ots to t : Nat} {s n : SI} {a1 a2 a3 a4 r3 : Int32} {post : St → Prop} (hN : CN σ N) (hW : WN N) (hP : CP σ N P) (hWP : WP N P) (ha : at_k N bd fs k s w) (hm : wk_m w < 20000) (hto : to < wk_s w) (h1 : a1 = nI k) (h2 : a2 = nI set) (h3 : a3 = nI inp) (h4 : a4 = nI ots) (ho : ots < 2 ^ ne_ N (sq_v s) set inp) (hr : r3 = nI t) (ht : t < 512) (hsl : σ.1 31 t = nI (to + 1)) (hn : PM N (σ.1 25 to) (sq_v n)) (hC : CW σ N w)
    (h : ∀ σ', frV σ σ' → CW σ' N (mvA N P k s n set inp ots to w) → post σ') : rd (σ.1 31) 512 r3 (fun v14 => nm (v14 - (1 : Int32)) (fun x15 => w_J6_bitCount_0f7a4 a4 (fun r16 => w_X10_add σ (σ.1 6 7) x15 r16 (fun σ19 => nm (upI σ19 6 7 ((σ19.1 6 7) + (1 : Int32))) (fun σ20 => w_X9_judge σ20 a1 a2 a3 a4 x15 (fun σ22 => post σ22)))))) := by
  obtain ⟨⟨c6, c7, c8⟩, hS, hB, hF, hH, hMm, hL, hV⟩ := hC
  have h250 := ha.1.1.2.1
  have hk := ha.2.2.1
  have es := ha.2.2.2
  have n1024 := ne_1024 hW (sq_v s) set inp
  refine rd_of t hr ht (by decide) ?_
  rw [hsl]
  refine nm_as (nI to) (nI_pred to) ?_
  refine c_bitCount h4 (by omega) ?_
  rw [ct_ots hW ho]
  have tu : fb_ct ots.testBit (ne_ N (sq_v s) set inp) ≤ 10 := Nat.le_trans (fb_ct_le _ _) (ne_le N hW _ _ _)
  refine c_wadd (w' := mvA N P k s n set inp ots to w) hMm hm c7 rfl rfl (by omega) tu rfl rfl (fun σ19 f19 M19 => nm_of ?_)
  have a19 : ag [] [(6, 7)] σ σ19 := fr_ag f19 (by decide)
  rw [(a19 6 7 (by simp)).1, c7, nI_1]
  generalize t20 : upI σ19 6 7 (nI (wk_m w + 1)) = σ20
  have f20 : fr [33] [(6, 7)] σ σ20 := by rw [← t20]; exact fr_stepI (fr_mo f19 (by decide)) _ _ _ (by simp)
  have k20 : σ20.1 6 7 = nI (wk_m w + 1) := by rw [← t20, upI_get, if_pos ⟨rfl, rfl⟩]
  have M20 : CWm σ20 (mvA N P k s n set inp ots to w) := CWm_ag (by rw [← t20]; exact fr_ag (fr_I σ19 (S := []) (F := [(6, 7)]) 6 7 _ (by simp)) (by decide)) M19
  clear t20 f19 a19 M19
  have a20 : ag [25] [(6, 6), (6, 8)] σ σ20 := fr_ag f20 (by decide)
  have pk := (hS.2 k hk).1
  rw [es] at pk
  refine c_judge (first := false) (f := nI k) (vb := sq_v s) (vn := sq_v n) (CN_ag (fr_ag f20 (by decide)) hN) hW (CP_ag (fr_ag f20 (by decide)) hP) hWP (CVn_ag (fr_ag f20 (by decide)) hV) (fun p hp => by have := ha.1.2.2.2.2.2.2 p hp; omega) (by omega) (Or.inl ⟨k, by omega, h1, rfl, h1.symm, by rw [(a20 25 k (by simp)).1]; exact pk⟩) h2 h3 h4 rfl (by rw [(a20 25 to (by simp)).1]; exact hn) (fun σ' f' V' => ?_)
  have a' : ag [] [(6, 6), (6, 7), (6, 8)] σ20 σ' := fr_ag f' (by decide)
  refine h σ' (fr_tr (fr_mo f20 (by decide)) (fr_mo f' (by decide))) ⟨⟨?_, ?_, ?_⟩, CWs_ag (fr_ag f' (by decide)) (CWs_ag (fr_ag f20 (by decide)) hS), CWb_ag (fr_ag f' (by decide)) (CWb_ag (fr_ag f20 (by decide)) hB), CWf_ag (fr_ag f' (by decide)) (CWf_ag (fr_ag f20 (by decide)) hF), CWh_ag (fr_ag f' (by decide)) (CWh_ag (fr_ag f20 (by decide)) hH), CWm_ag (fr_ag f' (by decide)) M20, CWl_ag (fr_ag f' (by decide)) (CWl_ag (fr_ag f20 (by decide)) hL), V'⟩
  · rw [(a' 6 6 (by simp)).1, (a20 6 6 (by simp)).1]; exact c6
  · rw [(a' 6 7 (by simp)).1]; exact k20
  · rw [(a' 6 8 (by simp)).1, (a20 6 8 (by simp)).1]; exact c8
theorem CW_sp {σ : St} {N : Ne} {w : Wk} (h : CW σ N w) : CW (upI σ 6 8 1) N (spX w) := by
  obtain ⟨⟨c1, c2, c3⟩, hs, hb, hf, hh, hm, hl, hv⟩ := h
  have a : fr [] [(6, 8)] σ (upI σ 6 8 1) := fr_I σ _ _ _ (by simp)
  refine ⟨⟨?_, ?_, ?_⟩, CWs_ag (fr_ag a (by decide)) hs, CWb_ag (fr_ag a (by decide)) hb, CWf_ag (fr_ag a (by decide)) hf, CWh_ag (fr_ag a (by decide)) hh, CWm_ag (fr_ag a (by decide)) hm, CWl_ag (fr_ag a (by decide)) hl, CVn_ag (fr_ag a (by decide)) hv⟩
  · rw [upI_get, if_neg (by decide)]; exact c1
  · rw [upI_get, if_neg (by decide)]; exact c2
  · rw [upI_get, if_pos ⟨rfl, rfl⟩]; rfl
theorem c_arrive {σ : St} {N : Ne} {bd : Nat → Nat} {fs : Nat → Bool} {P : Pr} {w : Wk} {k set inp ots : Nat} {s : SI} {a1 a2 a3 a4 : Int32} {a5 : Int64} {post : St → Prop} (hN : CN σ N) (hW : WN N) (hWB : WB bd) (hP : CP σ N P) (hWP : WP N P) (hT : CC σ N (sq_v s) set inp) (ha : at_k N bd fs k s w) (h1 : a1 = nI k) (h2 : a2 = nI set) (h3 : a3 = nI inp) (h4 : a4 = nI ots) (h5 : a5 = lN (tN (dg bd (thn set (sq_t s))) 16)) (h0 : 0 < set) (h16 : set < 16) (hi : inp < 1024) (ho : ots < 2 ^ ne_ N (sq_v s) set inp) (hc : canB bd set (sq_t s)) (hC : CW σ N w)
    (h : ∀ σ', frV σ σ' → CW σ' N (mvS N bd P k s set inp ots w) → post σ') : w_X9_arrive σ a1 a2 a3 a4 a5 post := by
  obtain ⟨⟨c6, c7, c8⟩, hS, hB, hF, hH, hMm, hL, hV⟩ := id hC
  have hm := ha.1.1.2.2
  have hs := ha.1.1.2.1
  have hk := ha.2.2.1
  have es := ha.2.2.2
  have n1024 := ne_1024 hW (sq_v s) set inp
  have hsok : sok N bd s := by rw [← es]; exact (ha.1.2.1 k hk).1
  have nok : sok N bd (nxS N bd k s set inp ots) := sok_nx hsok hc
  have le := whr_le N w (nxS N bd k s set inp ots)
  have ll : wk_l w ≤ wk_s w := by rw [ha.2.1.1]; omega
  have fsp : frV σ (upI σ 6 8 1) := fr_I σ _ _ _ (by simp)
  unfold w_X9_arrive
  unfold mvS at h
  refine c_sbehind hW hT h4 (by omega) (fun r1 hr1 => ?_)
  refine c_slotOf (n := nxS N bd k s set inp ots) hWB ha.1 hS hH hr1 h5 (sok_dig hWB nok) (fun z t ht hsl => ?_) (fun z d hd hz hnz => ?_)
  · refine rd_of t rfl ht (by decide) ?_
    rw [hsl]
    refine jn_at (br_0 (fun e => absurd ((nI_z (by omega)).mp e) (by omega)) ?_)
    refine jn_at (br_le 20000 (wk_m w) rfl c7 (by omega) (by omega) (fun q => ?_) (fun q => ?_))
    · rw [if_pos (by omega)] at h
      exact nm_of (h _ fsp (CW_sp hC))
    rw [if_neg (by omega), if_pos z] at h
    refine jn_at (br_1 rfl (jn_at (br_1 rfl ?_)))
    have sm : smS N (wk_i w (whr N w (nxS N bd k s set inp ots))) (sq_v (nxS N bd k s set inp ots)) (sq_t (nxS N bd k s set inp ots)) = true := fa_first_yes (fun j => smS N (wk_i w j) (sq_v (nxS N bd k s set inp ots)) (sq_t (nxS N bd k s set inp ots))) (wk_s w) z
    exact c_tail (bd := bd) (fs := fs) (n := nxS N bd k s set inp ots) hN hW hP hWP ha q z h1 h2 h3 h4 ho rfl ht hsl (PM_cong (hS.2 _ z).1 (fun c hc g => ((smS_iff.mp sm).1 c hc g).symm)) hC h
  · have sl : (hsh r1 a5 + d) % 512 < 512 := Nat.mod_lt _ (by decide)
    refine rd_of ((hsh r1 a5 + d) % 512) rfl sl (by decide) ?_
    rw [hz]
    refine jn_at (br_1 rfl ?_)
    refine jn_at (br_le 20000 (wk_m w) rfl c7 (by omega) (by omega) (fun q => ?_) (fun q => ?_))
    · rw [if_pos (by omega)] at h
      exact nm_of (h _ fsp (CW_sp hC))
    rw [if_neg (by omega), if_neg (by omega)] at h
    refine jn_at (br_0 (by decide) ?_)
    refine br_lt (wk_s w) 250 hS.1 rfl (by omega) (by omega) (fun q2 => ?_) (fun q2 => ?_)
    · rw [if_neg (by omega)] at h
      refine jn_at (br_0 (by decide) ?_)
      refine c_tell29 hS.1 q2 (fun σ25 f25 o25 n25 => ?_)
      have a25 : ag [25, 26, 27, 28, 31] [(6, 5)] σ σ25 := fr_ag f25 (by decide)
      refine rd_of k h1 (by omega) (by decide) ?_
      have hS25 := CWs_ag (fr_ag f25 (by decide)) hS
      rw [(hS25.2 k hk).2.2, es, nI_1]
      refine c_addState (w := w) (w' := adS w (nxS N bd k s set inp ots)) (n := nxS N bd k s set inp ots) (d := d) hS25 (CWf_ag (fr_ag f25 (by decide)) hF) (CWh_ag (fr_ag f25 (by decide)) hH) q2 ll hd rfl (by rw [(a25 31 _ (by simp)).1]; exact hz) (fun e he => by rw [(a25 31 _ (by simp)).1]; exact hnz e he) hr1 h5 rfl rfl (fun j hj => fu_n _ _ (by omega)) (fu_s _ _ _) rfl rfl (fun σ28 f28 S28 F28 H28 n31 => ?_)
      have fA : frV σ σ28 := fr_tr (fr_mo f25 (by decide)) (fr_mo f28 (by decide))
      have b25 : ag [] [(6, 6), (6, 7), (6, 8)] σ σ25 := fr_ag f25 (by decide)
      have b28 : ag [29] [(6, 6), (6, 7), (6, 8)] σ25 σ28 := fr_ag f28 (by decide)
      have new : wk_i (adS w (nxS N bd k s set inp ots)) (wk_s w) = nxS N bd k s set inp ots := fu_s _ _ _
      have pn := (S28.2 (wk_s w) (Nat.lt_succ_self _)).1
      rw [new] at pn
      refine c_tail (bd := bd) (fs := fs) (w := adS w (nxS N bd k s set inp ots)) (n := nxS N bd k s set inp ots) (to := wk_s w) (CN_ag (fr_ag fA (by decide)) hN) hW (CP_ag (fr_ag fA (by decide)) hP) hWP (at_ad ha z q2 h0 h16 hi (by omega) hc) q (Nat.lt_succ_self _) h1 h2 h3 h4 ho rfl sl n31 pn ⟨⟨?_, ?_, ?_⟩, S28, fun j hj => ?_, F28, H28, CWm_ag (fr_ag f28 (by decide)) (CWm_ag (fr_ag f25 (by decide)) hMm), CWl_ag (fr_ag f28 (by decide)) (CWl_ag (fr_ag f25 (by decide)) hL), CVn_ag (fr_ag f28 (by decide)) (CVn_ag (fr_ag f25 (by decide)) hV)⟩ (fun σ' f' m' => h σ' (fr_tr fA f') m')
      · rw [(b28 6 6 (by simp)).1, (b25 6 6 (by simp)).1]; exact c6
      · rw [(b28 6 7 (by simp)).1, (b25 6 7 (by simp)).1]; exact c7
      · rw [(b28 6 8 (by simp)).1, (b25 6 8 (by simp)).1]; exact c8
      · have hj : j < wk_s w + 1 := hj
        have e29 := fun i => (b28 29 i (by simp)).1
        rw [e29, e29, e29, e29]
        by_cases y : j = wk_s w
        · subst y
          rw [new, if_neg (by omega)]
          exact ⟨by rw [n25.1]; exact h1, by rw [n25.2.1]; exact h2, by rw [n25.2.2.1]; exact h3, by rw [n25.2.2.2.1]; exact h4⟩
        · have old : wk_i (adS w (nxS N bd k s set inp ots)) j = wk_i w j := fu_n _ _ y
          rw [old, o25 _ (by omega), o25 _ (by omega), o25 _ (by omega), o25 _ (by omega)]
          exact hB j (by omega)
    · rw [if_pos (by omega)] at h
      exact nm_of (h _ fsp (CW_sp hC))
abbrev frQ (σ σ' : St) : Prop := fr [25, 26, 27, 28, 29, 30, 31, 33] [(4, 1), (4, 2), (4, 3), (4, 4), (4, 5), (4, 6), (6, 5), (6, 7), (6, 8)] σ σ'
set_option maxHeartbeats 1000000 in
theorem c_lookAtSet {σ : St} {N : Ne} {bd : Nat → Nat} {fs : Nat → Bool} {P : Pr} {w : Wk} {k set : Nat} {s : SI} {a1 a2 : Int32} {a3 : Int64} {post : St → Prop} (hN : CN σ N) (hW : WN N) (hWB : WB bd) (hP : CP σ N P) (hWP : WP N P) (ha : at_k N bd fs k s w) (h1 : a1 = nI k) (h2 : a2 = nI set) (h3 : a3 = lN (tN (dg bd (thn set (sq_t s))) 16)) (h0 : 0 < set) (h16 : set < 16) (can : canB bd set (sq_t s)) (hx : wk_x w = false) (hC : CW σ N w)
    (h : ∀ σ', frQ σ σ' → CW σ' N (wI N bd P k s set w (2 ^ inI N set (nn N))) → post σ') : w_X9_lookAtSet σ a1 a2 a3 post := by
  have h250 := ha.1.1.2.1
  have hk := ha.2.2.1
  have es := ha.2.2.2
  have pv := (hC.2.1.2 k hk).1
  rw [es] at pv
  have i10 := in_10 hW set
  have i1024 := in_1024 hW set
  unfold w_X9_lookAtSet
  refine rd_of k h1 (by omega) (by decide) ?_
  refine c_tick hN hW pv h2 (fun σ3 f3 T3 => ?_)
  refine c_count hW T3.2.2.2 (fun c hc => ?_) ?_
  · have := ((Bool.and_eq_true _ _).mp hc).1
    have : nk N c = 5 := by simpa using this
    omega
  have ei : fb_ct (iti N set) (nn N) = inI N set (nn N) := rfl
  rw [ei, sh1 (by omega)]
  refine nm_of (jn_at ?_)
  refine lpE2_inv (I := fun y9 σ10 => ∃ n, n ≤ 2 ^ inI N set (nn N) ∧ y9 = nI n ∧ frQ σ σ10 ∧ CT σ10 N (sq_v s) set ∧ wk_x (wI N bd P k s set w n) = false ∧ CW σ10 N (wI N bd P k s set w n)) (μ := fun y9 _ => 2 ^ inI N set (nn N) - y9.toNatClampNeg) ?_ 0 σ3 ⟨0, Nat.zero_le _, rfl, fr_mo f3 (by decide), T3, hx, CW_ag (fr_ag f3 (by decide)) hC⟩
  clear T3 f3 σ3
  rintro rec y9 σ10 ⟨n, hnl, rfl, f10, T10, x10, M10⟩ hrec
  have at10 := at_I (P := P) hW ha h0 h16 can n (by omega)
  unfold w_X9_lookAtSet_L31
  refine br_le (2 ^ inI N set (nn N)) n rfl rfl (by omega) (by omega) (fun q => h _ f10 (by rw [show 2 ^ inI N set (nn N) = n by omega]; exact M10)) (fun q => ?_)
  have hN10 := CN_ag (fr_ag f10 (by decide)) hN
  refine c_choose hN10 hW T10 rfl (by omega) (fun σ14 f14 C14 => ?_)
  refine c_count hW C14.2 (fun c hc => by have := (eit_lt hc).2; omega) ?_
  have en : fb_ct (eit N (sq_v s) set n) (nn N) = ne_ N (sq_v s) set n := rfl
  have e10 := ne_le N hW (sq_v s) set n
  have e1024 := ne_1024 hW (sq_v s) set n
  rw [en, sh1 (by omega)]
  have nextI : wI N bd P k s set w (n + 1) = wO N bd P k s set n (wI N bd P k s set w n) (2 ^ ne_ N (sq_v s) set n) := by rw [wI, if_neg (by rw [x10]; decide)]
  refine nm_of (jn_at ?_)
  have f14' : frQ σ σ14 := fr_tr f10 (fr_mo f14 (by decide))
  refine lpE2_inv (I := fun y21 σ22 => ∃ m, m ≤ 2 ^ ne_ N (sq_v s) set n ∧ y21 = nI m ∧ frQ σ σ22 ∧ CT σ22 N (sq_v s) set ∧ CC σ22 N (sq_v s) set n ∧ wk_x (wO N bd P k s set n (wI N bd P k s set w n) m) = false ∧ CW σ22 N (wO N bd P k s set n (wI N bd P k s set w n) m)) (μ := fun y21 _ => 2 ^ ne_ N (sq_v s) set n - y21.toNatClampNeg) ?_ 0 σ14 ⟨0, Nat.zero_le _, rfl, f14', CT_ag (fr_ag f14 (by decide)) T10, C14, x10, CW_ag (fr_ag f14 (by decide)) M10⟩
  clear f14 f14' C14
  rintro rec2 y21 σ22 ⟨m, hml, rfl, f22, T22, C22, x22, M22⟩ hrec2
  have at22 := at_O (P := P) hW at10 h0 h16 (show n < 1024 by omega) can m (by omega)
  unfold w_X9_lookAtSet_L64
  refine br_le (2 ^ ne_ N (sq_v s) set n) m rfl rfl (by omega) (by omega) (fun z => ?_) (fun z => ?_)
  · have em : 2 ^ ne_ N (sq_v s) set n = m := by omega
    refine nm_of (hrec _ _ ⟨n + 1, q, nI_1 n, f22, T22, ?_, ?_⟩ (by rw [nI_1, cl_nI (by omega), cl_nI (by omega)]; omega))
    · rw [nextI, em]; exact x22
    · rw [nextI, em]; exact M22
  have nextO : wO N bd P k s set n (wI N bd P k s set w n) (m + 1) = mvS N bd P k s set n m (wO N bd P k s set n (wI N bd P k s set w n) m) := by rw [wO, if_neg (by rw [x22]; decide)]
  refine c_arrive (fs := fs) (P := P) (CN_ag (fr_ag f22 (by decide)) hN) hW hWB (CP_ag (fr_ag f22 (by decide)) hP) hWP C22 at22 h1 h2 rfl rfl h3 h0 h16 (show n < 1024 by omega) z can M22 (fun σ26 f26 M26 => ?_)
  rw [← nextO] at M26
  have f26' : frQ σ σ26 := fr_tr f22 (fr_mo f26 (by decide))
  rw [M26.1.2.2]
  cases tx : wk_x (wO N bd P k s set n (wI N bd P k s set w n) (m + 1)) with
  | false =>
    exact br_1 rfl (nm_of (hrec2 _ _ ⟨m + 1, z, nI_1 m, f26', CT_ag (fr_ag f26 (by decide)) T22, CC_ag (fr_ag f26 (by decide)) C22, tx, M26⟩ (by rw [nI_1, cl_nI (by omega), cl_nI (by omega)]; omega)))
  | true =>
    refine br_0 (by decide) (h _ f26' ?_)
    have e1 := wO_end tx (2 ^ ne_ N (sq_v s) set n - (m + 1))
    rw [show m + 1 + (2 ^ ne_ N (sq_v s) set n - (m + 1)) = 2 ^ ne_ N (sq_v s) set n by omega, ← nextI] at e1
    have e2 := wI_end (n := n + 1) (by rw [e1]; exact tx) (2 ^ inI N set (nn N) - (n + 1))
    rw [show n + 1 + (2 ^ inI N set (nn N) - (n + 1)) = 2 ^ inI N set (nn N) by omega, e1] at e2
    rw [e2]; exact M26
