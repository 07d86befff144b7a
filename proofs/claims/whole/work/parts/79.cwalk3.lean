/-! THE WALK (the class): states one after the other -/
theorem CW_clo {σ : St} {N : Ne} {w : Wk} {k : Nat} (hC : CW σ N w) (hl : wk_l w = k) (hk : k < wk_s w) {σ' : St} (h' : σ' = upI (upI (upI σ 28 k (nI (wk_m w - opn w k))) 6 6 (nI (k + 1))) 34 k (nI (wk_m w))) : CW σ' N (clo w k) := by
  obtain ⟨⟨c6, c7, c8⟩, hs, hb, hf, hh, hm, hL, hv⟩ := hC
  have f : fr [28, 34] [(6, 6)] σ σ' := by rw [h']; exact fr_stepI (fr_stepI (fr_I σ _ _ _ (by simp)) _ _ _ (by simp)) _ _ _ (by simp)
  have g : ∀ K j, σ'.1 K j = if K = 34 ∧ j = k then nI (wk_m w) else if K = 6 ∧ j = 6 then nI (k + 1) else if K = 28 ∧ j = k then nI (wk_m w - opn w k) else σ.1 K j := fun K j => by rw [h', upI_get, upI_get, upI_get]
  refine ⟨⟨?_, ?_, ?_⟩, CWs_ag (fr_ag f (by decide)) hs, CWb_ag (fr_ag f (by decide)) hb, fun j hj => ?_, CWh_ag (fr_ag f (by decide)) hh, CWm_ag (fr_ag f (by decide)) hm, fun j hj => ?_, CVn_ag (fr_ag f (by decide)) hv⟩
  · rw [g, if_neg (by omega), if_pos ⟨rfl, rfl⟩]; show _ = nI (wk_l w + 1); rw [hl]
  · rw [g, if_neg (by omega), if_neg (by omega), if_neg (by omega)]; exact c7
  · rw [g, if_neg (by omega), if_neg (by omega), if_neg (by omega)]; exact c8
  · have hj : j < wk_s w := hj
    show _ = if j < wk_l w + 1 then nI (fu (wk_c w) k (wk_m w) j - opn (clo w k) j) else -2
    have oe : j ≤ k → opn (clo w k) j = opn w j := by
      intro hjk
      unfold opn
      by_cases q : j = 0
      · rw [if_pos q, if_pos q]
      · rw [if_neg q, if_neg q]; exact fu_n _ _ (by omega)
    rw [g, if_neg (by omega), if_neg (by omega), hl]
    by_cases q : j = k
    · rw [if_pos ⟨rfl, q⟩, if_pos (by omega), oe (by omega), q, fu_s]
    · rw [if_neg (fun z => q z.2), fu_n _ _ q, hf j hj, hl]
      by_cases z : j < k
      · rw [if_pos z, if_pos (show j < k + 1 by omega), oe (by omega)]
      · rw [if_neg z, if_neg (show ¬ j < k + 1 by omega)]
  · have hj : j < wk_l w + 1 := hj
    show _ = nI (fu (wk_c w) k (wk_m w) j)
    rw [g]
    by_cases q : j = k
    · rw [if_pos ⟨rfl, q⟩, q, fu_s]
    · rw [if_neg (fun z => q z.2), if_neg (by omega), if_neg (by omega), fu_n _ _ q]
      exact hL j (by omega)
abbrev frL (σ σ' : St) : Prop := fr [25, 26, 27, 28, 29, 30, 31, 33, 34] [(4, 1), (4, 2), (4, 3), (4, 4), (4, 5), (4, 6), (6, 5), (6, 6), (6, 7), (6, 8)] σ σ'
noncomputable def wEnd (N : Ne) (bd : Nat → Nat) (P : Pr) (k : Nat) (s : SI) (w : Wk) : Wk := if wk_x (wS N bd P k s w 16) = true then wS N bd P k s w 16 else clo (wS N bd P k s w 16) k
set_option maxHeartbeats 1000000 in
theorem c_lookAt {σ : St} {N : Ne} {bd : Nat → Nat} {fs : Nat → Bool} {P : Pr} {w : Wk} {k : Nat} {s : SI} {a1 : Int32} {post : St → Prop} (hN : CN σ N) (hW : WN N) (hB : CB σ bd) (hWB : WB bd) (hP : CP σ N P) (hWP : WP N P) (ha : at_k N bd fs k s w) (h1 : a1 = nI k) (hx : wk_x w = false) (ho : opn w k = wk_m w) (hC : CW σ N w)
    (h : ∀ σ', frL σ σ' → CW σ' N (wEnd N bd P k s w) → post σ') : w_X9_lookAt σ a1 post := by
  have h250 := ha.1.1.2.1
  have hk := ha.2.2.1
  have m0 := ha.1.1.2.2
  unfold w_X9_lookAt
  refine nm_as (nI (wk_m w)) hC.1.2.1 (c_clocksInUse hN hW (fun r2 hr2 => nm_of ?_))
  refine jn_1 (fun σ6 => frL σ σ6 ∧ wk_x (wS N bd P k s w 16) = false ∧ CW σ6 N (wS N bd P k s w 16)) (fun J hJ => ?_) ?_
  rotate_left
  · rintro σ6 ⟨f6, x6, C6⟩
    have at16 := at_Z (P := P) hW ha 16 (Nat.le_refl _)
    have oe : opn (wS N bd P k s w 16) k = wk_m w := by
      rw [← ho]
      unfold opn
      rw [c_wS]
    have ol : wk_m w ≤ wk_m (wS N bd P k s w 16) := by
      rw [← oe]
      unfold opn
      by_cases y : k = 0
      · rw [if_pos y]; omega
      · rw [if_neg y]; exact (at16.2.1.2.1 (k - 1) (by omega)).2
    refine wr_at k h1 (by omega) (by decide) (fun σ7 t7 => nm_of ?_)
    rw [C6.1.2.1, pk_sub ol, ← oe] at t7
    have e66 : σ7.1 6 6 + 1 = nI (k + 1) := by rw [t7, upI_get, if_neg (by omega), C6.1.1, nI_1, at16.2.1.1]
    rw [e66]
    have e67 : (upI σ7 6 6 (nI (k + 1))).1 6 7 = nI (wk_m (wS N bd P k s w 16)) := by rw [upI_get, if_neg (by omega), t7, upI_get, if_neg (by omega), C6.1.2.1]
    unfold w_X10_close
    rw [e67]
    refine wr_at k h1 (by omega) (by decide) (fun σ10 t10 => ?_)
    have eq : σ10 = upI (upI (upI σ6 28 k (nI (wk_m (wS N bd P k s w 16) - opn (wS N bd P k s w 16) k))) 6 6 (nI (k + 1))) 34 k (nI (wk_m (wS N bd P k s w 16))) := by rw [t10, t7]
    refine h σ10 ?_ ?_
    · rw [eq]; exact fr_stepI (fr_stepI (fr_stepI f6 _ _ _ (by simp)) _ _ _ (by simp)) _ _ _ (by simp)
    · unfold wEnd
      rw [if_neg (by rw [x6]; decide)]
      exact CW_clo C6 at16.2.1.1 at16.2.2.1 eq
  refine lpE2_inv (I := fun y11 σ12 => ∃ set, 0 < set ∧ set ≤ 16 ∧ y11 = nI set ∧ frL σ σ12 ∧ wk_x (wS N bd P k s w set) = false ∧ CW σ12 N (wS N bd P k s w set)) (μ := fun y11 _ => 16 - y11.toNatClampNeg) ?_ 1 σ ⟨1, by omega, by omega, rfl, fr_rf, by rw [wS_1]; exact hx, by rw [wS_1]; exact hC⟩
  rintro rec y11 σ12 ⟨set, hs0, hs, rfl, f12, x12, C12⟩ hrec
  unfold w_X9_lookAt_L18
  refine br_le 16 set rfl rfl (by omega) (by omega) (fun q => hJ _ ⟨f12, by rw [show 16 = set by omega]; exact x12, by rw [show 16 = set by omega]; exact C12⟩) (fun q => ?_)
  have at12 := at_Z (P := P) hW ha set (by omega)
  have hk12 := at12.2.2.1
  have s12 := at12.1.1.2.1
  have es12 := at12.2.2.2
  have hsok : sok N bd s := by rw [← es12]; exact (at12.1.2.1 k hk12).1
  refine jn_1 (fun y16 => (okS N bd s set ∧ y16 = lN (tN (dg bd (thn set (sq_t s))) 16)) ∨ (¬ okS N bd s set ∧ y16 = -1)) (fun J15 hJ15 => ?_) ?_
  · refine br_2 (fun z => ?_) (fun z => hJ15 _ (Or.inr ⟨fun o => z ((setin q hr2).mpr o.2.1), rfl⟩))
    have z' := (setin q hr2).mp z
    refine rd_of k h1 (by omega) (by decide) ?_
    rw [(C12.2.1.2 k hk12).2.1, es12]
    have et : tN (sq_t s) 16 = tN (dg bd (sq_t s)) 16 := tN_cong (fun i hi => by
      show sq_t s i = if bd i = 0 then 0 else sq_t s i
      by_cases e : bd i = 0
      · rw [if_pos e]; exact hsok.2.1 i hi e
      · rw [if_neg e])
    rw [et]
    exact c_bbehind (CB_ag (fr_ag f12 (by decide)) hB) hWB hsok.2.2 rfl (fun can => hJ15 _ (Or.inl ⟨⟨hs0, z', can⟩, rfl⟩)) (fun nc => hJ15 _ (Or.inr ⟨fun o => nc o.2.2, rfl⟩))
  intro y16 hy16
  refine jn_1 (fun σ18 => frL σ σ18 ∧ CW σ18 N (wS N bd P k s w (set + 1))) (fun J17 hJ17 => ?_) ?_
  · rcases hy16 with ⟨ok, e⟩ | ⟨no, e⟩
    · have dn := dig_ne (dig_dg hWB (thn_TB ok.2.2))
      refine br_0 (fun z => ?_) ?_
      · rw [e] at z; exact dn ((lg_cmp_eq _ _).mp z)
      refine c_lookAtSet (fs := fs) (P := P) (CN_ag (fr_ag f12 (by decide)) hN) hW hWB (CP_ag (fr_ag f12 (by decide)) hP) hWP at12 h1 rfl e hs0 q ok.2.2 x12 C12 (fun σ23 f23 C23 => hJ17 _ ⟨fr_tr f12 (fr_mo f23 (by decide)), ?_⟩)
      rw [wS, if_neg (by rintro (y | y); rw [x12] at y; cases y; exact y ok)]
      exact C23
    · refine br_1 (by rw [e]; exact (lg_cmp_eq _ _).mpr rfl) (hJ17 _ ⟨f12, ?_⟩)
      rw [wS, if_pos (Or.inr no)]; exact C12
  rintro σ18 ⟨f18, C18⟩
  rw [C18.1.2.2]
  cases tx : wk_x (wS N bd P k s w (set + 1)) with
  | false => exact br_1 rfl (nm_of (hrec _ _ ⟨set + 1, by omega, q, nI_1 set, f18, tx, C18⟩ (by rw [nI_1, cl_nI (by omega), cl_nI (by omega)]; omega)))
  | true =>
    refine br_0 (by decide) (h _ f18 ?_)
    have e := wS_end tx (16 - (set + 1))
    rw [show set + 1 + (16 - (set + 1)) = 16 by omega] at e
    unfold wEnd
    rw [e, if_pos tx]; exact C18
theorem c_fill33 {σ : St} {post : St → Prop} (h : ∀ σ', fr [33] [] σ σ' → (∀ j, j < 4000 → σ'.2 33 j = 0) → post σ') : w_J7_fill_d0a16_33 σ 0 post := by
  unfold w_J7_fill_d0a16_33
  refine jn_at ?_
  refine lpE2_inv (I := fun y s => ∃ p, p ≤ 4000 ∧ y = nI p ∧ fr [33] [] σ s ∧ ∀ q, q < p → s.2 33 q = 0) (μ := fun y _ => 4000 - y.toNatClampNeg) ?_ 0 σ ⟨0, by omega, rfl, fr_rf, fun q hq => absurd hq (Nat.not_lt_zero q)⟩
  rintro rec y s ⟨p, hp, rfl, fs', z'⟩ hrec
  unfold w_J7_fill_d0a16_33_L6
  refine br_le 4000 p rfl rfl (by omega) (by omega) (fun q => h _ fs' (fun r hr => z' r (by omega))) (fun q => ?_)
  refine wrL_at p rfl q (by decide) (fun s' t' => nm_of (hrec _ _ ⟨p + 1, q, nI_1 p, by rw [t']; exact fr_stepJ fs' _ _ _ (by simp), fun r hr => ?_⟩ (by rw [nI_1, cl_nI (by omega), cl_nI (by omega)]; omega)))
  rw [t', upJ_get]
  by_cases y : r = p
  · rw [if_pos ⟨rfl, y⟩]
  · rw [if_neg (fun u => y u.2)]; exact z' r (by omega)
theorem c_fill31 {σ : St} {post : St → Prop} (h : ∀ σ', fr [31] [] σ σ' → (∀ j, j < 512 → σ'.1 31 j = 0) → post σ') : w_J7_fill_53178_31 σ 0 post := by
  unfold w_J7_fill_53178_31
  refine jn_at ?_
  refine lpE2_inv (I := fun y s => ∃ p, p ≤ 512 ∧ y = nI p ∧ fr [31] [] σ s ∧ ∀ q, q < p → s.1 31 q = 0) (μ := fun y _ => 512 - y.toNatClampNeg) ?_ 0 σ ⟨0, by omega, rfl, fr_rf, fun q hq => absurd hq (Nat.not_lt_zero q)⟩
  rintro rec y s ⟨p, hp, rfl, fs', z'⟩ hrec
  unfold w_J7_fill_53178_31_L5
  refine br_le 512 p rfl rfl (by omega) (by omega) (fun q => h _ fs' (fun r hr => z' r (by omega))) (fun q => ?_)
  refine wr_at p rfl q (by decide) (fun s' t' => nm_of (hrec _ _ ⟨p + 1, q, nI_1 p, by rw [t']; exact fr_stepI fs' _ _ _ (by simp), fun r hr => ?_⟩ (by rw [nI_1, cl_nI (by omega), cl_nI (by omega)]; omega)))
  rw [t', upI_get]
  by_cases y : r = p
  · rw [if_pos ⟨rfl, y⟩]
  · rw [if_neg (fun u => y u.2)]; exact z' r (by omega)
theorem c_fill30 {σ : St} {post : St → Prop} (h : ∀ σ', fr [30] [] σ σ' → (∀ j, j < 40 → σ'.1 30 j = -2) → post σ') : w_J7_fill_53178_30 σ (-2) post := by
  unfold w_J7_fill_53178_30
  refine jn_at ?_
  refine lpE2_inv (I := fun y s => ∃ p, p ≤ 40 ∧ y = nI p ∧ fr [30] [] σ s ∧ ∀ q, q < p → s.1 30 q = -2) (μ := fun y _ => 40 - y.toNatClampNeg) ?_ 0 σ ⟨0, by omega, rfl, fr_rf, fun q hq => absurd hq (Nat.not_lt_zero q)⟩
  rintro rec y s ⟨p, hp, rfl, fs', z'⟩ hrec
  unfold w_J7_fill_53178_30_L5
  refine br_le 40 p rfl rfl (by omega) (by omega) (fun q => h _ fs' (fun r hr => z' r (by omega))) (fun q => ?_)
  refine wr_at p rfl q (by decide) (fun s' t' => nm_of (hrec _ _ ⟨p + 1, q, nI_1 p, by rw [t']; exact fr_stepI fs' _ _ _ (by simp), fun r hr => ?_⟩ (by rw [nI_1, cl_nI (by omega), cl_nI (by omega)]; omega)))
  rw [t', upI_get]
  by_cases y : r = p
  · rw [if_pos ⟨rfl, y⟩]
  · rw [if_neg (fun u => y u.2)]; exact z' r (by omega)
theorem c_slot0 {σ : St} {a : Int32} {b : Int64} {post : Int32 → Prop} (hz : ∀ j, j < 512 → σ.1 31 j = 0) (h : post (nI (hsh a b))) : w_X9_slotOf σ a b post := by
  have hl := hsh_lt a b
  unfold w_X9_slotOf
  refine nm_of (nm_as (nI (hsh a b)) ?_ (jn_at ?_))
  · generalize hx : (b * (-7046029254386353131 : Int64) + a.toInt64) * (-2960836687051489901 : Int64) = x
    have e : hsh a b = x.toBitVec.toNat / 2 ^ 55 := by unfold hsh; rw [hx]
    have e2 : x = lN x.toBitVec.toNat := wb_inj (by rw [wb_tb]; simp)
    have e3 := wb_shr (n := x.toBitVec.toNat) (k := 55) x.toBitVec.isLt (by decide)
    rw [← e2] at e3
    rw [e, ← lN_i, ← e3]
    rfl
  refine lpE2_inv (I := fun y5 y6 => y5 = nI (hsh a b) ∧ y6 = 0) (μ := fun _ _ => 0) ?_ _ 0 ⟨rfl, rfl⟩
  rintro rec y5 y6 ⟨rfl, rfl⟩ hrec
  unfold w_X9_slotOf_L25
  refine br_0 (by decide) (rd_of (hsh a b) rfl hl (by decide) ?_)
  rw [hz _ hl]
  exact nm_of (br_1 (by decide) h)
theorem ct_none {p : Nat → Bool} {n : Nat} (h : ∀ j, j < n → p j = false) : fb_ct p n = 0 := fb_ct_zero.mpr h
abbrev frB (σ σ' : St) : Prop := fr [25, 26, 27, 28, 29, 30, 31, 33] [(6, 5), (6, 6), (6, 7), (6, 8), (7, 4)] σ σ'
theorem c_wbegin {σ : St} {N : Ne} {fs : Nat → Bool} {P : Pr} {post : St → Prop} (hN : CN σ N) (hW : WN N) (hF : CF σ N fs) (hP : CP σ N P) (hWP : WP N P)
    (h : ∀ σ', frB σ σ' → CW σ' N (wk0 N P fs) → σ'.1 7 4 = 0 → post σ') : w_X9_begin σ post := by
  unfold w_X9_begin
  refine c_forget (fun σ2 f2 U2 => ?_)
  unfold w_X10_clear
  refine nm_of ?_
  generalize t3 : upI σ2 7 4 0 = σ3
  have f3 : fr [] [(7, 4)] σ2 σ3 := by rw [← t3]; exact fr_I σ2 _ _ _ (by simp)
  have z3 : σ3.1 7 4 = 0 := by rw [← t3, upI_get, if_pos ⟨rfl, rfl⟩]
  clear t3
  refine c_fill33 (fun σ4 f4 z4 => c_fill31 (fun σ6 f6 z6 => c_fill30 (fun σ8 f8 z8 => ?_)))
  have F8 : frB σ σ8 := fr_tr (fr_mo f2 (by decide)) (fr_tr (fr_mo f3 (by decide)) (fr_tr (fr_mo f4 (by decide)) (fr_tr (fr_mo f6 (by decide)) (fr_mo f8 (by decide)))))
  have U8 : CU σ8 := by
    have a3 : ag [] [(6, 5), (6, 6), (6, 7), (6, 8)] σ2 σ3 := fr_ag f3 (by decide)
    have a4 : ag [] [(6, 5), (6, 6), (6, 7), (6, 8)] σ3 σ4 := fr_ag f4 (by decide)
    have a6 : ag [] [(6, 5), (6, 6), (6, 7), (6, 8)] σ4 σ6 := fr_ag f6 (by decide)
    have a8 : ag [] [(6, 5), (6, 6), (6, 7), (6, 8)] σ6 σ8 := fr_ag f8 (by decide)
    have e : ∀ i, (6, i) ∈ [(6, 5), (6, 6), (6, 7), (6, 8)] → σ8.1 6 i = σ2.1 6 i := fun i hi => by rw [(a8 6 i (Or.inr hi)).1, (a6 6 i (Or.inr hi)).1, (a4 6 i (Or.inr hi)).1, (a3 6 i (Or.inr hi)).1]
    unfold CU
    rw [e 5 (by simp), e 6 (by simp), e 7 (by simp), e 8 (by simp)]
    exact U2
  have m8 : σ8.1 7 4 = 0 := by
    have a4 : ag [] [(7, 4)] σ3 σ4 := fr_ag f4 (by decide)
    have a6 : ag [] [(7, 4)] σ4 σ6 := fr_ag f6 (by decide)
    have a8 : ag [] [(7, 4)] σ6 σ8 := fr_ag f8 (by decide)
    rw [(a8 7 4 (by simp)).1, (a6 7 4 (by simp)).1, (a4 7 4 (by simp)).1]; exact z3
  have w8 : ∀ j, j < 4000 → σ8.2 33 j = 0 := fun j hj => by
    have a6 : ag [33] [] σ4 σ6 := fr_ag f6 (by decide)
    have a8 : ag [33] [] σ6 σ8 := fr_ag f8 (by decide)
    rw [(a8 33 j (by simp)).2, (a6 33 j (by simp)).2]; exact z4 j hj
  have s8 : ∀ j, j < 512 → σ8.1 31 j = 0 := fun j hj => by
    have a8 : ag [31] [] σ6 σ8 := fr_ag f8 (by decide)
    rw [(a8 31 j (by simp)).1]; exact z6 j hj
  clear z6 z4 z3 f8 f6 f4 f3 f2 U2
  have pf : PM N (σ8.1 1 2) (fz N fs) := CF_ag (fr_ag F8 (by decide)) hF
  refine nm_of (c_slot0 s8 ?_)
  have hl := hsh_lt (σ8.1 1 2) 0
  refine c_addState (N := N) (w := ((0, 0, 0, false, fun _ => (fz N fs, fun _ => 0, 0, 0, 0, 0, 0), fun _ => 0, fun _ => (0, 0, 0), fun _ => (false, 0, 0, 0, 0, 0)) : Wk)) (w' := wk0 N P fs) (n := ((fz N fs, fun _ => 0, 0, 0, 0, 0, 0) : SI)) (d := 0) ⟨U8.1, fun k hk => absurd hk (Nat.not_lt_zero k)⟩ (fun k hk => absurd hk (Nat.not_lt_zero k)) ⟨fun j hj => Or.inl (s8 j hj), fun k hk => absurd hk (Nat.not_lt_zero k), ct_none (fun j hj => decide_eq_false (fun n => n (s8 j hj)))⟩ (show 0 < 250 by decide) (Nat.le_refl _) (by omega) (by rw [Nat.add_zero, Nat.mod_eq_of_lt hl]) (s8 _ (Nat.mod_lt _ (by decide))) (fun e he => absurd he (Nat.not_lt_zero e)) pf (by show (0 : Int64) = lN (tN (fun _ => 0) 16); rw [tN_zero (fun k _ => rfl)]; rfl) rfl rfl (fun j hj => absurd hj (Nat.not_lt_zero j)) rfl rfl rfl (fun σ13 f13 S13 F13 H13 _ => ?_)
  refine c_tell29 (t := 0) rfl (by decide) (fun σ15 f15 o15 n15 => ?_)
  have F15 : frB σ σ15 := fr_tr F8 (fr_tr (fr_mo f13 (by decide)) (fr_mo f15 (by decide)))
  have S15 := CWs_ag (fr_ag f15 (by decide)) S13
  have p0 : PM N (σ15.1 25 0) (fz N fs) := (S15.2 0 Nat.zero_lt_one).1
  have V15 : CVn σ15 (fun _ => (false, 0, 0, 0, 0, 0)) := fun p hp => by
    have a13 : ag [30] [] σ8 σ13 := fr_ag f13 (by decide)
    have a15 : ag [30] [] σ13 σ15 := fr_ag f15 (by decide)
    exact ⟨fun _ => by rw [(a15 30 _ (by simp)).1, (a13 30 _ (by simp)).1]; exact z8 _ (by omega), fun z => Bool.noConfusion z⟩
  refine c_judge (first := true) (f := -2) (vb := fz N fs) (vn := fz N fs) (set := 0) (inp := 0) (ots := 0) (to := 0) (CN_ag (fr_ag F15 (by decide)) hN) hW (CP_ag (fr_ag F15 (by decide)) hP) hWP V15 (fun p z => Bool.noConfusion z) (by decide) (Or.inr ⟨rfl, rfl, rfl, rfl⟩) rfl rfl rfl rfl p0 (fun σ17 f17 V17 => ?_)
  have a13 : ag [33] [(6, 6), (6, 7), (6, 8), (7, 4)] σ8 σ13 := fr_ag f13 (by decide)
  have a15 : ag [33] [(6, 6), (6, 7), (6, 8), (7, 4)] σ13 σ15 := fr_ag f15 (by decide)
  have a17 : ag [29, 33] [(6, 6), (6, 7), (6, 8), (7, 4)] σ15 σ17 := fr_ag f17 (by decide)
  refine h σ17 (fr_tr F15 (fr_mo f17 (by decide))) ⟨⟨?_, ?_, ?_⟩, CWs_ag (fr_ag f17 (by decide)) S15, fun k hk => ?_, CWf_ag (fr_ag f17 (by decide)) (CWf_ag (fr_ag f15 (by decide)) F13), CWh_ag (fr_ag f17 (by decide)) (CWh_ag (fr_ag f15 (by decide)) H13), fun m hm b hb => ?_, fun k hk => absurd hk (Nat.not_lt_zero k), V17⟩ ?_
  · rw [(a17 6 6 (by simp)).1, (a15 6 6 (by simp)).1, (a13 6 6 (by simp)).1]; exact U8.2.1
  · rw [(a17 6 7 (by simp)).1, (a15 6 7 (by simp)).1, (a13 6 7 (by simp)).1]; exact U8.2.2.1
  · rw [(a17 6 8 (by simp)).1, (a15 6 8 (by simp)).1, (a13 6 8 (by simp)).1]; exact U8.2.2.2
  · have hk : k < 1 := hk
    have k0 : k = 0 := by omega
    have e29 := fun i => (a17 29 i (by simp)).1
    rw [e29, e29, e29, e29, k0]
    exact ⟨n15.1, n15.2.1, n15.2.2.1, n15.2.2.2.1⟩
  · rw [(a17 33 _ (by simp)).2, (a15 33 _ (by simp)).2, (a13 33 _ (by simp)).2, w8 _ (by omega), z0_bit _ (by omega)]
    exact (if_neg (Nat.not_lt_zero m)).symm
  · rw [(a17 7 4 (by simp)).1, (a15 7 4 (by simp)).1, (a13 7 4 (by simp)).1]; exact m8
abbrev frK (σ σ' : St) : Prop := fr [25, 26, 27, 28, 29, 30, 31, 33, 34] [(4, 1), (4, 2), (4, 3), (4, 4), (4, 5), (4, 6), (6, 5), (6, 6), (6, 7), (6, 8), (7, 4)] σ σ'
set_option maxHeartbeats 1000000 in
theorem c_walk {σ : St} {N : Ne} {bd : Nat → Nat} {fs : Nat → Bool} {P : Pr} {post : Int32 → St → Prop} (hN : CN σ N) (hW : WN N) (hF : CF σ N fs) (hB : CB σ bd) (hWB : WB bd) (hP : CP σ N P) (hWP : WP N P) (hw : CU σ ∨ CW σ N (wAll N bd P fs))
    (h1 : nb N = 0 → post (-3) σ) (h2 : 0 < nb N → CW σ N (wAll N bd P fs) → post (if wk_x (wAll N bd P fs) = true then -2 - nI (wk_s (wAll N bd P fs)) else nI (wk_s (wAll N bd P fs))) σ) (h3 : 0 < nb N → CU σ → ∀ σ', frK σ σ' → CW σ' N (wAll N bd P fs) → σ'.1 7 4 = 0 → post (if wk_x (wAll N bd P fs) = true then -2 - nI (wk_s (wAll N bd P fs)) else nI (wk_s (wAll N bd P fs))) σ') : w_X11_walk σ post := by
  have h10 := nb10 hW
  unfold w_X11_walk
  refine br_eq (nb N) 0 hN.2.1 rfl (by omega) (by omega) (fun z => h1 z) (fun z => ?_)
  have fin : ∀ σ3, CW σ3 N (wAll N bd P fs) → post (if wk_x (wAll N bd P fs) = true then -2 - nI (wk_s (wAll N bd P fs)) else nI (wk_s (wAll N bd P fs))) σ3 → br ((σ3.1 6 8) = (0 : Int32)) (post (σ3.1 6 5) σ3) (post ((-2 : Int32) - (σ3.1 6 5)) σ3) := by
    intro σ3 C3 p3
    rw [C3.1.2.2, C3.2.1.1]
    cases tx : wk_x (wAll N bd P fs) with
    | false => rw [tx] at p3; exact br_1 rfl p3
    | true => rw [tx] at p3; exact br_0 (by decide) p3
  refine jn_at ?_
  rcases hw with U | C
  · refine br_1 U.1 (c_wbegin (fs := fs) hN hW hF hP hWP (fun σ7 f7 C7 m7 => ?_))
    refine lpE2_inv (I := fun y8 σ9 => ∃ k, k ≤ 250 ∧ y8 = nI k ∧ frK σ σ9 ∧ σ9.1 7 4 = 0 ∧ CW σ9 N (wK N bd P fs k)) (μ := fun y8 _ => 250 - y8.toNatClampNeg) ?_ 0 σ7 ⟨0, by omega, rfl, fr_mo f7 (by decide), m7, C7⟩
    clear C7 m7 f7 σ7
    rintro rec y8 σ9 ⟨k, hk, rfl, f9, m9, C9⟩ hrec
    have stop : (wk_x (wK N bd P fs k) = true ∨ wk_s (wK N bd P fs k) ≤ k) → br ((σ9.1 6 8) = (0 : Int32)) (post (σ9.1 6 5) σ9) (post ((-2 : Int32) - (σ9.1 6 5)) σ9) := fun q => by
      have e := wK_end q (250 - k)
      rw [show k + (250 - k) = 250 by omega] at e
      have C9' : CW σ9 N (wAll N bd P fs) := by unfold wAll; rw [e]; exact C9
      exact fin σ9 C9' (h3 (by omega) U σ9 f9 C9' m9)
    have atk := at_W (bd := bd) (P := P) (fs := fs) hW k
    have h250 := atk.1.1.2.1
    unfold w_X11_walk_L32
    refine br_le 250 k rfl rfl (by omega) (by omega) (fun q => stop (Or.inr (by omega))) (fun q => ?_)
    unfold w_X9_goesOn
    refine br_le (wk_s (wK N bd P fs k)) k C9.2.1.1 rfl (by omega) (by omega) (fun q2 => br_1 rfl (stop (Or.inr q2))) (fun q2 => ?_)
    rw [C9.1.2.2]
    cases tx : wk_x (wK N bd P fs k) with
    | true => exact br_0 (by decide) (br_1 rfl (stop (Or.inl tx)))
    | false =>
      refine br_1 rfl (br_0 (by decide) ?_)
      have ak := at_of atk tx q2
      have op := at_op (bd := bd) (P := P) (fs := fs) k tx (by omega)
      have cond : ¬ (wk_x (wK N bd P fs k) = true ∨ wk_s (wK N bd P fs k) ≤ k) := by rintro (y | y); rw [tx] at y; cases y; omega
      refine c_lookAt (fs := fs) (P := P) (CN_ag (fr_ag f9 (by decide)) hN) hW (CB_ag (fr_ag f9 (by decide)) hB) hWB (CP_ag (fr_ag f9 (by decide)) hP) hWP ak rfl tx op C9 (fun σ16 f16 C16 => nm_of (hrec _ _ ⟨k + 1, by omega, nI_1 k, fr_tr f9 (fr_mo f16 (by decide)), ?_, ?_⟩ (by rw [nI_1, cl_nI (by omega), cl_nI (by omega)]; omega)))
      · have a16 : ag [] [(7, 4)] σ9 σ16 := fr_ag f16 (by decide)
        rw [(a16 7 4 (by simp)).1]; exact m9
      · rw [wK, if_neg cond]; exact C16
  · have s0 := (all_W (bd := bd) (P := P) (fs := fs) hW).1.1
    exact br_0 (by rw [C.2.1.1]; exact nI_ne0 s0.1 (by omega)) (fin σ C (h2 (by omega) C))
