/-! BOTH SIDES TOGETHER -/
def RW (N : Ne) (bd : Nat → Nat) (P : Pr) (r : Ru) : Prop := WN N ∧ WB bd ∧ WP N P ∧ WR N r ∧ TB bd r.2.2.2.1
def RC (σ : St) (N : Ne) (fs sl : Nat → Bool) (bd : Nat → Nat) (P : Pr) (r : Ru) (b : Bool) : Prop := CN σ N ∧ CF σ N fs ∧ CS σ N sl ∧ CB σ bd ∧ CP σ N P ∧ CRu σ N bd r ∧ CX σ N (wNow N bd P fs b) b ∧ (b = true → CMz σ (wNow N bd P fs b))
def RM (τ : St) (N : Ne) (fs sl : Nat → Bool) (bd : Nat → Nat) (P : Pr) (r : Ru) (b : Bool) : Prop := NM τ N ∧ MF τ N fs ∧ MS τ N sl ∧ MB τ bd ∧ MP τ P.1 P.2.1 P.2.2.1 P.2.2.2 ∧ MRu τ N bd r ∧ MX τ N (wNow N bd P fs b) b
def REP (σ τ : St) : Prop := ∃ N fs sl bd P r b, RW N bd P r ∧ RC σ N fs sl bd P r b ∧ RM τ N fs sl bd P r b
abbrev agS (τ τ' : St) : Prop := ag [31, 32, 33, 34, 35] [] τ τ'
def RES (τ : St) (a a' : Int32) (σ' τ' : St) : Prop := a = a' ∧ REP σ' τ' ∧ agS τ τ'
theorem no_ix {a : Int32} {n j : Nat} (hn : n < 2 ^ 31) (h : ixI a n = none) (e : a = nI j) (hj : j < n) : False := by
  rw [e, ixI_nI hn hj] at h; cases h
theorem nI_one {a : Int32} {i j : Nat} (hi : i < 2 ^ 31) (hj : j < 2 ^ 31) (e : a = nI i) (e' : a = nI j) : j = i := (nI_eq hj hi).mp (by rw [← e', e])
theorem bI_one' {a : Int32} {f g : Bool} (e : a = bI f) (e' : a = bI g) : g = f := (bI_inj g f).mp (by rw [← e', e])
theorem RM_0 {τ τ' : St} {N : Ne} {fs sl : Nat → Bool} {bd : Nat → Nat} {P : Pr} {r : Ru} {b : Bool} (f : fr0 τ τ') (h : RM τ N fs sl bd P r b) : RM τ' N fs sl bd P r b := by
  obtain ⟨h1, h2, h3, h4, h5, h6, h7⟩ := h
  exact ⟨NM_ag (fr_ag f (by decide)) h1, MF_ag (fr_ag f (by decide)) h2, MS_ag (fr_ag f (by decide)) h3, MB_ag (fr_ag f (by decide)) h4, MP_ag (fr_ag f (by decide)) h5, MR_ag (fr_ag f (by decide)) h6, MX_ag (fr_ag f (by decide)) h7⟩
/-- an answer that changes nothing -/
theorem res0 {σ τ τ' : St} {N : Ne} {fs sl : Nat → Bool} {bd : Nat → Nat} {P : Pr} {r : Ru} {b : Bool} {v : Int32} (hw : RW N bd P r) (hc : RC σ N fs sl bd P r b) (hm : RM τ N fs sl bd P r b) (f : fr0 τ τ') : RES τ v v σ τ' := ⟨rfl, ⟨N, fs, sl, bd, P, r, b, hw, hc, RM_0 f hm⟩, fr_ag f (by decide)⟩
theorem WP_ext {N M : Ne} {P : Pr} (h : WP N P) (hn : nn N ≤ nn M) : WP M P := ⟨h.1, fun p hp => by
  obtain ⟨h1, h2, h3, h4⟩ := h.2 p hp
  exact ⟨h1, by omega, fun z => by have := h3 z; omega, h4⟩⟩
theorem CP_to {σ : St} {N M : Ne} {P : Pr} (h : CP σ N P) (hW : WP N P) (ht : ∀ (m : Int32) (x y : Nat), y < nn N → PM N m (fun c => decide (x ≤ c) && decide (c ≤ y)) → PM M m (fun c => decide (x ≤ c) && decide (c ≤ y))) : CP σ M P := ⟨h.1, fun p hp => by
  obtain ⟨h1, h2, h3, h4⟩ := h.2 p hp
  exact ⟨h1, h2, h3, fun z => ht _ _ _ ((hW.2 p hp).2.2.1 (by omega)) (h4 z)⟩⟩
theorem CP_addB {σ : St} {N : Ne} {P : Pr} {k c : Nat} (hk : 4 < k) (h : CP σ N P) (hW : WP N P) : CP σ (addB N k c) P := CP_to h hW (fun m x y hy p => PM_add0 hk p (fun _ _ _ => rfl) (by rw [decide_eq_false (show ¬ nn N ≤ y by omega), Bool.and_false]))
theorem CP_addG {σ : St} {N : Ne} {P : Pr} {k a b c : Nat} (hk : k ≤ 4) (h : CP σ N P) (hW : WP N P) : CP σ (addG N k a b c) P := CP_to h hW (fun m x y hy p => PM_addG hk p (fun _ _ _ => rfl))
theorem CP_con {σ : St} {N : Ne} {P : Pr} {k s : Nat} (h : CP σ N P) (hW : WP N P) : CP σ (conN N k s) P := CP_to h hW (fun m x y hy p => PM_kn rfl rfl p)
theorem CP_men {σ : St} {N : Ne} {P : Pr} {k : Nat} (h : CP σ N P) (hW : WP N P) : CP σ (menN N k) P := CP_to h hW (fun m x y hy p => by
  have q : PM (addB N 6 (nc N k)) m (fun c => decide (x ≤ c) && decide (c ≤ y)) := PM_add0 (by decide) p (fun _ _ _ => rfl) (by rw [decide_eq_false (show ¬ nn N ≤ y by omega), Bool.and_false])
  exact PM_kn rfl rfl q)
/-- the net or the bounds are new: the run is at the beginning, nothing was walked -/
theorem res1 {σ' τ τ' : St} {N : Ne} {fs sl : Nat → Bool} {bd : Nat → Nat} {P : Pr} {v : Int32} (hW : WN N) (hWB : WB bd) (hWP : WP N P) (c1 : CN σ' N) (c2 : CF σ' N fs) (c3 : CS σ' N sl) (c4 : CB σ' bd) (c5 : CP σ' N P) (c6 : CRu σ' N bd (run0 N fs)) (c7 : CU σ') (m1 : NM τ' N) (m2 : MF τ' N fs) (m3 : MS τ' N sl) (m4 : MB τ' bd) (m5 : MP τ' P.1 P.2.1 P.2.2.1 P.2.2.2) (m6 : MRu τ' N bd (run0 N fs)) (m7 : MU τ') (f : agS τ τ') : RES τ v v σ' τ' :=
  ⟨rfl, ⟨N, fs, sl, bd, P, run0 N fs, false, ⟨hW, hWB, hWP, WR_run0, TB_run0⟩, ⟨c1, c2, c3, c4, c5, c6, CX_U c7, fun z => Bool.noConfusion z⟩, ⟨m1, m2, m3, m4, m5, m6, MX_U m7⟩⟩, f⟩
theorem r_input {σ τ : St} {a : Int32} (h : REP σ τ) : w_X11_input σ a (fun v σ' => w_X12_input τ a (fun v' τ' => RES τ v v' σ' τ')) := by
  obtain ⟨N, fs, sl, bd, P, r, b, hw, hc, hm⟩ := h
  obtain ⟨hW, hWB, hWP, hWR, hT⟩ := id hw
  obtain ⟨c1, c2, c3, c4, c5, c6, c7, c8⟩ := id hc
  obtain ⟨m1, m2, m3, m4, m5, m6, m7⟩ := id hm
  refine c_input (bd := bd) c1 hW c2 c3 (fun z => ?_) (fun c ec hcl z => ?_) (fun c ec hcl z1 z2 σ' f d1 d2 d3 d4 d5 => ?_)
  · exact m_input (bd := bd) m1 hW m2 m3 (fun _ τ' f' => res0 hw hc hm f') (fun c e hl => (no_ix (by decide) z e hl).elim) (fun c e hl => (no_ix (by decide) z e hl).elim)
  · exact m_input (bd := bd) m1 hW m2 m3 (fun y => (no_ix (by decide) y ec hcl).elim) (fun _ _ _ _ τ' f' => res0 hw hc hm f') (fun _ _ _ y1 y2 => by omega)
  · refine m_input (bd := bd) m1 hW m2 m3 (fun y => (no_ix (by decide) y ec hcl).elim) (fun _ _ _ y => by omega) (fun c' e' hl' y1 y2 τ' f' n1 n2 n3 n4 n5 => ?_)
    have e := nI_one (by omega) (by omega) ec e'
    subst e
    exact res1 (WN_addB hW z1 z2 (Or.inl rfl) hcl) hWB (WP_ext hWP (Nat.le_succ _)) d1 d2 d3 (CB_ag (fr_ag f (by decide)) c4) (CP_addB (by decide) (CP_ag (fr_ag f (by decide)) c5) hWP) d4 d5 n1 n2 n3 (MB_ag (fr_ag f' (by decide)) m4) (MP_ag (fr_ag f' (by decide)) m5) n4 n5 (fr_ag f' (by decide))
theorem r_keeper {σ τ : St} {a a2 : Int32} (h : REP σ τ) : w_X11_keeper σ a a2 (fun v σ' => w_X12_keeper τ a a2 (fun v' τ' => RES τ v v' σ' τ')) := by
  obtain ⟨N, fs, sl, bd, P, r, b, hw, hc, hm⟩ := h
  obtain ⟨hW, hWB, hWP, hWR, hT⟩ := id hw
  obtain ⟨c1, c2, c3, c4, c5, c6, c7, c8⟩ := id hc
  obtain ⟨m1, m2, m3, m4, m5, m6, m7⟩ := id hm
  have nob : ∀ g : Bool, a2 = bI g → ixI a2 2 = none → False := fun g e z => by
    rw [e] at z; cases g <;> exact absurd z (by decide)
  refine c_keeper (bd := bd) c1 hW c2 c3 (fun z => ?_) (fun c g ec hcl eg z => ?_) (fun c g ec hcl eg z1 z2 σ' f d1 d2 d3 d4 d5 => ?_)
  · refine m_keeper (bd := bd) m1 hW m2 m3 (fun _ τ' f' => res0 hw hc hm f') (fun c g e hl eg => ?_) (fun c g e hl eg => ?_)
    · rcases z with z | z
      · exact (no_ix (by decide) z e hl).elim
      · exact (nob g eg z).elim
    · rcases z with z | z
      · exact (no_ix (by decide) z e hl).elim
      · exact (nob g eg z).elim
  · refine m_keeper (bd := bd) m1 hW m2 m3 (fun y => ?_) (fun _ _ _ _ _ _ τ' f' => res0 hw hc hm f') (fun _ _ _ _ _ y1 y2 => by omega)
    rcases y with y | y
    · exact (no_ix (by decide) y ec hcl).elim
    · exact (nob g eg y).elim
  · refine m_keeper (bd := bd) m1 hW m2 m3 (fun y => ?_) (fun _ _ _ _ _ y => by omega) (fun c' g' e' hl' eg' y1 y2 τ' f' n1 n2 n3 n4 n5 => ?_)
    · rcases y with y | y
      · exact (no_ix (by decide) y ec hcl).elim
      · exact (nob g eg y).elim
    have e := nI_one (by omega) (by omega) ec e'
    subst e
    have e2 := bI_one' eg eg'
    subst e2
    exact res1 (WN_addB hW z1 z2 (Or.inr rfl) hcl) hWB (WP_ext hWP (Nat.le_succ _)) d1 d2 d3 (CB_ag (fr_ag f (by decide)) c4) (CP_addB (by decide) (CP_ag (fr_ag f (by decide)) c5) hWP) d4 d5 n1 n2 n3 (MB_ag (fr_ag f' (by decide)) m4) (MP_ag (fr_ag f' (by decide)) m5) n4 n5 (fr_ag f' (by decide))
theorem r_gate {σ τ : St} {a1 a2 a3 a4 : Int32} (h : REP σ τ) : w_X11_gate σ a1 a2 a3 a4 (fun v σ' => w_X12_gate τ a1 a2 a3 a4 (fun v' τ' => RES τ v v' σ' τ')) := by
  obtain ⟨N, fs, sl, bd, P, r, b, hw, hc, hm⟩ := h
  obtain ⟨hW, hWB, hWP, hWR, hT⟩ := id hw
  obtain ⟨c1, c2, c3, c4, c5, c6, c7, c8⟩ := id hc
  obtain ⟨m1, m2, m3, m4, m5, m6, m7⟩ := id hm
  have h24 := hW.1
  have no : (ixI a1 5 = none ∨ ixI a2 (nn N) = none ∨ (a1 ≠ 3 ∧ ixI a3 (nn N) = none) ∨ (a1 = 4 ∧ ixI a4 (nn N) = none)) → ∀ k x y z : Nat, a1 = nI k → k ≤ 4 → a2 = nI x → x < nn N → (k ≠ 3 → a3 = nI y ∧ y < nn N) → (k = 4 → a4 = nI z ∧ z < nn N) → False := by
    intro hd k x y z e1 hk e2 hx hy hz
    rcases hd with q | q | ⟨q1, q⟩ | ⟨q1, q⟩
    · exact no_ix (by decide) q e1 (by omega)
    · exact no_ix (by omega) q e2 hx
    · have k3 : k ≠ 3 := fun e => q1 (by rw [e1, e]; rfl)
      exact no_ix (by omega) q (hy k3).1 (hy k3).2
    · have k4 : k = 4 := nI_one (a := a1) (i := 4) (by decide) (by omega) q1 e1
      exact no_ix (by omega) q (hz k4).1 (hz k4).2
  refine c_gate (bd := bd) c1 hW c2 c3 (fun q => ?_) (fun k x y z e1 hk e2 hx hy hz q => ?_) (fun k x y z e1 hk e2 hx hy hz y0 z0 q σ' f d1 d2 d3 d4 d5 => ?_)
  · exact m_gate (bd := bd) m1 hW m2 m3 (fun _ τ' f' => res0 hw hc hm f') (fun k x y z e1 hk e2 hx hy hz => (no q k x y z e1 hk e2 hx hy hz).elim) (fun k x y z e1 hk e2 hx hy hz => (no q k x y z e1 hk e2 hx hy hz).elim)
  · exact m_gate (bd := bd) m1 hW m2 m3 (fun p => (no p k x y z e1 hk e2 hx hy hz).elim) (fun _ _ _ _ _ _ _ _ _ _ _ τ' f' => res0 hw hc hm f') (fun _ _ _ _ _ _ _ _ _ _ _ _ p => by omega)
  · refine m_gate (bd := bd) m1 hW m2 m3 (fun p => (no p k x y z e1 hk e2 hx hy hz).elim) (fun _ _ _ _ _ _ _ _ _ _ p => by omega) (fun k' x' y' z' e1' hk' e2' hx' hy' hz' y0' z0' q' τ' f' n1 n2 n3 n4 n5 => ?_)
    have ek := nI_one (by omega) (by omega) e1 e1'
    subst ek
    have ex := nI_one (by omega) (by omega) e2 e2'
    subst ex
    have ey : y' = y := by
      by_cases u : k' = 3
      · rw [y0 u, y0' u]
      · have := (hy u).2
        have := (hy' u).2
        exact nI_one (by omega) (by omega) (hy u).1 (hy' u).1
    subst ey
    have ez : z' = z := by
      by_cases u : k' = 4
      · have := (hz u).2
        have := (hz' u).2
        exact nI_one (by omega) (by omega) (hz u).1 (hz' u).1
      · rw [z0 u, z0' u]
    subst ez
    exact res1 (WN_addG hW q hk hx (fun u => (hy u).2) (fun u => (hz u).2)) hWB (WP_ext hWP (Nat.le_succ _)) d1 d2 d3 (CB_ag (fr_ag f (by decide)) c4) (CP_addG hk (CP_ag (fr_ag f (by decide)) c5) hWP) d4 d5 n1 n2 n3 (MB_ag (fr_ag f' (by decide)) m4) (MP_ag (fr_ag f' (by decide)) m5) n4 n5 (fr_ag f' (by decide))
theorem r_connect {σ τ : St} {a a2 : Int32} (h : REP σ τ) : w_X11_connect σ a a2 (fun v σ' => w_X12_connect τ a a2 (fun v' τ' => RES τ v v' σ' τ')) := by
  obtain ⟨N, fs, sl, bd, P, r, b, hw, hc, hm⟩ := h
  obtain ⟨hW, hWB, hWP, hWR, hT⟩ := id hw
  obtain ⟨c1, c2, c3, c4, c5, c6, c7, c8⟩ := id hc
  obtain ⟨m1, m2, m3, m4, m5, m6, m7⟩ := id hm
  have h24 := hW.1
  refine c_connect (bd := bd) c1 hW c2 c3 (fun z => ?_) (fun k s ek hk h6 es hs σ' f d1 d2 d3 d4 d5 => ?_)
  · refine m_connect (bd := bd) m1 hW m2 (fun _ τ' f' => res0 hw hc hm f') (fun k s ek hk h6 es hs => ?_)
    rcases z with z | z
    · exact (z k ek hk h6).elim
    · exact (no_ix (by omega) z es hs).elim
  · refine m_connect (bd := bd) m1 hW m2 (fun z => ?_) (fun k' s' ek' hk' h6' es' hs' τ' f' n1 n2 n3 n4 n5 => ?_)
    · rcases z with z | z
      · exact (z k ek hk h6).elim
      · exact (no_ix (by omega) z es hs).elim
    have e := nI_one (by omega) (by omega) ek ek'
    subst e
    have e2 := nI_one (by omega) (by omega) es es'
    subst e2
    exact res1 (WN_con hW h6 hs) hWB hWP d1 d2 d3 (CB_ag (fr_ag f (by decide)) c4) (CP_con (CP_ag (fr_ag f (by decide)) c5) hWP) d4 d5 n1 n2 (n3 sl m3) (MB_ag (fr_ag f' (by decide)) m4) (MP_ag (fr_ag f' (by decide)) m5) n4 n5 (fr_ag f' (by decide))
theorem r_bound {σ τ : St} {a a2 a3 : Int32} (h : REP σ τ) : w_X11_bound σ a a2 a3 (fun v σ' => w_X12_bound τ a a2 a3 (fun v' τ' => RES τ v v' σ' τ')) := by
  obtain ⟨N, fs, sl, bd, P, r, b, hw, hc, hm⟩ := h
  obtain ⟨hW, hWB, hWP, hWR, hT⟩ := id hw
  obtain ⟨c1, c2, c3, c4, c5, c6, c7, c8⟩ := id hc
  obtain ⟨m1, m2, m3, m4, m5, m6, m7⟩ := id hm
  have no : (ixI a 4 = none ∨ ixI a2 4 = none ∨ a = a2 ∨ ixI a3 10 = none) → ∀ c d q : Nat, a = nI c → c < 4 → a2 = nI d → d < 4 → c ≠ d → a3 = nI q → q < 10 → False := by
    intro hd c d q e1 h1 e2 h2 ne e3 h3
    rcases hd with z | z | z | z
    · exact no_ix (by decide) z e1 h1
    · exact no_ix (by decide) z e2 h2
    · exact ne (nI_one (by omega) (by omega) e2 (by rw [← z]; exact e1))
    · exact no_ix (by decide) z e3 h3
  refine c_bound (bd := bd) c1 c2 c3 c4 (fun z => ?_) (fun c d q e1 h1 e2 h2 ne e3 h3 σ' f d1 d2 d3 d4 d5 d6 => ?_)
  · exact m_bound m1 hW m2 m4 (fun _ τ' f' => res0 hw hc hm f') (fun c d q e1 h1 e2 h2 ne e3 h3 => (no z c d q e1 h1 e2 h2 ne e3 h3).elim)
  · refine m_bound m1 hW m2 m4 (fun z => (no z c d q e1 h1 e2 h2 ne e3 h3).elim) (fun c' d' q' e1' h1' e2' h2' ne' e3' h3' τ' f' n1 n2 n3 n4 n5 n6 => ?_)
    have x1 := nI_one (by omega) (by omega) e1 e1'
    subst x1
    have x2 := nI_one (by omega) (by omega) e2 e2'
    subst x2
    have x3 := nI_one (by omega) (by omega) e3 e3'
    subst x3
    have WB' : WB (fu bd (4 * c' + d') q') := ⟨fun k hk => by
      by_cases u : k = 4 * c' + d'
      · rw [u, fu_s]; omega
      · rw [fu_n _ _ u]; exact hWB.1 k hk, fun i hi => by
      rw [fu_n _ _ (by omega)]; exact hWB.2 i hi⟩
    exact res1 hW WB' hWP d1 d2 d3 d4 (CP_ag (fr_ag f (by decide)) c5) d5 d6 n1 n2 (n3 sl m3) n4 (MP_ag (fr_ag f' (by decide)) m5) n5 n6 (fr_ag f' (by decide))
theorem r_still {σ τ : St} {a : Int32} {w : Bool} (h : REP σ τ) : w_X11_still σ a (bI w) (fun v σ' => w_X12_still τ a (bI w) (fun v' τ' => RES τ v v' σ' τ')) := by
  obtain ⟨N, fs, sl, bd, P, r, b, hw, hc, hm⟩ := h
  obtain ⟨hW, hWB, hWP, hWR, hT⟩ := id hw
  obtain ⟨c1, c2, c3, c4, c5, c6, c7, c8⟩ := id hc
  obtain ⟨m1, m2, m3, m4, m5, m6, m7⟩ := id hm
  have h24 := hW.1
  refine c_still (w := w) c1 hW c3 (fun z => ?_) (fun c ec hcl g σ' f d1 => ?_)
  · exact m_still (w := w) m1 hW m3 (fun _ τ' f' => res0 hw hc hm f') (fun c ec hcl g => by have := z c ec hcl; omega)
  · refine m_still (w := w) m1 hW m3 (fun z => by have := z c ec hcl; omega) (fun c' ec' hcl' g' τ' f' n1 => ?_)
    have e := nI_one (by omega) (by omega) ec ec'
    subst e
    exact ⟨rfl, ⟨N, fs, fu sl c' w, bd, P, r, b, hw, ⟨CN_ag (fr_ag f (by decide)) c1, CF_ag (fr_ag f (by decide)) c2, d1, CB_ag (fr_ag f (by decide)) c4, CP_ag (fr_ag f (by decide)) c5, CR_ag (fr_ag f (by decide)) c6, CX_ag (fr_ag f (by decide)) c7, fun z => CMz_ag (fr_ag f (by decide)) (c8 z)⟩, ⟨NM_ag (fr_ag f' (by decide)) m1, MF_ag (fr_ag f' (by decide)) m2, n1, MB_ag (fr_ag f' (by decide)) m4, MP_ag (fr_ag f' (by decide)) m5, MR_ag (fr_ag f' (by decide)) m6, MX_ag (fr_ag f' (by decide)) m7⟩⟩, fr_ag f' (by decide)⟩
theorem WP_add {N : Ne} {P : Pr} {k x y : Nat} (h : WP N P) (h8 : P.1 < 8) (hk : k < 4) (hx : x < nn N) (hy : k ≠ 0 → y < nn N) (hxy : k = 3 → x ≤ y) : WP N (addP P k x y) := by
  refine ⟨h8, fun p hp => ?_⟩
  have hp : p < P.1 + 1 := hp
  show fu P.2.1 P.1 k p ≤ 3 ∧ fu P.2.2.1 P.1 x p < nn N ∧ (fu P.2.1 P.1 k p ≠ 0 → fu P.2.2.2 P.1 y p < nn N) ∧ (fu P.2.1 P.1 k p = 3 → fu P.2.2.1 P.1 x p ≤ fu P.2.2.2 P.1 y p)
  by_cases u : p = P.1
  · rw [u, fu_s, fu_s, fu_s]
    exact ⟨by omega, hx, hy, hxy⟩
  · rw [fu_n _ _ u, fu_n _ _ u, fu_n _ _ u]
    exact h.2 p (by omega)
theorem r_promise {σ τ : St} {a a2 a3 : Int32} (h : REP σ τ) : w_X11_promise σ a a2 a3 (fun v σ' => w_X12_promise τ a a2 a3 (fun v' τ' => RES τ v v' σ' τ')) := by
  obtain ⟨N, fs, sl, bd, P, r, b, hw, hc, hm⟩ := h
  obtain ⟨hW, hWB, hWP, hWR, hT⟩ := id hw
  obtain ⟨c1, c2, c3, c4, c5, c6, c7, c8⟩ := id hc
  obtain ⟨m1, m2, m3, m4, m5, m6, m7⟩ := id hm
  have h24 := hW.1
  have no : (ixI a 4 = none ∨ ixI a2 (nn N) = none ∨ (a ≠ 0 ∧ ixI a3 (nn N) = none) ∨ (a = 3 ∧ ∃ x y, a2 = nI x ∧ a3 = nI y ∧ x < nn N ∧ y < nn N ∧ y < x)) → ∀ k x y : Nat, a = nI k → k < 4 → a2 = nI x → x < nn N → (k ≠ 0 → a3 = nI y ∧ y < nn N) → (k = 3 → x ≤ y) → False := by
    intro hd k x y e1 hk e2 hx hy hxy
    rcases hd with q | q | ⟨q1, q⟩ | ⟨q1, x', y', ex, ey, hx', hy', lt⟩
    · exact no_ix (by decide) q e1 hk
    · exact no_ix (by omega) q e2 hx
    · have k0 : k ≠ 0 := fun e => q1 (by rw [e1, e]; rfl)
      exact no_ix (by omega) q (hy k0).1 (hy k0).2
    · have k3 : k = 3 := nI_one (a := a) (i := 3) (by decide) (by omega) q1 e1
      have := hxy k3
      have hy2 := hy (by omega)
      have u1 := nI_one (by omega) (by omega) e2 ex
      have := hy2.2
      have u2 := nI_one (by omega) (by omega) hy2.1 ey
      omega
  refine c_promise c1 hW c5 hWP (fun z => ?_) (fun k x y e1 hk e2 hx hy hxy z => ?_) (fun k x y e1 hk e2 hx hy hxy y0 z σ' f d1 d2 => ?_)
  · exact m_promise m1 hW m5 hWP (fun _ τ' f' => res0 hw hc hm f') (fun k x y e1 hk e2 hx hy hxy => (no z k x y e1 hk e2 hx hy hxy).elim) (fun k x y e1 hk e2 hx hy hxy => (no z k x y e1 hk e2 hx hy hxy).elim)
  · exact m_promise m1 hW m5 hWP (fun p => (no p k x y e1 hk e2 hx hy hxy).elim) (fun _ _ _ _ _ _ _ _ _ _ τ' f' => res0 hw hc hm f') (fun _ _ _ _ _ _ _ _ _ _ p => by omega)
  · refine m_promise m1 hW m5 hWP (fun p => (no p k x y e1 hk e2 hx hy hxy).elim) (fun _ _ _ _ _ _ _ _ _ p => by omega) (fun k' x' y' e1' hk' e2' hx' hy' hxy' y0' z' τ' f' n1 n2 => ?_)
    have ek := nI_one (by omega) (by omega) e1 e1'
    subst ek
    have ex := nI_one (by omega) (by omega) e2 e2'
    subst ex
    have ey : y' = y := by
      by_cases u : k' = 0
      · rw [y0 u, y0' u]
      · have := (hy u).2
        have := (hy' u).2
        exact nI_one (by omega) (by omega) (hy u).1 (hy' u).1
    subst ey
    exact ⟨rfl, ⟨N, fs, sl, bd, addP P k' x' y', r, false, ⟨hW, hWB, WP_add hWP z hk hx (fun u => (hy u).2) hxy, hWR, hT⟩, ⟨CN_ag (fr_ag f (by decide)) c1, CF_ag (fr_ag f (by decide)) c2, CS_ag (fr_ag f (by decide)) c3, CB_ag (fr_ag f (by decide)) c4, d1, CR_ag (fr_ag f (by decide)) c6, CX_U d2, fun q => Bool.noConfusion q⟩, ⟨NM_ag (fr_ag f' (by decide)) m1, MF_ag (fr_ag f' (by decide)) m2, MS_ag (fr_ag f' (by decide)) m3, MB_ag (fr_ag f' (by decide)) m4, n1, MR_ag (fr_ag f' (by decide)) m6, MX_U n2⟩⟩, fr_ag f' (by decide)⟩
/-- the run alone is new -/
theorem res2 {σ σ' τ τ' : St} {N : Ne} {fs sl : Nat → Bool} {bd : Nat → Nat} {P : Pr} {r r' : Ru} {b : Bool} {v : Int32} (hw : RW N bd P r) (hc : RC σ N fs sl bd P r b) (hm : RM τ N fs sl bd P r b) (hWR : WR N r') (hT : TB bd r'.2.2.2.1) (f : fr [23, 24, 32] [(4, 1), (4, 2), (4, 3), (4, 4), (4, 5), (4, 6), (5, 3), (5, 4), (5, 5)] σ σ') (f' : frG τ τ') (hR : CRu σ' N bd r') (hR' : MRu τ' N bd r') : RES τ v v σ' τ' := by
  obtain ⟨hW, hWB, hWP, -, -⟩ := hw
  obtain ⟨c1, c2, c3, c4, c5, -, c7, c8⟩ := hc
  obtain ⟨m1, m2, m3, m4, m5, -, m7⟩ := hm
  exact ⟨rfl, ⟨N, fs, sl, bd, P, r', b, ⟨hW, hWB, hWP, hWR, hT⟩, ⟨CN_ag (fr_ag f (by decide)) c1, CF_ag (fr_ag f (by decide)) c2, CS_ag (fr_ag f (by decide)) c3, CB_ag (fr_ag f (by decide)) c4, CP_ag (fr_ag f (by decide)) c5, hR, CX_ag (fr_ag f (by decide)) c7, fun z => CMz_ag (fr_ag f (by decide)) (c8 z)⟩, ⟨NM_ag (fr_ag f' (by decide)) m1, MF_ag (fr_ag f' (by decide)) m2, MS_ag (fr_ag f' (by decide)) m3, MB_ag (fr_ag f' (by decide)) m4, MP_ag (fr_ag f' (by decide)) m5, hR', MX_ag (fr_ag f' (by decide)) m7⟩⟩, fr_ag f' (by decide)⟩
theorem r_start {σ τ : St} (h : REP σ τ) : w_X11_start σ (fun v σ' => w_X12_start τ (fun v' τ' => RES τ v v' σ' τ')) := by
  obtain ⟨N, fs, sl, bd, P, r, b, hw, hc, hm⟩ := h
  obtain ⟨c1, c2, c3, c4, c5, c6, c7, c8⟩ := id hc
  obtain ⟨m1, m2, m3, m4, m5, m6, m7⟩ := id hm
  exact c_start c2 c6 (fun σ' f d => m_start m1 hw.1 m2 m6 (fun τ' f' n => res2 hw hc hm WR_run0 TB_run0 (fr_mo f (by decide)) (fr_mo f' (by decide)) d n))
theorem r_moment {σ τ : St} {a a2 a3 : Int32} (h : REP σ τ) : w_X11_moment σ a a2 a3 (fun v σ' => w_X12_moment τ a a2 a3 (fun v' τ' => RES τ v v' σ' τ')) := by
  obtain ⟨N, fs, sl, bd, P, r, b, hw, hc, hm⟩ := h
  obtain ⟨hW, hWB, hWP, hWR, hT⟩ := id hw
  obtain ⟨c1, c2, c3, c4, c5, c6, c7, c8⟩ := id hc
  obtain ⟨m1, m2, m3, m4, m5, m6, m7⟩ := id hm
  have no : ((∀ j, a = nI j → 0 < j → j < 16 → False) ∨ a2 < 0 ∨ a3 < 0) → ∀ st inp ots : Nat, a = nI st → 0 < st → st < 16 → a2 = nI inp → inp < 2 ^ 31 → a3 = nI ots → ots < 2 ^ 31 → False := by
    intro hd st inp ots e1 s0 s16 e2 i31 e3 o31
    rcases hd with q | q | q
    · exact q st e1 s0 s16
    · rw [e2] at q; exact nI_pos i31 q
    · rw [e3] at q; exact nI_pos o31 q
  refine c_moment c1 hW c4 hWB c6 hT hWR.1 (fun z => ?_) (fun st inp ots e1 s0 s16 e2 i31 e3 o31 nc => ?_) (fun st inp ots e1 s0 s16 e2 i31 e3 o31 can m60 => ?_) (fun st inp ots e1 s0 s16 e2 i31 e3 o31 can m60 σ' f d => ?_)
  · exact m_moment m1 hW m4 hWB.1 m6 hWR (fun _ τ' f' => res0 hw hc hm f') (fun st inp ots e1 s0 s16 e2 i31 e3 o31 => (no z st inp ots e1 s0 s16 e2 i31 e3 o31).elim) (fun st inp ots e1 s0 s16 e2 i31 e3 o31 => (no z st inp ots e1 s0 s16 e2 i31 e3 o31).elim) (fun st inp ots e1 s0 s16 e2 i31 e3 o31 => (no z st inp ots e1 s0 s16 e2 i31 e3 o31).elim)
  · refine m_moment m1 hW m4 hWB.1 m6 hWR (fun z => (no z st inp ots e1 s0 s16 e2 i31 e3 o31).elim) (fun _ _ _ _ _ _ _ _ _ _ _ τ' f' => res0 hw hc hm f') (fun st' inp' ots' e1' _ _ _ _ _ _ can => ?_) (fun st' inp' ots' e1' _ _ _ _ _ _ can => ?_)
    · rw [nI_one (by omega) (by omega) e1 e1'] at can; exact absurd can nc
    · rw [nI_one (by omega) (by omega) e1 e1'] at can; exact absurd can nc
  · refine m_moment m1 hW m4 hWB.1 m6 hWR (fun z => (no z st inp ots e1 s0 s16 e2 i31 e3 o31).elim) (fun st' inp' ots' e1' _ _ _ _ _ _ nc => ?_) (fun _ _ _ _ _ _ _ _ _ _ _ _ τ' f' => res0 hw hc hm f') (fun _ _ _ _ _ _ _ _ _ _ _ q => by omega)
    rw [nI_one (by omega) (by omega) e1 e1'] at nc; exact absurd can nc
  · refine m_moment m1 hW m4 hWB.1 m6 hWR (fun z => (no z st inp ots e1 s0 s16 e2 i31 e3 o31).elim) (fun st' inp' ots' e1' _ _ _ _ _ _ nc => ?_) (fun _ _ _ _ _ _ _ _ _ _ _ q => by omega) (fun st' inp' ots' e1' s0' s16' e2' i31' e3' o31' can' _ τ' f' n => ?_)
    · rw [nI_one (by omega) (by omega) e1 e1'] at nc; exact absurd can nc
    have x1 := nI_one (by omega) (by omega) e1 e1'
    subst x1
    have x2 := nI_one i31 i31' e2 e2'
    subst x2
    have x3 := nI_one o31 o31' e3 e3'
    subst x3
    exact res2 hw hc hm (WR_runS hWR m60 _ _ _) (thn_TB can) (fr_mo f (by decide)) f' d n
theorem r_value {σ τ : St} {a : Int32} (h : REP σ τ) : w_X11_value σ a (fun v => w_X12_value τ a (fun v' τ' => RES τ v v' σ τ')) := by
  obtain ⟨N, fs, sl, bd, P, r, b, hw, hc, hm⟩ := h
  obtain ⟨hW, hWB, hWP, hWR, hT⟩ := id hw
  have h24 := hW.1
  refine c_value hc.1 hW hc.2.2.2.2.2.1 hWR.1 (fun z => ?_) (fun c ec hcl => ?_)
  · exact m_value hm.1 hW hm.2.2.2.2.2.1 hWR (fun _ τ' f' => res0 hw hc hm f') (fun c e hl => (no_ix (by omega) z e hl).elim)
  · refine m_value hm.1 hW hm.2.2.2.2.2.1 hWR (fun z => (no_ix (by omega) z ec hcl).elim) (fun c' e hl τ' f' => ?_)
    rw [nI_one (by omega) (by omega) ec e]
    exact res0 hw hc hm f'
theorem r_either {σ τ : St} {a : Int32} (h : REP σ τ) : w_X11_either σ a (fun v => w_X12_either τ a (fun v' τ' => RES τ v v' σ τ')) := by
  obtain ⟨N, fs, sl, bd, P, r, b, hw, hc, hm⟩ := h
  obtain ⟨hW, hWB, hWP, hWR, hT⟩ := id hw
  have h24 := hW.1
  have l := fb_ct_le r.2.2.2.2 (nn N)
  have lt : ∀ c, c < nn N → r.2.2.2.2 c = true → fb_ct r.2.2.2.2 c < fb_ct r.2.2.2.2 (nn N) := fun c hcl he => by
    have e1 : fb_ct r.2.2.2.2 (c + 1) = fb_ct r.2.2.2.2 c + 1 := by rw [fb_ct_succ, he]; rfl
    have := fb_ct_mono r.2.2.2.2 (show c + 1 ≤ nn N from hcl)
    omega
  refine c_either hc.1 hW hc.2.2.2.2.2.1 hWR.2.2.2 (fun z => ?_) (fun c ec hcl he => ?_)
  · exact m_either hW hm.2.2.2.2.2.1 hWR (fun _ τ' f' => res0 hw hc hm f') (fun c e hl he => (no_ix (by omega) z e (lt c hl he)).elim)
  · refine m_either hW hm.2.2.2.2.2.1 hWR (fun z => (no_ix (by omega) z ec (lt c hcl he)).elim) (fun c' e hl he' τ' f' => ?_)
    have l1 := lt c hcl he
    have l2 := lt c' hl he'
    rw [fb_ct_kth_one he' he (nI_one (by omega) (by omega) ec e)]
    exact res0 hw hc hm f'
theorem r_ticks {σ τ : St} {a a2 : Int32} (h : REP σ τ) : w_X11_ticks σ a a2 (fun v => w_X12_ticks τ a a2 (fun v' τ' => RES τ v v' σ τ')) := by
  obtain ⟨N, fs, sl, bd, P, r, b, hw, hc, hm⟩ := h
  obtain ⟨hW, hWB, hWP, hWR, hT⟩ := id hw
  have no : (ixI a 4 = none ∨ ixI a2 4 = none ∨ a = a2) → ∀ c d : Nat, a = nI c → c < 4 → a2 = nI d → d < 4 → c ≠ d → False := by
    intro hd c d e1 h1 e2 h2 ne
    rcases hd with z | z | z
    · exact no_ix (by decide) z e1 h1
    · exact no_ix (by decide) z e2 h2
    · exact ne (nI_one (by omega) (by omega) e2 (by rw [← z]; exact e1))
  refine c_ticks hWB hc.2.2.2.2.2.1 hT (fun z => ?_) (fun c d e1 h1 e2 h2 ne => ?_)
  · exact m_ticks hm.2.2.2.1 hWB.1 hm.2.2.2.2.2.1 (fun _ τ' f' => res0 hw hc hm f') (fun c d e1 h1 e2 h2 ne => (no z c d e1 h1 e2 h2 ne).elim)
  · refine m_ticks hm.2.2.2.1 hWB.1 hm.2.2.2.2.2.1 (fun z => (no z c d e1 h1 e2 h2 ne).elim) (fun c' d' e1' h1' e2' h2' ne' τ' f' => ?_)
    rw [nI_one (by omega) (by omega) e1 e1', nI_one (by omega) (by omega) e2 e2']
    exact res0 hw hc hm f'
theorem r_broken {σ τ : St} {a : Int32} (h : REP σ τ) : w_X11_broken σ a (fun v => w_X12_broken τ a (fun v' τ' => RES τ v v' σ τ')) := by
  obtain ⟨N, fs, sl, bd, P, r, b, hw, hc, hm⟩ := h
  obtain ⟨hW, hWB, hWP, hWR, hT⟩ := id hw
  have h8 := hWP.1
  refine c_broken hc.1 hW hc.2.2.2.2.1 hWP hc.2.2.2.2.2.1 hWR.1 (fun z => ?_) (fun p ep hp k => ?_) (fun p i ep hp hi k1 k2 => ?_)
  · exact m_broken hm.1 hW hm.2.2.2.2.1 hWP hm.2.2.2.2.2.1 hWR (fun _ τ' f' => res0 hw hc hm f') (fun p e hp => (no_ix (by omega) z e hp).elim) (fun p i e hp => (no_ix (by omega) z e hp).elim)
  · refine m_broken hm.1 hW hm.2.2.2.2.1 hWP hm.2.2.2.2.2.1 hWR (fun z => (no_ix (by omega) z ep hp).elim) (fun _ _ _ _ τ' f' => res0 hw hc hm f') (fun p' i' e hp' hi' k1' => ?_)
    rw [nI_one (by omega) (by omega) ep e, k i' hi'] at k1'; cases k1'
  · refine m_broken hm.1 hW hm.2.2.2.2.1 hWP hm.2.2.2.2.2.1 hWR (fun z => (no_ix (by omega) z ep hp).elim) (fun p' e hp' k => ?_) (fun p' i' e hp' hi' k1' k2' τ' f' => ?_)
    · have := k i hi
      rw [nI_one (by omega) (by omega) ep e, k1] at this; cases this
    · have pe := nI_one (by omega) (by omega) ep e
      subst pe
      have ie : i' = i := by
        rcases Nat.lt_trichotomy i' i with q | q | q
        · rw [k2 i' q] at k1'; cases k1'
        · exact q
        · rw [k2' i q] at k1; cases k1
      rw [ie]
      exact res0 hw hc hm f'
