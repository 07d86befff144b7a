/-! THE REFERENCE: broken, promise, start, value, either, ticks, look -/
/-- promise p holds behind moment i of a run -/
def kepR (N : Ne) (P : Pr) (r : Ru) (p i : Nat) : Bool := kep N (P.2.1 p) (P.2.2.1 p) (P.2.2.2 p) (r.2.1 (i - 1)) (r.2.1 i) (decide (i = 0))
theorem m_broken {σ : St} {N : Ne} {P : Pr} {bd : Nat → Nat} {r : Ru} {a : Int32} {post : Int32 → St → Prop} (hN : NM σ N) (hW : WN N) (hP : MP σ P.1 P.2.1 P.2.2.1 P.2.2.2) (hWP : WP N P) (hR : MRu σ N bd r) (hWR : WR N r)
    (h1 : ixI a P.1 = none → ∀ σ', fr0 σ σ' → post (-1) σ')
    (h2 : ∀ p, a = nI p → p < P.1 → (∀ i, i ≤ r.1 → kepR N P r p i = true) → ∀ σ', fr0 σ σ' → post (-2) σ')
    (h3 : ∀ p i, a = nI p → p < P.1 → i ≤ r.1 → kepR N P r p i = false → (∀ j, j < i → kepR N P r p j = true) → ∀ σ', fr0 σ σ' → post (nI i) σ') : w_X12_broken σ a post := by
  have h8 := hWP.1
  unfold w_X12_broken
  refine nm_of ?_
  have f1 := fr0_up σ
  generalize upI σ 0 0 0 = σ1 at f1
  have N1 := NM_ag (fr_ag f1 (by decide)) hN
  have P1 := MP_ag (fr_ag f1 (by decide)) hP
  have R1 : MRu σ1 N bd r := MR_ag (fr_ag f1 (by decide)) hR
  obtain ⟨w1, w2, w3, w4⟩ := hWR
  rcases ix1 (a := a) (n := P.1) (by omega) with g | ⟨p, ep, hp, -⟩
  · refine br_2 (fun _ => h1 g σ1 f1) (fun q => ?_)
    rw [P1.1]
    refine br_0 (fun z => ?_) (h1 g σ1 f1)
    rcases ixI_none (by omega) g with e | e
    · exact q e
    · exact (fa_of_lt z).2.1 e
  refine br_0 (by rw [ep]; exact nI_pos (by omega)) ?_
  refine br_lt p P.1 ep P1.1 (by omega) (by omega) (fun _ => ?_) (fun z => absurd z (by omega))
  refine jn_at ?_
  refine lpE1_inv (I := fun y5 => ∃ i, i ≤ r.1 + 1 ∧ y5 = nI i ∧ ∀ j, j < i → kepR N P r p j = true) (μ := fun y5 => r.1 + 1 - y5.toNatClampNeg) ?_ 0 ⟨0, by omega, rfl, fun j hj => absurd hj (Nat.not_lt_zero j)⟩
  rintro rec y5 ⟨i, hi, rfl, hall⟩ hrec
  unfold w_X12_broken_L21
  refine br_lt r.1 i R1.1 rfl (by omega) (by omega) (fun q => h2 p ep hp (fun j hj => hall j (by omega)) σ1 f1) (fun q => ?_)
  refine jn_1 (fun y9 => decide (i = 0) = false → ∀ c, c < nn N → 4 < nk N c → bt y9 c = r.2.1 (i - 1) c) (fun J hJ => ?_) ?_
  · refine br_eq i 0 rfl rfl (by omega) (by omega) (fun e => hJ _ (fun z => by rw [e] at z; exact absurd z (by decide))) (fun e => ?_)
    have e1 : nI i - 1 = nI (i - 1) := by rw [show i = (i - 1) + 1 by omega]; exact nI_pred (i - 1)
    refine rd_of (i - 1) e1 (by omega) (by decide) (hJ _ (fun _ c hc g4 => ?_))
    rw [R1.2.1 (i - 1) (by omega) c, EV_bit N _ g4]
  intro y9 h9
  refine rd_of i rfl (by omega) (by decide) ?_
  refine jn_1 (fun y12 => y12 = bI (decide (i = 0))) (fun J hJ => br_eq i 0 rfl rfl (by omega) (by omega) (fun e => hJ _ (by rw [decide_eq_true e]; rfl)) (fun e => hJ _ (by rw [decide_eq_false e]; rfl))) ?_
  rintro y12 rfl
  refine m_isKept (vb := r.2.1 (i - 1)) (vn := r.2.1 i) N1 hW P1 hWP ep hp h9 (fun c _ => R1.2.1 i (by omega) c) rfl ?_
  show br (bI (kepR N P r p i) = 0) _ _
  cases hk : kepR N P r p i with
  | false => exact br_1 rfl (h3 p i ep hp (by omega) hk hall σ1 f1)
  | true =>
    refine br_0 (by decide) (nm_of (hrec _ ⟨i + 1, by omega, nI_1 i, fun j hj => ?_⟩ ?_))
    · rcases (show j < i ∨ j = i by omega) with z | z
      · exact hall j z
      · rw [z]; exact hk
    · rw [nI_1, cl_nI (by omega), cl_nI (by omega)]; omega
abbrev frU (σ σ' : St) : Prop := fr [9, 10, 11] [(0, 0), (0, 11), (0, 25), (0, 26), (0, 27), (0, 28), (0, 29), (0, 38)] σ σ'
def addP (P : Pr) (k x y : Nat) : Pr := (P.1 + 1, fu P.2.1 P.1 k, fu P.2.2.1 P.1 x, fu P.2.2.2 P.1 y)
set_option maxHeartbeats 1000000 in
theorem m_promise {σ : St} {N : Ne} {P : Pr} {a b c : Int32} {post : Int32 → St → Prop} (hN : NM σ N) (hW : WN N) (hP : MP σ P.1 P.2.1 P.2.2.1 P.2.2.2) (hWP : WP N P)
    (h1 : ixI a 4 = none ∨ ixI b (nn N) = none ∨ (a ≠ 0 ∧ ixI c (nn N) = none) ∨ (a = 3 ∧ ∃ x y, b = nI x ∧ c = nI y ∧ x < nn N ∧ y < nn N ∧ y < x) → ∀ σ', fr0 σ σ' → post (-1) σ')
    (h2 : ∀ k x y, a = nI k → k < 4 → b = nI x → x < nn N → (k ≠ 0 → c = nI y ∧ y < nn N) → (k = 3 → x ≤ y) → P.1 = 8 → ∀ σ', fr0 σ σ' → post (-2) σ')
    (h3 : ∀ k x y, a = nI k → k < 4 → b = nI x → x < nn N → (k ≠ 0 → c = nI y ∧ y < nn N) → (k = 3 → x ≤ y) → (k = 0 → y = x) → P.1 < 8 → ∀ σ', frU σ σ' → MP σ' (addP P k x y).1 (addP P k x y).2.1 (addP P k x y).2.2.1 (addP P k x y).2.2.2 → MU σ' → post (nI P.1) σ') : w_X12_promise σ a b c post := by
  have h24 := hW.1
  have h8 := hWP.1
  unfold w_X12_promise
  refine nm_of ?_
  have f1 := fr0_up σ
  generalize upI σ 0 0 0 = σ1 at f1
  have N1 := NM_ag (fr_ag f1 (by decide)) hN
  have P1 := MP_ag (fr_ag f1 (by decide)) hP
  refine w_in0 4 (by decide) (by decide) (by decide) (fun g => br_1 rfl (h1 (Or.inl g) σ1 f1)) (fun k ek hk => br_0 (by decide) ?_)
  refine m_isCell N1.1 hW (fun g => br_1 rfl (h1 (Or.inr (Or.inl g)) σ1 f1)) (fun x ex hx => br_0 (by decide) ?_)
  refine jn_0 (∃ y, (k ≠ 0 → c = nI y ∧ y < nn N) ∧ (k = 0 → y = x)) (fun J8 hJ8 => ?_) ?_
  · refine br_le k 0 ek rfl (by omega) (by omega) (fun q => hJ8 ⟨x, fun z => absurd (by omega) z, fun _ => rfl⟩) (fun q => ?_)
    refine m_isCell N1.1 hW (fun g => br_1 rfl (h1 (Or.inr (Or.inr (Or.inl ⟨fun z => ?_, g⟩))) σ1 f1)) (fun y ey hy => br_0 (by decide) (hJ8 ⟨y, fun _ => ⟨ey, hy⟩, fun z => absurd z (by omega)⟩))
    rw [ek] at z
    have := (nI_eq (b := 0) (by omega) (by omega)).mp z
    omega
  rintro ⟨y, hy, hy0⟩
  refine jn_0 (k = 3 → x ≤ y) (fun J9 hJ9 => ?_) (fun hxy => ?_)
  · refine br_eq k 3 ek rfl (by omega) (by omega) (fun q => ?_) (fun q => hJ9 (fun z => absurd z q))
    obtain ⟨ey, hyl⟩ := hy (by omega)
    refine br_le x y ex ey (by omega) (by omega) (fun g => hJ9 (fun _ => g)) (fun g => h1 (Or.inr (Or.inr (Or.inr ⟨by rw [ek, q]; rfl, x, y, ex, ey, hx, hyl, g⟩))) σ1 f1)
  refine br_eq P.1 8 P1.1 rfl (by omega) (by omega) (fun q => h2 k x y ek hk ex hx hy hxy q σ1 f1) (fun q => ?_)
  have h0 : ∀ {τ : St} {k0 j0 : Nat} {v0 : Int32}, k0 ≠ 0 → (upI τ k0 j0 v0).1 0 11 = τ.1 0 11 := fun {τ k0 j0 v0} h => by rw [upI_get, if_neg (fun q => h q.1.symm)]
  refine ck_of P.1 P1.1 (by omega) (by decide) (nm_of ?_)
  rw [P1.1, cl_nI (by omega)]
  generalize t1 : upI σ1 9 P.1 a = τ1
  have s1 : τ1.1 0 11 = nI P.1 := by rw [← t1]; exact (h0 (by decide)).trans P1.1
  refine ck_of P.1 s1 (by omega) (by decide) (nm_of ?_)
  rw [s1, cl_nI (by omega)]
  generalize t2 : upI τ1 10 P.1 b = τ2
  have s2 : τ2.1 0 11 = nI P.1 := by rw [← t2]; exact (h0 (by decide)).trans s1
  refine ck_of P.1 s2 (by omega) (by decide) (nm_of (nm_of ?_))
  rw [s2, cl_nI (by omega)]
  have s3 : (upI τ2 11 P.1 c).1 0 11 = nI P.1 := (h0 (by decide)).trans s2
  rw [s3, nI_1]
  generalize t4 : upI (upI τ2 11 P.1 c) 0 11 (nI (P.1 + 1)) = τ4
  have f4 : frU σ τ4 := by
    refine fr_tr (fr_mo f1 (by decide)) ?_
    rw [← t4, ← t2, ← t1]
    exact fr_stepI (fr_stepI (fr_stepI (fr_I σ1 _ _ _ (by simp)) _ _ _ (by simp)) _ _ _ (by simp)) _ _ _ (by simp)
  have P4 : MP τ4 (addP P k x y).1 (addP P k x y).2.1 (addP P k x y).2.2.1 (addP P k x y).2.2.2 := by
    refine ⟨by rw [← t4, upI_get, if_pos ⟨rfl, rfl⟩]; rfl, fun p hp => ?_⟩
    have hp : p < P.1 + 1 := hp
    show τ4.1 9 p = nI (fu P.2.1 P.1 k p) ∧ τ4.1 10 p = nI (fu P.2.2.1 P.1 x p) ∧ (fu P.2.1 P.1 k p ≠ 0 → τ4.1 11 p = nI (fu P.2.2.2 P.1 y p))
    rw [← t4, ← t2, ← t1]
    simp only [upI_get]
    by_cases g : p = P.1
    · rw [g, fu_s, fu_s, fu_s]
      simp [ek, ex]
      intro z
      exact (hy z).1
    · rw [fu_n _ _ g, fu_n _ _ g, fu_n _ _ g]
      simp [g]
      exact P1.2 p (by omega)
  refine m_unwalk (fun σ' f' u' => ?_)
  have P' := MP_ag (fr_ag f' (by decide)) P4
  have e2 : σ'.1 0 11 - 1 = nI P.1 := by rw [P'.1]; exact nI_pred P.1
  rw [e2]
  exact h3 k x y ek hk ex hx hy hxy hy0 (by omega) σ' (fr_tr f4 (fr_mo f' (by decide))) P' u'
theorem m_start {σ : St} {N : Ne} {fs : Nat → Bool} {bd : Nat → Nat} {r : Ru} {post : Int32 → St → Prop} (hN : NM σ N) (hW : WN N) (hF : MF σ N fs) (hR : MRu σ N bd r) (h : ∀ σ', fr [12, 14] [(0, 0), (0, 15), (0, 20)] σ σ' → MRu σ' N bd (run0 N fs) → post (nI r.1) σ') : w_X12_start σ post := by
  unfold w_X12_start
  refine nm_of ?_
  have f1 := fr0_up σ
  generalize upI σ 0 0 0 = σ1 at f1
  have R1 : MRu σ1 N bd r := MR_ag (fr_ag f1 (by decide)) hR
  refine nm_as _ R1.1 ?_
  exact m_begin (bd := bd) (NM_ag (fr_ag f1 (by decide)) hN) hW (MF_ag (fr_ag f1 (by decide)) hF) (fun σ' f' r' => h σ' (fr_tr (fr_mo f1 (by decide)) (fr_mo f' (by decide))) r')
theorem m_value {σ : St} {N : Ne} {bd : Nat → Nat} {r : Ru} {a : Int32} {post : Int32 → St → Prop} (hN : NM σ N) (hW : WN N) (hR : MRu σ N bd r) (hWR : WR N r) (h1 : ixI a (nn N) = none → ∀ σ', fr0 σ σ' → post (-1) σ') (h2 : ∀ c, a = nI c → c < nn N → ∀ σ', fr0 σ σ' → post (bI (EV N (r.2.1 r.1) c)) σ') : w_X12_value σ a post := by
  have h24 := hW.1
  have h60 := hWR.1
  unfold w_X12_value
  refine nm_of ?_
  have f1 := fr0_up σ
  generalize upI σ 0 0 0 = σ1 at f1
  have N1 := NM_ag (fr_ag f1 (by decide)) hN
  have R1 : MRu σ1 N bd r := MR_ag (fr_ag f1 (by decide)) hR
  refine m_isCell N1.1 hW (fun g => br_1 rfl (h1 g σ1 f1)) (fun c e hc => br_0 (by decide) ?_)
  refine rd_of r.1 R1.1 (by omega) (by decide) ?_
  refine w_bitOf_of c e (by omega) ?_
  rw [R1.2.1 r.1 (Nat.le_refl _) c]
  exact h2 c e hc σ1 f1
theorem m_either {σ : St} {N : Ne} {bd : Nat → Nat} {r : Ru} {a : Int32} {post : Int32 → St → Prop} (hW : WN N) (hR : MRu σ N bd r) (hWR : WR N r) (h1 : ixI a (fb_ct r.2.2.2.2 (nn N)) = none → ∀ σ', fr0 σ σ' → post (-1) σ') (h2 : ∀ c, a = nI (fb_ct r.2.2.2.2 c) → c < nn N → r.2.2.2.2 c = true → ∀ σ', fr0 σ σ' → post (nI c) σ') : w_X12_either σ a post := by
  have h24 := hW.1
  have hl : fb_ct r.2.2.2.2 (nn N) ≤ 10 := by
    have := fb_ct_sub (p := r.2.2.2.2) (q := isB N) (n := nn N) (fun k hk e => by have := (hWR.2.2.2 k e).2; simp [isB]; omega)
    have h2 : fb_ct (isB N) (nn N) ≤ 10 := hW.2.2.2.2.2.2.2
    omega
  unfold w_X12_either
  refine nm_of ?_
  have f1 := fr0_up σ
  generalize upI σ 0 0 0 = σ1 at f1
  have R1 : MRu σ1 N bd r := MR_ag (fr_ag f1 (by decide)) hR
  rcases ix1 (a := a) (n := fb_ct r.2.2.2.2 (nn N)) (by omega) with g | ⟨i, ei, hi, -⟩
  · refine br_2 (fun _ => h1 g σ1 f1) (fun q => ?_)
    rw [R1.2.2.2.2.1]
    refine br_0 (fun z => ?_) (h1 g σ1 f1)
    rcases ixI_none (by omega) g with e | e
    · exact q e
    · exact (fa_of_lt z).2.1 e
  obtain ⟨c, hc, he, ec⟩ := fb_ct_kth hi
  refine br_0 (by rw [ei]; exact nI_pos (by omega)) ?_
  refine br_lt i (fb_ct r.2.2.2.2 (nn N)) ei R1.2.2.2.2.1 (by omega) (by omega) (fun _ => ?_) (fun z => absurd z (by omega))
  refine rd_of i ei (by omega) (by decide) ?_
  rw [← ec, R1.2.2.2.2.2 c hc he]
  exact h2 c (by rw [ec]; exact ei) hc he σ1 f1
theorem m_ticks {σ : St} {N : Ne} {bd : Nat → Nat} {r : Ru} {a b : Int32} {post : Int32 → St → Prop} (hB : MB σ bd) (hbd : ∀ k, k < 16 → bd k ≤ 9) (hR : MRu σ N bd r) (h1 : ixI a 4 = none ∨ ixI b 4 = none ∨ a = b → ∀ σ', fr0 σ σ' → post (-1) σ') (h2 : ∀ c d, a = nI c → c < 4 → b = nI d → d < 4 → c ≠ d → ∀ σ', fr0 σ σ' → post (nI (if bd (4 * c + d) = 0 then 0 else r.2.2.2.1 (4 * c + d))) σ') : w_X12_ticks σ a b post := by
  unfold w_X12_ticks
  refine nm_of ?_
  have f1 := fr0_up σ
  generalize upI σ 0 0 0 = σ1 at f1
  have B1 := MB_ag (fr_ag f1 (by decide)) hB
  have R1 : MRu σ1 N bd r := MR_ag (fr_ag f1 (by decide)) hR
  refine w_in0 4 (by decide) (by decide) (by decide) (fun g => br_1 rfl (h1 (Or.inl g) σ1 f1)) (fun c ec hc => br_0 (by decide) ?_)
  refine w_in0 4 (by decide) (by decide) (by decide) (fun g => br_1 rfl (h1 (Or.inr (Or.inl g)) σ1 f1)) (fun d ed hd => br_0 (by decide) ?_)
  refine br_2 (fun g => h1 (Or.inr (Or.inr g)) σ1 f1) (fun ne => ?_)
  have hcd : c ≠ d := by rintro rfl; exact ne (ec.trans ed.symm)
  have key := h2 c d ec hc ed hd hcd σ1 f1
  have ei : (4 : Int32) * a + b = nI (4 * c + d) := by rw [ec, ed]; exact ix4 hc hd
  have hb9 := hbd (4 * c + d) (by omega)
  refine rd_of (4 * c + d) ei (by omega) (by decide) ?_
  rw [B1 _ (by omega)]
  refine br_eq (bd (4 * c + d)) 0 rfl rfl (by omega) (by omega) (fun q => ?_) (fun q => ?_)
  · rw [if_pos q] at key; exact key
  · rw [if_neg q] at key
    refine rd_of (4 * c + d) ei (by omega) (by decide) ?_
    rw [R1.2.2.2.1 _ (by omega)]
    exact key
/-- what a look at a cell tells -/
def lok (N : Ne) (c w : Nat) : Int32 := if w = 0 then nI (nk N c) else if w = 1 then (if 4 < nk N c then nI (nc N c) else -2) else if w = 2 then (if nk N c = 5 then -2 else nI (nx N c)) else if w = 3 then (if nk N c ≤ 4 ∧ nk N c ≠ 3 then nI (ny N c) else -2) else (if nk N c = 4 then nI (nz N c) else -2)
theorem m_look2 {σ : St} {N : Ne} {a b : Int32} {post : Int32 → St → Prop} (hN : NM σ N) (hW : WN N) (h1 : ixI a (nn N) = none ∨ ixI b 5 = none → ∀ σ', fr0 σ σ' → post (-1) σ') (h2 : ∀ c w, a = nI c → c < nn N → b = nI w → w < 5 → ∀ σ', fr0 σ σ' → post (lok N c w) σ') : w_X12_look_ σ a b post := by
  have h24 := hW.1
  unfold w_X12_look_
  refine nm_of ?_
  have f1 := fr0_up σ
  generalize upI σ 0 0 0 = σ1 at f1
  have N1 := NM_ag (fr_ag f1 (by decide)) hN
  refine m_isCell N1.1 hW (fun g => br_1 rfl (h1 (Or.inl g) σ1 f1)) (fun c e hc => br_0 (by decide) ?_)
  refine w_in0 5 (by decide) (by decide) (by decide) (fun g => br_1 rfl (h1 (Or.inr g) σ1 f1)) (fun w ew hw => br_0 (by decide) ?_)
  have key := h2 c w e hc ew hw σ1 f1
  obtain ⟨-, -, q1, q2, q3, q4, q5⟩ := N1
  have h6 := hW.2.1 c hc
  unfold lok at key
  refine br_eq w 0 ew rfl (by omega) (by omega) (fun z => ?_) (fun z0 => ?_)
  · rw [if_pos z] at key
    refine rd_of c e (by omega) (by decide) ?_
    rw [q1 c hc]; exact key
  rw [if_neg z0] at key
  refine br_eq w 1 ew rfl (by omega) (by omega) (fun z => ?_) (fun z1 => ?_)
  · rw [if_pos z] at key
    refine rd_of c e (by omega) (by decide) ?_
    rw [q1 c hc]
    refine br_le (nk N c) 4 rfl rfl (by omega) (by omega) (fun g => ?_) (fun g => ?_)
    · rw [if_neg (by omega)] at key; exact key
    · rw [if_pos g] at key
      refine rd_of c e (by omega) (by decide) ?_
      rw [q2 c hc, if_pos g]; exact key
  rw [if_neg z1] at key
  refine br_eq w 2 ew rfl (by omega) (by omega) (fun z => ?_) (fun z2 => ?_)
  · rw [if_pos z] at key
    refine rd_of c e (by omega) (by decide) ?_
    rw [q1 c hc]
    refine br_eq (nk N c) 5 rfl rfl (by omega) (by omega) (fun g => ?_) (fun g => ?_)
    · rw [if_pos g] at key; exact key
    · rw [if_neg g] at key
      refine rd_of c e (by omega) (by decide) ?_
      rw [q3 c hc, if_neg g]; exact key
  rw [if_neg z2] at key
  refine br_eq w 3 ew rfl (by omega) (by omega) (fun z => ?_) (fun z3 => ?_)
  · rw [if_pos z] at key
    refine rd_of c e (by omega) (by decide) ?_
    rw [q4 c hc]; exact key
  rw [if_neg z3] at key
  refine rd_of c e (by omega) (by decide) ?_
  rw [q5 c hc]; exact key
