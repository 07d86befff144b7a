/-! THE CLASS: promises and the run -/
def CP (σ : St) (N : Ne) (P : Pr) : Prop := σ.1 3 1 = nI P.1 ∧ ∀ p, p < P.1 → σ.1 19 p = nI (P.2.1 p) ∧ σ.1 20 p = nI (P.2.2.1 p) ∧ (P.2.1 p ≠ 0 → σ.1 21 p = nI (P.2.2.2 p)) ∧ (P.2.1 p = 3 → PM N (σ.1 22 p) (fun c => decide (P.2.2.1 p ≤ c) && decide (c ≤ P.2.2.2 p)))
theorem CP_ag {σ σ' : St} {N : Ne} {P : Pr} (h : ag [19, 20, 21, 22] [(3, 1)] σ σ') (hP : CP σ N P) : CP σ' N P := by
  refine ⟨by rw [(h 3 1 (by simp)).1]; exact hP.1, fun p hp => ?_⟩
  rw [(h 19 p (by simp)).1, (h 20 p (by simp)).1, (h 21 p (by simp)).1, (h 22 p (by simp)).1]
  exact hP.2 p hp
/-- how many of the bits between two cells have changed -/
theorem difs_ct {N : Ne} {vb vn : Nat → Bool} {x y : Nat} (hxy : x ≤ y) (hy : y < nn N) : fb_ct (fun c => decide (c < nn N) && isB N c && ((vb c != vn c) && (decide (x ≤ c) && decide (c ≤ y)))) (nn N) = difs N vb vn x y := by
  have e : nn N = x + (y + 1 - x) + (nn N - (y + 1)) := by omega
  generalize hp : (fun c => decide (c < nn N) && isB N c && ((vb c != vn c) && (decide (x ≤ c) && decide (c ≤ y)))) = p
  have h1 : fb_ct p x = 0 := fb_ct_zero.mpr (fun k hk => by rw [← hp]; simp [show ¬ x ≤ k by omega])
  have h3 : fb_ct (fun k => p (x + (y + 1 - x) + k)) (nn N - (y + 1)) = 0 := fb_ct_zero.mpr (fun k hk => by rw [← hp]; simp; intros; omega)
  rw [e, fb_ct_split, fb_ct_split, h1, h3, Nat.zero_add, Nat.add_zero]
  unfold difs
  refine fb_ct_cong (fun k hk => ?_)
  rw [← hp]
  simp [dif, show x + k < nn N by omega, show x + k ≤ y by omega]
theorem c_holds {σ : St} {N : Ne} {P : Pr} {vb vn : Nat → Bool} {a b c : Int32} {p : Nat} {first : Bool} {post : Int32 → Prop} (hN : CN σ N) (hW : WN N) (hP : CP σ N P) (hWP : WP N P) (ha : a = nI p) (hp : p < P.1) (hb : PM N b vb) (hc : PM N c vn) (hf : first = true → ∀ d, d < nn N → 4 < nk N d → vb d = vn d) (h : post (bI (kep N (P.2.1 p) (P.2.2.1 p) (P.2.2.2 p) vb vn first))) : w_X5_holds σ a b c post := by
  have h24 := hW.1
  have h8 := hWP.1
  obtain ⟨k3, hx, hy, hxy⟩ := hWP.2 p hp
  obtain ⟨e19, e20, e21, e22⟩ := hP.2 p hp
  unfold w_X5_holds
  refine rd_of p ha (by omega) (by decide) ?_
  rw [e19]
  have two : ∀ (w : Bool) (q : Prop), (q ↔ w = true) → post (bI w) → br q (post 1) (post 0) := by
    intro w q hq hpw
    refine br_2 (fun z => ?_) (fun z => ?_)
    · rw [hq.mp z] at hpw; exact hpw
    · cases w with
      | true => exact absurd (hq.mpr rfl) z
      | false => exact hpw
  refine br_eq (P.2.1 p) 0 rfl rfl (by omega) (by omega) (fun e => ?_) (fun n0 => ?_)
  · refine rd_of p ha (by omega) (by decide) ?_
    rw [e20]
    refine c_valueOf hN hW rfl hx hc (two (EV N vn (P.2.2.1 p)) _ (bI_one _) ?_)
    rw [e] at h
    exact h
  refine br_eq (P.2.1 p) 1 rfl rfl (by omega) (by omega) (fun e => ?_) (fun n1 => ?_)
  · refine rd_of p ha (by omega) (by decide) ?_
    rw [e20]
    refine c_valueOf hN hW rfl hx hc ?_
    refine rd_of p ha (by omega) (by decide) ?_
    rw [e21 n0]
    refine c_valueOf hN hW rfl (hy n0) hc ?_
    rw [bI_and]
    refine two (!(EV N vn (P.2.2.1 p) && EV N vn (P.2.2.2 p))) _ ?_ ?_
    · rw [bI_zero, Bool.not_eq_true']
    · rw [e] at h
      exact h
  refine br_eq (P.2.1 p) 2 rfl rfl (by omega) (by omega) (fun e => ?_) (fun n2 => ?_)
  · refine rd_of p ha (by omega) (by decide) ?_
    rw [e20]
    refine c_valueOf hN hW rfl hx hc ?_
    refine rd_of p ha (by omega) (by decide) ?_
    rw [e21 n0]
    refine c_valueOf hN hW rfl (hy n0) hc ?_
    refine two (EV N vn (P.2.2.1 p) == EV N vn (P.2.2.2 p)) _ ?_ ?_
    · rw [bI_inj, beq_iff_eq]
    · rw [e] at h
      exact h
  have e3 : P.2.1 p = 3 := by omega
  refine rd_of p ha (by omega) (by decide) ?_
  have pm := PM_and (PM_xor hb hc) (e22 e3)
  refine c_count hW (p := fun c => decide (c < nn N) && isB N c && ((vb c != vn c) && (decide (P.2.2.1 p ≤ c) && decide (c ≤ P.2.2.2 p)))) (PM_cong pm (fun d hd g => ?_)) (fun d hd => ?_) ?_
  · rw [decide_eq_true hd, isB_t g]
    cases vb d <;> cases vn d <;> rfl
  · have := ((Bool.and_eq_true _ _).mp ((Bool.and_eq_true _ _).mp hd).1).2
    simpa [isB] using this
  rw [difs_ct (hxy e3) (hy n0)]
  have dl : difs N vb vn (P.2.2.1 p) (P.2.2.2 p) ≤ 24 := by
    have := fb_ct_le (fun k => dif N vb vn (P.2.2.1 p + k)) (P.2.2.2 p + 1 - P.2.2.1 p)
    have := hy n0
    unfold difs
    omega
  have d0 : first = true → difs N vb vn (P.2.2.1 p) (P.2.2.2 p) = 0 := fun f => fb_ct_zero.mpr (fun k hk => by
    have := hy n0
    unfold dif
    by_cases g : 4 < nk N (P.2.2.1 p + k)
    · rw [hf f _ (by omega) g]; simp
    · rw [isB_f g]; rfl)
  have hk : post (bI (first || decide (difs N vb vn (P.2.2.1 p) (P.2.2.2 p) < 2))) := by rw [e3] at h; exact h
  refine br_lt 1 (difs N vb vn (P.2.2.1 p) (P.2.2.2 p)) rfl rfl (by omega) (by omega) (fun z => ?_) (fun z => ?_)
  · cases f : first with
    | true => have := d0 f; omega
    | false =>
      rw [f, decide_eq_false (by omega)] at hk
      exact hk
  · rw [decide_eq_true (show difs N vb vn (P.2.2.1 p) (P.2.2.2 p) < 2 by omega), Bool.or_true] at hk
    exact hk
theorem c_has {σ : St} {N : Ne} {P : Pr} {a : Int32} {post : Int32 → Prop} (hP : CP σ N P) (h8 : P.1 ≤ 8) (h1 : ixI a P.1 = none → post 0) (h2 : ∀ p, a = nI p → p < P.1 → post 1) : w_X5_has σ a post := by
  unfold w_X5_has
  cases hq : ixI a P.1 with
  | none =>
    refine br_2 (fun _ => h1 hq) (fun g => ?_)
    rw [hP.1]
    rcases ixI_none (by omega) hq with q | q
    · exact absurd q g
    · exact br_1 q (h1 hq)
  | some j =>
    obtain ⟨e1, hj⟩ := ixI_some (by omega) hq
    have hp := h2 j e1 hj
    subst e1
    refine br_0 (nI_pos (by omega)) ?_
    rw [hP.1]
    exact br_0 (fun g => absurd ((nI_leI (by omega) (by omega)).mp g) (by omega)) hp
theorem gt3 {a : Int32} {n : Nat} (hn : n < 2 ^ 30) (h0 : ¬ a < 0) (h : ixI a (n + 1) = none) : nI n < a := by
  rcases ixI_none (by omega) h with q | q
  · exact absurd q h0
  · obtain ⟨j, hj, rfl⟩ := nI_of h0
    have := (nI_leI (by omega) hj).mp q
    exact nI_lt (by omega) hj
theorem c_promise {σ : St} {N : Ne} {P : Pr} {a b c : Int32} {post : Int32 → St → Prop} (hN : CN σ N) (hW : WN N) (hP : CP σ N P) (hWP : WP N P)
    (h1 : ixI a 4 = none ∨ ixI b (nn N) = none ∨ (a ≠ 0 ∧ ixI c (nn N) = none) ∨ (a = 3 ∧ ∃ x y, b = nI x ∧ c = nI y ∧ x < nn N ∧ y < nn N ∧ y < x) → post (-1) σ)
    (h2 : ∀ k x y, a = nI k → k < 4 → b = nI x → x < nn N → (k ≠ 0 → c = nI y ∧ y < nn N) → (k = 3 → x ≤ y) → P.1 = 8 → post (-2) σ)
    (h3 : ∀ k x y, a = nI k → k < 4 → b = nI x → x < nn N → (k ≠ 0 → c = nI y ∧ y < nn N) → (k = 3 → x ≤ y) → (k = 0 → y = x) → P.1 < 8 → ∀ σ', fr [19, 20, 21, 22] [(3, 1), (6, 5), (6, 6), (6, 7), (6, 8)] σ σ' → CP σ' N (addP P k x y) → CU σ' → post (nI P.1) σ') : w_X11_promise σ a b c post := by
  have h24 := hW.1
  have h8 := hWP.1
  unfold w_X11_promise
  refine jn_1 (fun y2 => (a = 0 ∧ y2 = 0) ∨ (a ≠ 0 ∧ y2 = 1)) (fun K hK => br_2 (fun e => hK _ (Or.inl ⟨e, rfl⟩)) (fun e => hK _ (Or.inr ⟨e, rfl⟩))) ?_
  intro y2 hy2
  rcases ix1 (a := a) (n := 4) (by decide) with q | ⟨k, ek, hk, -⟩
  · exact br_2 (fun _ => h1 (Or.inl q)) (fun g => br_1 (gt3 (n := 3) (by decide) g q) (h1 (Or.inl q)))
  have k0 : a = 0 ↔ k = 0 := by rw [ek]; exact nI_eq (by omega) (by decide)
  refine br_0 (by rw [ek]; exact nI_pos (by omega)) (br_0 (by rw [ek]; exact nI_nlt (b := k) (a := 3) (by omega) (by decide)) ?_)
  refine c_isCell hN.1 hW (fun g => br_1 rfl (h1 (Or.inr (Or.inl g)))) (fun x ex hx => br_0 (by decide) ?_)
  refine jn_0 (∃ y, (k ≠ 0 → c = nI y ∧ y < nn N) ∧ (k = 0 → y = x)) (fun K hK => ?_) ?_
  · rcases hy2 with ⟨e, rfl⟩ | ⟨e, rfl⟩
    · exact br_1 rfl (hK ⟨x, fun n => absurd (k0.mp e) n, fun _ => rfl⟩)
    · refine br_0 (by decide) (c_isCell hN.1 hW (fun g => br_1 rfl (h1 (Or.inr (Or.inr (Or.inl ⟨e, g⟩))))) (fun y ey hy => br_0 (by decide) (hK ⟨y, fun _ => ⟨ey, hy⟩, fun n => absurd (k0.mpr n) e⟩)))
  rintro ⟨y, hy, hy0⟩
  refine jn_0 (k = 3 → x ≤ y) (fun K hK => ?_) ?_
  · refine br_eq k 3 ek rfl (by omega) (by omega) (fun e => ?_) (fun e => hK (fun n => absurd n e))
    obtain ⟨ey, hyn⟩ := hy (by omega)
    refine br_le x y ex ey (by omega) (by omega) (fun z => hK (fun _ => z)) (fun z => h1 (Or.inr (Or.inr (Or.inr ⟨by rw [ek, e]; rfl, x, y, ex, ey, hx, hyn, z⟩))))
  intro hxy
  refine br_lt P.1 8 hP.1 rfl (by omega) (by omega) (fun lt => ?_) (fun ge => h2 k x y ek hk ex hx hy hxy (by omega))
  refine c_forget (fun σ1 f1 u1 => ?_)
  have hN1 := CN_ag (fr_ag f1 (by decide)) hN
  have hP1 := CP_ag (fr_ag f1 (by decide)) hP
  refine jn_1 (fun y14 => y14 = nI y) (fun K hK => ?_) ?_
  · rcases hy2 with ⟨e, rfl⟩ | ⟨e, rfl⟩
    · exact br_1 rfl (hK _ (by rw [ex, hy0 (k0.mp e)]))
    · exact br_0 (by decide) (hK _ (hy (fun n => e (k0.mpr n))).1)
  rintro y14 rfl
  have hyn : y < nn N := by
    by_cases e : k = 0
    · rw [hy0 e]; exact hx
    · exact (hy e).2
  unfold w_X5_add
  refine nm_as (nI P.1) hP1.1 ?_
  refine ck_of P.1 rfl (by omega) (by decide) (nm_of (ck_of P.1 rfl (by omega) (by decide) (nm_of (ck_of P.1 rfl (by omega) (by decide) (nm_of ?_)))))
  rw [cl_nI (by omega)]
  generalize e4 : upI (upI (upI σ1 19 P.1 a) 20 P.1 b) 21 P.1 (nI y) = σ4
  have f4 : fr [19, 20, 21, 22] [(3, 1)] σ1 σ4 := by
    rw [← e4]
    exact fr_stepI (fr_stepI (fr_I σ1 _ _ _ (by simp)) _ _ _ (by simp)) _ _ _ (by simp)
  have hN4 := CN_ag (fr_ag f4 (by decide)) hN1
  refine c_bitsBetween hN4 hW ex rfl (by omega) (by omega) (fun r5 h5 => ?_)
  refine ck_of P.1 rfl (by omega) (by decide) (nm_of (nm_of ?_))
  have e31 : (upI σ4 22 P.1 r5).1 3 1 + 1 = nI (P.1 + 1) := by
    rw [← e4]
    simp only [upI_get]
    rw [if_neg (by omega), if_neg (by omega), if_neg (by omega), if_neg (by omega), hP1.1, nI_1]
  rw [e31]
  generalize e8 : upI (upI σ4 22 P.1 r5) 3 1 (nI (P.1 + 1)) = σ8
  have f8 : fr [19, 20, 21, 22] [(3, 1)] σ1 σ8 := by
    rw [← e8]
    exact fr_stepI (fr_stepI f4 _ _ _ (by simp)) _ _ _ (by simp)
  have g8 : ∀ i j, σ8.1 i j = if i = 3 ∧ j = 1 then nI (P.1 + 1) else if i = 22 ∧ j = P.1 then r5 else if i = 21 ∧ j = P.1 then nI y else if i = 20 ∧ j = P.1 then b else if i = 19 ∧ j = P.1 then a else σ1.1 i j := by
    intro i j
    rw [← e8, ← e4]
    simp only [upI_get]
  refine h3 k x y ek hk ex hx hy hxy hy0 lt σ8 (fr_tr (fr_mo f1 (by decide)) (fr_mo f8 (by decide))) ⟨?_, fun p hp => ?_⟩ ?_
  · rw [g8, if_pos ⟨rfl, rfl⟩]; rfl
  · by_cases e : p = P.1
    · subst e
      refine ⟨?_, ?_, fun _ => ?_, fun _ => ?_⟩
      · rw [g8]; simp [addP, fu_s, ek]
      · rw [g8]; simp [addP, fu_s, ex]
      · rw [g8]; simp [addP, fu_s]
      · rw [g8]; simp [addP, fu_s]; exact h5
    · have hp' : p < P.1 := by have : p < P.1 + 1 := hp; omega
      obtain ⟨u1, u2, u3, u4⟩ := hP1.2 p hp'
      have o1 : (addP P k x y).2.1 p = P.2.1 p := fu_n _ _ e
      have o2 : (addP P k x y).2.2.1 p = P.2.2.1 p := fu_n _ _ e
      have o3 : (addP P k x y).2.2.2 p = P.2.2.2 p := fu_n _ _ e
      rw [o1, o2, o3]
      refine ⟨?_, ?_, fun z => ?_, fun z => ?_⟩
      · rw [g8]; simpa [e] using u1
      · rw [g8]; simpa [e] using u2
      · rw [g8]; simpa [e] using u3 z
      · rw [g8]; simpa [e] using u4 z
  · obtain ⟨v1, v2, v3, v4⟩ := u1
    refine ⟨?_, ?_, ?_, ?_⟩
    · rw [g8]; simpa using v1
    · rw [g8]; simpa using v2
    · rw [g8]; simpa using v3
    · rw [g8]; simpa using v4
abbrev frR (σ σ' : St) : Prop := fr [23, 24] [(4, 1), (4, 2), (4, 3), (4, 4), (4, 5), (4, 6), (5, 3), (5, 4), (5, 5)] σ σ'
theorem c_go {σ : St} {N : Ne} {bd : Nat → Nat} {r : Ru} {a b c : Int32} {st inp ots : Nat} {post : Int32 → St → Prop} (hN : CN σ N) (hW : WN N) (hB : CB σ bd) (hWB : WB bd) (hR : CRu σ N bd r) (hT : TB bd r.2.2.2.1) (hm : r.1 ≤ 60) (ha : a = nI st) (hb : b = nI inp) (hi : inp < 2 ^ 31) (hc : c = nI ots) (ho : ots < 2 ^ 31)
    (h1 : ¬ canB bd st r.2.2.2.1 → post (-2) σ) (h2 : canB bd st r.2.2.2.1 → r.1 = 60 → post (-3) σ)
    (h3 : canB bd st r.2.2.2.1 → r.1 < 60 → ∀ σ', frR σ σ' → CRu σ' N bd (runS N r st inp ots) → post (nI (ne_ N (r.2.1 r.1) st inp)) σ') : w_X7_go σ a b c post := by
  obtain ⟨r1, r2, r3, r4, r5⟩ := hR
  unfold w_X7_go
  rw [r4]
  refine c_bbehind hB hWB hT ha (fun can => ?_) (fun no => br_1 ((lg_cmp_eq _ _).mpr rfl) (h1 no))
  refine br_0 (fun z => dig_ne (dig_dg hWB (thn_TB can)) ((lg_cmp_eq _ _).mp z)) ?_
  refine br_lt r.1 60 r1 rfl (by omega) (by omega) (fun lt => ?_) (fun ge => h2 can (by omega))
  refine rd_of r.1 r1 (by omega) (by decide) ?_
  refine c_tick hN hW (r2 r.1 (Nat.le_refl _)) ha (fun σ7 f7 t7 => ?_)
  have hN7 := CN_ag (fr_ag f7 (by decide)) hN
  refine c_choose hN7 hW t7 hb hi (fun σ9 f9 c9 => ?_)
  have f9' : frR σ σ9 := fr_tr (fr_mo f7 (by decide)) (fr_mo f9 (by decide))
  have k9 : ∀ k j, k = 23 ∨ k = 24 ∨ (k = 5 ∧ j = 3) → σ9.1 k j = σ.1 k j := by
    intro k j hkj
    have a1 : ag [23, 24] [(5, 3)] σ σ7 := fr_ag f7 (by decide)
    have a2 : ag [23, 24] [(5, 3)] σ7 σ9 := fr_ag f9 (by decide)
    have m : k ∈ [23, 24] ∨ (k, j) ∈ [(5, 3)] := by rcases hkj with rfl | rfl | ⟨rfl, rfl⟩ <;> simp
    rw [(a2 k j m).1, (a1 k j m).1]
  clear t7 hN7 f7 f9
  have e53 : σ9.1 5 3 = nI r.1 := by rw [k9 5 3 (by simp), r1]
  refine ck_of r.1 e53 (by omega) (by decide) (nm_of ?_)
  generalize e10 : upI σ9 24 (σ9.1 5 3).toNatClampNeg a = σ10
  have g10 : ∀ k j, σ10.1 k j = if k = 24 ∧ j = r.1 then a else σ9.1 k j := fun k j => by rw [← e10, upI_get, e53, cl_nI (by omega)]
  have f10 : frR σ σ10 := by rw [← e10]; exact fr_stepI f9' _ _ _ (by simp)
  refine nm_of ?_
  generalize e11 : upI σ10 5 3 (σ10.1 5 3 + 1) = σ11
  have g11 : ∀ k j, σ11.1 k j = if k = 5 ∧ j = 3 then nI (r.1 + 1) else σ10.1 k j := fun k j => by
    have e : σ10.1 5 3 = nI r.1 := by rw [g10, if_neg (by omega), e53]
    rw [← e11, upI_get, e, nI_1]
  have f11 : frR σ σ11 := by rw [← e11]; exact fr_stepI f10 _ _ _ (by simp)
  have c11 : CC σ11 N (r.2.1 r.1) st inp := by
    obtain ⟨q1, q2⟩ := c9
    refine ⟨?_, ?_⟩
    · rw [g11, if_neg (by decide), g10, if_neg (by omega)]; exact q1
    · rw [g11, if_neg (by decide), g10, if_neg (by omega)]; exact q2
  have e53' : σ11.1 5 3 = nI (r.1 + 1) := by rw [g11, if_pos ⟨rfl, rfl⟩]
  refine c_sbehind hW c11 hc ho (fun r12 hr12 => ?_)
  refine ck_of (r.1 + 1) e53' (by omega) (by decide) (nm_of ?_)
  generalize e14 : upI σ11 23 (σ11.1 5 3).toNatClampNeg r12 = σ14
  have g14 : ∀ k j, σ14.1 k j = if k = 23 ∧ j = r.1 + 1 then r12 else σ11.1 k j := fun k j => by rw [← e14, upI_get, e53', cl_nI (by omega)]
  have f14 : frR σ σ14 := by rw [← e14]; exact fr_stepI f11 _ _ _ (by simp)
  refine nm_of (nm_of ?_)
  generalize e16 : upI (upJ σ14 5 5 (lN (tN (dg bd (thn st r.2.2.2.1)) 16))) 5 4 _ = σ16
  have g16 : ∀ k j, σ16.1 k j = if k = 5 ∧ j = 4 then σ14.1 4 6 else σ14.1 k j := fun k j => by rw [← e16, upI_get, upJ_fst]
  have l16 : σ16.2 5 5 = lN (tN (dg bd (thn st r.2.2.2.1)) 16) := by rw [← e16, upI_snd, upJ_get, if_pos ⟨rfl, rfl⟩]
  have f16 : frR σ σ16 := by rw [← e16]; exact fr_stepI (fr_stepJ f14 _ _ _ (by simp)) _ _ _ (by simp)
  have pe : PM N (σ16.1 5 4) (eit N (r.2.1 r.1) st inp) := by
    rw [g16, if_pos ⟨rfl, rfl⟩, g14, if_neg (by omega)]; exact c11.2
  refine c_count hW pe (fun d hd => by have := (eit_lt hd).2; omega) (h3 can lt σ16 f16 ⟨?_, fun i hi2 => ?_, fun i hi2 => ?_, l16, pe⟩)
  · rw [g16, if_neg (by decide), g14, if_neg (by omega), e53']; rfl
  · rw [g16, if_neg (by omega), g14]
    show PM N _ (fu r.2.1 (r.1 + 1) (bhd N (r.2.1 r.1) st inp ots) i)
    by_cases e : i = r.1 + 1
    · rw [if_pos ⟨rfl, e⟩, e, fu_s]; exact hr12
    · have hi3 : i ≤ r.1 + 1 := hi2
      rw [if_neg (fun z => e z.2), fu_n _ _ e, g11, if_neg (by omega), g10, if_neg (by omega), k9 23 i (by simp)]
      exact r2 i (by omega)
  · rw [g16, if_neg (by omega), g14, if_neg (by omega), g11, if_neg (by omega), g10]
    show _ = nI (fu r.2.2.1 r.1 st i)
    by_cases e : i = r.1
    · rw [if_pos ⟨rfl, e⟩, e, fu_s]; exact ha
    · have hi3 : i < r.1 + 1 := hi2
      rw [if_neg (fun z => e z.2), fu_n _ _ e, k9 24 i (by simp)]
      exact r3 i (by omega)
theorem c_moment {σ : St} {N : Ne} {bd : Nat → Nat} {r : Ru} {a b c : Int32} {post : Int32 → St → Prop} (hN : CN σ N) (hW : WN N) (hB : CB σ bd) (hWB : WB bd) (hR : CRu σ N bd r) (hT : TB bd r.2.2.2.1) (hm : r.1 ≤ 60)
    (h1 : (∀ j, a = nI j → 0 < j → j < 16 → False) ∨ b < 0 ∨ c < 0 → post (-1) σ)
    (h2 : ∀ st inp ots, a = nI st → 0 < st → st < 16 → b = nI inp → inp < 2 ^ 31 → c = nI ots → ots < 2 ^ 31 → ¬ canB bd st r.2.2.2.1 → post (-2) σ)
    (h3 : ∀ st inp ots, a = nI st → 0 < st → st < 16 → b = nI inp → inp < 2 ^ 31 → c = nI ots → ots < 2 ^ 31 → canB bd st r.2.2.2.1 → r.1 = 60 → post (-3) σ)
    (h4 : ∀ st inp ots, a = nI st → 0 < st → st < 16 → b = nI inp → inp < 2 ^ 31 → c = nI ots → ots < 2 ^ 31 → canB bd st r.2.2.2.1 → r.1 < 60 → ∀ σ', frR σ σ' → CRu σ' N bd (runS N r st inp ots) → post (nI (ne_ N (r.2.1 r.1) st inp)) σ') : w_X11_moment σ a b c post := by
  unfold w_X11_moment
  refine br_2 (fun z => h1 (Or.inl (fun j e h0 _ => ?_))) (fun z => ?_)
  · rw [e] at z
    exact absurd ((nI_ltI (b := 1) (by omega) (by decide)).mp z) (by omega)
  have a0 : ¬ a < 0 := fun q => z (fa_trans q (by decide))
  obtain ⟨st, hst, ea⟩ := nI_of a0
  have s0 : 0 < st := Nat.pos_of_ne_zero (fun e => z (by rw [ea, e]; decide))
  refine br_le 16 st rfl ea (by omega) hst (fun q => h1 (Or.inl (fun j e _ hj => ?_))) (fun q => ?_)
  · rw [ea] at e
    have := (nI_eq hst (by omega)).mp e
    omega
  refine br_2 (fun q2 => h1 (Or.inr (Or.inl q2))) (fun q2 => ?_)
  obtain ⟨inp, hinp, eb⟩ := nI_of q2
  refine br_2 (fun q3 => ?_) (fun q3 => h1 (Or.inr (Or.inr (fa_of_nle q3))))
  obtain ⟨ots, hots, ec⟩ := nI_of (x := c) (fun q4 => (fa_of_lt q4).2.1 q3)
  exact c_go hN hW hB hWB hR hT hm ea eb hinp ec hots (h2 st inp ots ea s0 q eb hinp ec hots) (h3 st inp ots ea s0 q eb hinp ec hots) (h4 st inp ots ea s0 q eb hinp ec hots)
theorem c_start {σ : St} {N : Ne} {fs : Nat → Bool} {bd : Nat → Nat} {r : Ru} {post : Int32 → St → Prop} (hF : CF σ N fs) (hR : CRu σ N bd r) (h : ∀ σ', fr [23] [(5, 3), (5, 4), (5, 5)] σ σ' → CRu σ' N bd (run0 N fs) → post (nI r.1) σ') : w_X11_start σ post := by
  unfold w_X11_start
  refine nm_as (nI r.1) hR.1 (c_begin (bd := bd) hF (fun σ1 f1 r1 => h σ1 f1 r1))
theorem c_value {σ : St} {N : Ne} {bd : Nat → Nat} {r : Ru} {a : Int32} {post : Int32 → Prop} (hN : CN σ N) (hW : WN N) (hR : CRu σ N bd r) (hm : r.1 ≤ 60) (h1 : ixI a (nn N) = none → post (-1)) (h2 : ∀ c, a = nI c → c < nn N → post (bI (EV N (r.2.1 r.1) c))) : w_X11_value σ a post := by
  unfold w_X11_value
  refine c_isCell hN.1 hW (fun g => br_1 rfl (h1 g)) (fun c ec hc => br_0 (by decide) ?_)
  unfold w_X7_bitsNow
  refine rd_of r.1 hR.1 (by omega) (by decide) ?_
  exact c_valueOf hN hW ec hc (hR.2.1 r.1 (Nat.le_refl _)) (h2 c ec hc)
theorem dn1 (y : Int32) (n : Nat) : y + (-1) + nI (n + 1) = y + nI n := by
  rw [nI_succ, Int32.add_assoc, Int32.add_comm (nI n) 1, ← Int32.add_assoc (-1) 1, show (-1 : Int32) + 1 = 0 from by decide, Int32.zero_add]
theorem dn0 {a y : Int32} {n : Nat} (h : a = y + nI n) : y = 0 ↔ a = nI n := by
  constructor
  · rintro rfl; rw [h, Int32.zero_add]
  · intro e
    have : y = a - nI n := by rw [h, Int32.add_sub_cancel]
    rw [this, e, Int32.sub_self]
theorem c_either {σ : St} {N : Ne} {bd : Nat → Nat} {r : Ru} {a : Int32} {post : Int32 → Prop} (hN : CN σ N) (hW : WN N) (hR : CRu σ N bd r) (he : ∀ c, r.2.2.2.2 c = true → c < nn N ∧ nk N c = 6) (h1 : ixI a (fb_ct r.2.2.2.2 (nn N)) = none → post (-1)) (h2 : ∀ c, a = nI (fb_ct r.2.2.2.2 c) → c < nn N → r.2.2.2.2 c = true → post (nI c)) : w_X11_either σ a post := by
  have h10 := nb10 hW
  have h24 := hW.1
  have pe := hR.2.2.2.2
  have pc := PM_ct pe (fun c hc => by have := (he c hc).2; omega)
  unfold w_X11_either
  refine jn_at ?_
  refine lpE2_inv (I := fun y2 y3 => ∃ i, i ≤ nb N ∧ y3 = nI i ∧ a = y2 + nI (fb_ct (bt (σ.1 5 4)) i) ∧ ∀ c, c < nn N → r.2.2.2.2 c = true → fb_ct (isB N) c < i → a ≠ nI (fb_ct r.2.2.2.2 c)) (μ := fun _ y3 => nb N - y3.toNatClampNeg) ?_ a 0 ⟨0, by omega, rfl, by show a = a + 0; rw [Int32.add_zero], fun c _ _ z => absurd z (Nat.not_lt_zero _)⟩
  rintro rec y2 y3 ⟨i, hi, rfl, ea, hno⟩ hrec
  unfold w_X11_either_L4
  refine br_le (nb N) i hN.2.1 rfl (by omega) (by omega) (fun q => h1 ?_) (fun q => ?_)
  · have l := fb_ct_le r.2.2.2.2 (nn N)
    rcases ix1 (a := a) (n := fb_ct r.2.2.2.2 (nn N)) (by omega) with z | ⟨j, ej, hj, -⟩
    · exact z
    · obtain ⟨c, hc, hec, ec⟩ := fb_ct_kth hj
      have g : 4 < nk N c := by have := (he c hec).2; omega
      have : fb_ct (isB N) c < nb N := ix_lt g hc
      exact absurd (by rw [ej, ec]) (hno c hc hec (by omega))
  have dec : nb N - (nI i + 1).toNatClampNeg < nb N - (nI i).toNatClampNeg := by rw [nI_1, cl_nI (by omega), cl_nI (by omega)]; omega
  obtain ⟨c, hc, g, e, e14⟩ := cofb hN q
  have hbi : bt (σ.1 5 4) i = r.2.2.2.2 c := by rw [← e]; exact pe.1 c hc g
  have hct : fb_ct (bt (σ.1 5 4)) i = fb_ct r.2.2.2.2 c := by rw [← e]; exact pc c (by omega)
  rw [b_get _ (by omega), hbi]
  cases t : r.2.2.2.2 c with
  | true =>
    refine br_1 rfl (br_2 (fun z => ?_) (fun z => ?_))
    · refine rd_of i rfl (by omega) (by decide) ?_
      rw [e14]
      have := (dn0 ea).mp z
      rw [hct] at this
      exact h2 c this hc t
    · refine nm_of (nm_of (hrec _ _ ⟨i + 1, q, nI_1 i, ?_, fun d hd hed hl => ?_⟩ dec))
      · rw [fb_ct_succ, hbi, t, if_pos rfl, dn1]; exact ea
      · by_cases y : fb_ct (isB N) d < i
        · exact hno d hd hed y
        · have gd : 4 < nk N d := by have := (he d hed).2; omega
          have : d = c := ix_inj gd g (by omega)
          rw [this, ← hct]
          exact fun n => z ((dn0 ea).mpr n)
  | false =>
    refine br_0 (by decide) (nm_of (hrec _ _ ⟨i + 1, q, nI_1 i, ?_, fun d hd hed hl => ?_⟩ dec))
    · rw [fb_ct_succ, hbi, t, if_neg (by decide), Nat.add_zero]; exact ea
    · by_cases y : fb_ct (isB N) d < i
      · exact hno d hd hed y
      · have gd : 4 < nk N d := by have := (he d hed).2; omega
        have : d = c := ix_inj gd g (by omega)
        rw [this, t] at hed; cases hed
theorem c_ticks {σ : St} {N : Ne} {bd : Nat → Nat} {r : Ru} {a b : Int32} {post : Int32 → Prop} (hWB : WB bd) (hR : CRu σ N bd r) (hT : TB bd r.2.2.2.1) (h1 : ixI a 4 = none ∨ ixI b 4 = none ∨ a = b → post (-1)) (h2 : ∀ c d, a = nI c → c < 4 → b = nI d → d < 4 → c ≠ d → post (nI (if bd (4 * c + d) = 0 then 0 else r.2.2.2.1 (4 * c + d)))) : w_X11_ticks σ a b post := by
  unfold w_X11_ticks
  refine c_isClock (fun g => br_1 rfl (h1 (Or.inl g))) (fun c ec hc => br_0 (by decide) ?_)
  refine c_isClock (fun g => br_1 rfl (h1 (Or.inr (Or.inl g)))) (fun d ed hd => br_0 (by decide) ?_)
  refine br_2 (fun z => h1 (Or.inr (Or.inr z))) (fun z => ?_)
  rw [hR.2.2.2.1]
  exact c_ticksOf (dig_dg hWB hT) ec ed hc hd (h2 c d ec hc ed hd (fun e => z (by rw [ec, ed, e])))
theorem c_broken {σ : St} {N : Ne} {P : Pr} {bd : Nat → Nat} {r : Ru} {a : Int32} {post : Int32 → Prop} (hN : CN σ N) (hW : WN N) (hP : CP σ N P) (hWP : WP N P) (hR : CRu σ N bd r) (hm : r.1 ≤ 60)
    (h1 : ixI a P.1 = none → post (-1))
    (h2 : ∀ p, a = nI p → p < P.1 → (∀ i, i ≤ r.1 → kepR N P r p i = true) → post (-2))
    (h3 : ∀ p i, a = nI p → p < P.1 → i ≤ r.1 → kepR N P r p i = false → (∀ j, j < i → kepR N P r p j = true) → post (nI i)) : w_X11_broken σ a post := by
  unfold w_X11_broken
  refine c_has hP hWP.1 (fun g => br_1 rfl (h1 g)) (fun p ep hp => br_0 (by decide) (jn_at ?_))
  refine lpE1_inv (I := fun y5 => ∃ i, i ≤ r.1 + 1 ∧ y5 = nI i ∧ ∀ j, j < i → kepR N P r p j = true) (μ := fun y5 => r.1 + 1 - y5.toNatClampNeg) ?_ 0 ⟨0, by omega, rfl, fun j hj => absurd hj (Nat.not_lt_zero j)⟩
  rintro rec y5 ⟨i, hi, rfl, hk⟩ hrec
  unfold w_X11_broken_L15
  refine br_lt r.1 i hR.1 rfl (by omega) (by omega) (fun q => h2 p ep hp (fun j hj => hk j (by omega))) (fun q => ?_)
  refine jn_1 (fun y9 => y9 = nI (i - 1)) (fun J hJ => ?_) ?_
  · refine br_eq i 0 rfl rfl (by omega) (by omega) (fun e => hJ _ (by rw [e]; rfl)) (fun e => hJ _ ?_)
    rw [show (1 : Int32) = nI 1 from rfl, pk_sub (by omega)]
  rintro y9 rfl
  refine rd_of (i - 1) rfl (by omega) (by decide) (rd_of i rfl (by omega) (by decide) ?_)
  refine c_holds (first := decide (i = 0)) hN hW hP hWP ep hp (hR.2.1 (i - 1) (by omega)) (hR.2.1 i q) (fun f d _ _ => ?_) ?_
  · have : i = 0 := by simpa using f
    rw [this]
  show br (bI (kepR N P r p i) = 0) _ _
  cases t : kepR N P r p i with
  | false => exact br_1 rfl (h3 p i ep hp q t hk)
  | true =>
    refine br_0 (by decide) (nm_of (hrec _ ⟨i + 1, by omega, nI_1 i, fun j hj => ?_⟩ ?_))
    · rcases (show j < i ∨ j = i by omega) with z | z
      · exact hk j z
      · rw [z]; exact t
    · rw [nI_1, cl_nI (by omega), cl_nI (by omega)]; omega
