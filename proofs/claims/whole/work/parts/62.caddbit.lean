/-! THE CLASS: addBit -/
abbrev frA (σ σ' : St) : Prop := fr [8, 9, 10, 11, 12, 13, 14, 15, 16, 17] [(1, 0), (1, 1), (1, 2), (1, 4)] σ σ'
set_option maxHeartbeats 2000000 in
theorem c_addBit {σ : St} {N : Ne} {fs sl : Nat → Bool} {k c : Nat} {f : Bool} {post : Int32 → St → Prop} (hN : CN σ N) (hW : WN N) (hF : CF σ N fs) (hS : CS σ N sl) (hn : nn N < 24) (hb : nb N < 10) (hk : k = 5 ∨ k = 6) (hc : c < 4) (hf : k = 5 → f = false)
    (h : ∀ σ', frA σ σ' → CN σ' (addB N k c) → CF σ' (addB N k c) (fu fs (nn N) f) → CS σ' (addB N k c) (fu sl (nn N) false) → post (nI (nn N)) σ') : w_X4_addBit σ (nI k) (nI c) (bI f) post := by
  obtain ⟨h1, h2, h3, h4, h5, h6, h7, h8, h9, h10, h11, h12⟩ := id hN
  have k4 : 4 < k := by omega
  unfold w_X4_addBit
  refine nm_as _ h1 (nm_as _ h2 ?_)
  refine jn_1 (fun y4 => y4 = if k = 5 then -2 else nI (nn N)) (fun J hJ => br_eq k 6 rfl rfl (by omega) (by omega) (fun e => hJ _ (by rw [if_neg (by omega)])) (fun e => hJ _ (by rw [if_pos (by omega)]))) ?_
  rintro y4 e4
  unfold w_X4_put
  refine ck_of (nn N) rfl (by omega) (by decide) (nm_of (ck_of (nn N) rfl (by omega) (by decide) (nm_of (ck_of (nn N) rfl (by omega) (by decide) (nm_of (ck_of (nn N) rfl (by omega) (by decide) (nm_of ?_)))))))
  refine ck_of (nn N) rfl (by omega) (by decide) (nm_of (ck_of (nn N) rfl (by omega) (by decide) (nm_of (ck_of (nb N) rfl (by omega) (by decide) (nm_of ?_)))))
  rw [cl_nI (show nn N < 2 ^ 31 by omega), cl_nI (show nb N < 2 ^ 31 by omega)]
  generalize t9 : upI (upI (upI (upI (upI (upI (upI σ 8 (nn N) (nI k)) 10 (nn N) y4) 11 (nn N) (-2)) 12 (nn N) (-2)) 9 (nn N) (nI c)) 13 (nn N) (nI (nb N))) 14 (nb N) (nI (nn N)) = σ9
  have a9 : ∀ A B, σ9.1 A B = if A = 14 ∧ B = nb N then nI (nn N) else if A = 13 ∧ B = nn N then nI (nb N) else if A = 9 ∧ B = nn N then nI c else if A = 12 ∧ B = nn N then -2 else if A = 11 ∧ B = nn N then -2 else if A = 10 ∧ B = nn N then y4 else if A = 8 ∧ B = nn N then nI k else σ.1 A B := by
    intro A B
    rw [← t9]
    simp only [upI_get]
  have l9 : σ9.2 = σ.2 := by rw [← t9]; rfl
  refine rd_of c rfl hc (by decide) (ck_of c rfl hc (by decide) (nm_of (nm_of ?_)))
  rw [cl_nI (show c < 2 ^ 31 by omega)]
  have v15 : σ9.1 15 c = σ.1 15 c := by rw [a9]; simp
  rw [v15]
  generalize t12 : upI (upI σ9 15 c (σ.1 15 c ||| ((1 : Int32) <<< (nI (nb N) &&& 31)))) 1 2 ((upI σ9 15 c (σ.1 15 c ||| ((1 : Int32) <<< (nI (nb N) &&& 31)))).1 1 2 ||| (bI f <<< (nI (nb N) &&& 31))) = σ12
  refine jn_1 (fun y14 => ∀ i, bt y14 i = (decide (k = 6) && decide (i = nb N))) (fun J hJ => br_eq k 6 rfl rfl (by omega) (by omega) (fun e => hJ _ (fun i => by rw [b_one (by omega)]; simp [e])) (fun e => hJ _ (fun i => by rw [b_0]; simp [e]))) ?_
  intro y14 h14
  refine nm_of (ck_of (nn N) rfl (by omega) (by decide) (nm_of (jn_at ?_)))
  generalize t16 : upI (upI σ12 1 4 (σ12.1 1 4 ||| y14)) 16 (nn N) ((1 : Int32) <<< (nI (nb N) &&& 31)) = σ16
  have a16 : ∀ A B, σ16.1 A B = if A = 16 ∧ B = nn N then ((1 : Int32) <<< (nI (nb N) &&& 31)) else if A = 1 ∧ B = 4 then σ.1 1 4 ||| y14 else if A = 1 ∧ B = 2 then σ.1 1 2 ||| (bI f <<< (nI (nb N) &&& 31)) else if A = 15 ∧ B = c then σ.1 15 c ||| ((1 : Int32) <<< (nI (nb N) &&& 31)) else σ9.1 A B := by
    intro A B
    have e14 : σ12.1 1 4 = σ.1 1 4 := by rw [← t12, upI_get, if_neg (by omega), upI_get, if_neg (by omega), a9]; simp
    have e12 : (upI σ9 15 c (σ.1 15 c ||| ((1 : Int32) <<< (nI (nb N) &&& 31)))).1 1 2 = σ.1 1 2 := by rw [upI_get, if_neg (by omega), a9]; simp
    rw [← t16, upI_get, upI_get, e14, ← t12, upI_get, e12, upI_get]
  have l16 : σ16.2 = σ.2 := by rw [← t16, ← t12]; exact l9
  have f16 : frA σ σ16 := by
    rw [← t16, ← t12, ← t9]
    exact fr_stepI (fr_stepI (fr_stepI (fr_stepI (fr_stepI (fr_stepI (fr_stepI (fr_stepI (fr_stepI (fr_stepI (fr_I σ _ _ _ (by simp)) _ _ _ (by simp)) _ _ _ (by simp)) _ _ _ (by simp)) _ _ _ (by simp)) _ _ _ (by simp)) _ _ _ (by simp)) _ _ _ (by simp)) _ _ _ (by simp)) _ _ _ (by simp)) _ _ _ (by simp)
  refine lpE2_inv (I := fun y s => ∃ w, w ≤ 16 ∧ y = nI w ∧ frA σ s ∧ fr [17] [] σ16 s ∧ (∀ j, j < 16 * nn N → s.2 17 j = σ.2 17 j) ∧ (∀ u, u < w → ∀ j, j < 64 → lb (s.2 17 (16 * nn N + u)) j = (64 * u + j).testBit (nb N))) (μ := fun y _ => 16 - y.toNatClampNeg) ?_ 0 σ16 ⟨0, by omega, rfl, f16, fr_rf, fun j _ => by rw [l16], fun u hu => absurd hu (Nat.not_lt_zero u)⟩
  rintro rec y s ⟨w, hw, rfl, fS, gS, oS, nS⟩ hrec
  unfold w_X4_addBit_L125
  refine br_le 16 w rfl rfl (by omega) (by omega) (fun q => ?_) (fun q => ?_)
  rotate_left
  · refine c_wordOfBit rfl hb rfl q (fun r hr => ?_)
    have ei : nI (nn N) * (16 : Int32) + nI w = nI (16 * nn N + w) := by rw [show (16 : Int32) = nI 16 from rfl, pk_mul, nI_add, Nat.mul_comm]
    refine ck_of (16 * nn N + w) ei (by omega) (by decide) (nm_of (nm_of ?_))
    rw [ei, cl_nI (show 16 * nn N + w < 2 ^ 31 by omega)]
    refine hrec _ _ ⟨w + 1, q, nI_1 w, fr_stepJ fS _ _ _ (by simp), fr_stepJ gS _ _ _ (by simp), fun j hj => ?_, fun u hu j hj => ?_⟩ (by rw [nI_1, cl_nI (by omega), cl_nI (by omega)]; omega)
    · rw [upJ_get, if_neg (by omega)]; exact oS j hj
    · rw [upJ_get]
      by_cases g : u = w
      · rw [if_pos ⟨rfl, by omega⟩, g]; exact hr j hj
      · rw [if_neg (by omega)]; exact nS u (by omega) j hj
  have aS := fr_ag (S1 := [8, 9, 10, 11, 12, 13, 14, 15, 16]) (F1 := [(1, 0), (1, 1), (1, 2), (1, 3), (1, 4)]) gS (by decide)
  have s10 : s.1 1 0 = nI (nn N) := by rw [(aS 1 0 (by simp)).1, a16, a9]; simp; exact h1
  have s11 : s.1 1 1 = nI (nb N) := by rw [(aS 1 1 (by simp)).1, a16, a9]; simp; exact h2
  refine nm_of (nm_of ?_)
  rw [s11, nI_1]
  have e0 : (upI s 1 1 (nI (nb N + 1))).1 1 0 = nI (nn N) := by rw [upI_get, if_neg (by omega)]; exact s10
  rw [e0, nI_1]
  generalize t : upI (upI s 1 1 (nI (nb N + 1))) 1 0 (nI (nn N + 1)) = σ'
  have all : ∀ A B, σ'.1 A B = if A = 1 ∧ B = 0 then nI (nn N + 1) else if A = 1 ∧ B = 1 then nI (nb N + 1) else s.1 A B := by
    intro A B
    rw [← t, upI_get, upI_get]
  have l' : σ'.2 = s.2 := by rw [← t]; rfl
  have f' : frA σ σ' := by rw [← t]; exact fr_stepI (fr_stepI fS _ _ _ (by simp)) _ _ _ (by simp)
  -- the arrays' places
  have arr : ∀ A B, A ∈ [8, 9, 10, 11, 12, 13, 14, 15, 16] → σ'.1 A B = σ16.1 A B := by
    intro A B hA
    have : A ≠ 1 := by rintro rfl; revert hA; decide
    rw [all, if_neg (fun z => this z.1), if_neg (fun z => this z.1), (aS A B (Or.inl hA)).1]
  have ebit : ∀ d, d < nn N + 1 → fb_ct (isB (addB N k c)) d = fb_ct (isB N) d := fun d hd => fbx N k c (by omega)
  have ek : ∀ i, i < nn N → nk (addB N k c) i = nk N i := fun i hi => fu_n _ _ (by omega)
  have e2x : ∀ i, i < nn N → nk N i ≤ 4 → nx (addB N k c) i = nx N i ∧ ny (addB N k c) i = ny N i ∧ nz (addB N k c) i = nz N i := fun i hi _ => ⟨fu_n _ _ (by omega), rfl, rfl⟩
  refine h σ' f' ⟨?_, ?_, fun i hi => ?_, fun i hi => ?_, fun i hi => ?_, fun i hi => ?_, fun i hi => ?_, fun i hi g => ?_, fun j hj => ?_, fun i hi => ?_, ?_, fun i hi a ha => ?_⟩ ?_ ?_
  · rw [all, if_pos ⟨rfl, rfl⟩]; rfl
  · rw [all, if_neg (by omega), if_pos ⟨rfl, rfl⟩]; exact congrArg nI (nb_addB N c k4).symm
  · have hi : i < nn N + 1 := hi
    rw [arr 8 i (by simp), a16, a9]
    show _ = nI (fu (nk N) (nn N) k i)
    by_cases q' : i = nn N
    · simp [q', fu_s]
    · rw [fu_n _ _ q']; simp [q']; exact h3 i (by omega)
  · have hi : i < nn N + 1 := hi
    rw [arr 9 i (by simp), a16, a9]
    show _ = if 4 < fu (nk N) (nn N) k i then nI (fu (nc N) (nn N) c i) else -2
    by_cases q' : i = nn N
    · rw [q', fu_s, fu_s]; simp [k4]
    · rw [fu_n _ _ q', fu_n _ _ q']; simp [q']; exact h4 i (by omega)
  · have hi : i < nn N + 1 := hi
    rw [arr 10 i (by simp), a16, a9]
    show _ = if fu (nk N) (nn N) k i = 5 then -2 else nI (fu (nx N) (nn N) (nn N) i)
    by_cases q' : i = nn N
    · rw [q', fu_s, fu_s]; simp [e4]
    · rw [fu_n _ _ q', fu_n _ _ q']; simp [q']; exact h5 i (by omega)
  · have hi : i < nn N + 1 := hi
    rw [arr 11 i (by simp), a16, a9]
    show _ = if fu (nk N) (nn N) k i ≤ 4 ∧ fu (nk N) (nn N) k i ≠ 3 then nI (ny N i) else -2
    by_cases q' : i = nn N
    · rw [q', fu_s]; simp [show ¬ k ≤ 4 by omega]
    · rw [fu_n _ _ q']; simp [q']; exact h6 i (by omega)
  · have hi : i < nn N + 1 := hi
    rw [arr 12 i (by simp), a16, a9]
    show _ = if fu (nk N) (nn N) k i = 4 then nI (nz N i) else -2
    by_cases q' : i = nn N
    · rw [q', fu_s]; simp [show ¬ k = 4 by omega]
    · rw [fu_n _ _ q']; simp [q']; exact h7 i (by omega)
  · have hi : i < nn N + 1 := hi
    have g : 4 < fu (nk N) (nn N) k i := g
    rw [arr 13 i (by simp), arr 14 _ (by simp), ebit i hi, a16, a16, a9, a9]
    by_cases q' : i = nn N
    · rw [q']
      refine ⟨?_, ?_⟩
      · simp; rfl
      · rw [show fb_ct (isB N) (nn N) = nb N from rfl]; simp
    · rw [fu_n _ _ q'] at g
      have l : fb_ct (isB N) i < nb N := ix_lt g (by omega)
      have := h8 i (by omega) g
      simp [q', show ¬ fb_ct (isB N) i = nb N by omega]
      exact this
  · rw [arr 15 j (by simp), a16, a9]
    by_cases q' : j = c
    · refine PM_add k4 (b := true) (h9 j hj) (fun i => ?_) (fun d hd _ => ?_) ?_
      · subst q'
        simp
        rw [b_or, b_one (by omega)]
        by_cases z : i = nb N <;> simp [z]
      · show decide (fu (nc N) (nn N) c d = j) = _; rw [fu_n _ _ (by omega)]
      · show decide (fu (nc N) (nn N) c (nn N) = j) = true; rw [fu_s]; simp [q']
    · have e : (if 15 = 16 ∧ j = nn N then ((1 : Int32) <<< (nI (nb N) &&& 31)) else if 15 = 1 ∧ j = 4 then σ.1 1 4 ||| y14 else if 15 = 1 ∧ j = 2 then σ.1 1 2 ||| (bI f <<< (nI (nb N) &&& 31)) else if 15 = 15 ∧ j = c then σ.1 15 c ||| ((1 : Int32) <<< (nI (nb N) &&& 31)) else if 15 = 14 ∧ j = nb N then nI (nn N) else if 15 = 13 ∧ j = nn N then nI (nb N) else if 15 = 9 ∧ j = nn N then nI c else if 15 = 12 ∧ j = nn N then -2 else if 15 = 11 ∧ j = nn N then -2 else if 15 = 10 ∧ j = nn N then y4 else if 15 = 8 ∧ j = nn N then nI k else σ.1 15 j) = σ.1 15 j := by simp [q']
      rw [e]
      refine PM_add0 k4 (h9 j hj) (fun d hd _ => ?_) ?_
      · show decide (fu (nc N) (nn N) c d = j) = _; rw [fu_n _ _ (by omega)]
      · show decide (fu (nc N) (nn N) c (nn N) = j) = false; rw [fu_s]; simp; omega
  · have hi : i < nn N + 1 := hi
    rw [arr 16 i (by simp), a16, a9]
    by_cases q' : i = nn N
    · have e : HG (addB N k c) (nn N) = fun b => decide (b = nn N) := by
        funext b
        exact HG_bit (addB N k c) (c := nn N) (show 4 < fu (nk N) (nn N) k (nn N) by rw [fu_s]; exact k4) b
      rw [q', e]
      simp
      refine ⟨fun d hd g => ?_, fun j hj => ?_⟩
      · have hd : d < nn N + 1 := hd
        have g : 4 < fu (nk N) (nn N) k d := g
        rw [ebit d hd, b_one (by omega)]
        by_cases z : d = nn N
        · rw [z]; simp; rfl
        · rw [fu_n _ _ z] at g
          have l : fb_ct (isB N) d < nb N := ix_lt g (by omega)
          simp [z, show ¬ fb_ct (isB N) d = nb N by omega]
      · rw [nb_addB N c k4] at hj
        rw [b_one (by omega)]
        simp; omega
    · simp [q']
      refine PM_add0 k4 (h10 i (by omega)) (fun d hd _ => HG_ext hW (by show nn N ≤ nn N + 1; omega) ek e2x (by omega) d) ?_
      rw [HG_ext hW (by show nn N ≤ nn N + 1; omega) ek e2x (by omega)]
      cases z : HG N i (nn N) with
      | false => rfl
      | true => have := (HG_lt hW i (by omega) z).1; omega
  · rw [all, if_neg (by omega), if_neg (by omega), (aS 1 4 (by simp)).1, a16, if_neg (by omega), if_pos ⟨rfl, rfl⟩]
    refine PM_add k4 (b := decide (k = 6)) h11 (fun i => ?_) (fun d hd _ => ?_) ?_
    · rw [b_or, h14 i]
      by_cases z : i = nb N
      · rw [if_pos z, z, h11.2 _ (Nat.le_refl _)]; simp
      · simp [z]
    · show decide (fu (nk N) (nn N) k d = 6) = _; rw [fu_n _ _ (by omega)]
    · show decide (fu (nk N) (nn N) k (nn N) = 6) = _; rw [fu_s]
  · have hi : i < nn N + 1 := hi
    rw [l']
    have eu : ∀ d, d < nn N → upk (addB N k c) a d = upk N a d := by
      intro d hd
      show (decide (d < nn N + 1) && isB (addB N k c) d && a.testBit (fb_ct (isB (addB N k c)) d)) = (decide (d < nn N) && isB N d && a.testBit (fb_ct (isB N) d))
      rw [ebit d (by omega), isB_addB, fu_n _ _ (by omega)]
      simp [hd, show d < nn N + 1 by omega]
    by_cases q' : i = nn N
    · rw [q', EV_bit (addB N k c) _ (show 4 < fu (nk N) (nn N) k (nn N) by rw [fu_s]; exact k4), nS (a / 64) (by omega) (a % 64) (Nat.mod_lt _ (by decide))]
      show _ = (decide (nn N < nn N + 1) && isB (addB N k c) (nn N) && a.testBit (fb_ct (isB (addB N k c)) (nn N)))
      rw [ebit _ (by omega), isB_addB, fu_s, show 64 * (a / 64) + a % 64 = a by omega]
      simp [k4]; rfl
    · rw [oS _ (by omega), h12 i (by omega) a ha, EV_ext (by show nn N ≤ nn N + 1; omega) ek e2x _ (by omega)]
      exact (EV_cong hW (fun d hd _ => eu d hd) i (by omega)).symm
  · show PM (addB N k c) (σ'.1 1 2) (fz (addB N k c) (fu fs (nn N) f))
    rw [all, if_neg (by omega), if_neg (by omega), (aS 1 2 (by simp)).1, a16, if_neg (by omega), if_neg (by omega), if_pos ⟨rfl, rfl⟩]
    have hF' : PM N (σ.1 1 2) (fz N fs) := hF
    refine PM_add k4 (b := f) hF' (fun i => ?_) (fun d hd _ => ?_) ?_
    · rw [b_or, b_put1 (by omega)]
      by_cases z : i = nb N
      · rw [if_pos z, z, hF'.2 _ (Nat.le_refl _)]; simp
      · simp [z]
    · show (decide (d < nn N + 1) && decide (fu (nk N) (nn N) k d = 6) && fu fs (nn N) f d) = (decide (d < nn N) && decide (nk N d = 6) && fs d)
      rw [fu_n _ _ (by omega), fu_n _ _ (by omega)]
      simp [hd, show d < nn N + 1 by omega]
    · show (decide (nn N < nn N + 1) && decide (fu (nk N) (nn N) k (nn N) = 6) && fu fs (nn N) f (nn N)) = f
      rw [fu_s, fu_s]
      rcases hk with z | z
      · rw [hf z]; simp
      · simp [z]
  · show PM (addB N k c) (σ'.1 1 3) (fu sl (nn N) false)
    have e : σ'.1 1 3 = σ.1 1 3 := by rw [all, if_neg (by omega), if_neg (by omega), (aS 1 3 (by simp)).1, a16, a9]; simp
    rw [e]
    exact PM_add0 k4 hS (fun d hd _ => fu_n _ _ (by omega)) (fu_s _ _ _)
