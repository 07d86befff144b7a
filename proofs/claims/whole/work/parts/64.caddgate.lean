/-! THE CLASS: addGate -/
theorem fbxG (N : Ne) (k a b c : Nat) {d : Nat} (hd : d ≤ nn N) : fb_ct (isB (addG N k a b c)) d = fb_ct (isB N) d := by
  rw [isB_addG]
  exact fb_ct_cong (fun i hi => fu_n _ _ (by omega))
theorem PM_addG {N : Ne} {k a b c : Nat} (hk : k ≤ 4) {m : Int32} {p p' : Nat → Bool} (h : PM N m p) (hp : ∀ d, d < nn N → 4 < nk N d → p' d = p d) : PM (addG N k a b c) m p' := by
  refine ⟨fun d hd g => ?_, fun i hi => ?_⟩
  · have hd : d < nn N + 1 := hd
    have g : 4 < fu (nk N) (nn N) k d := g
    by_cases q : d = nn N
    · rw [q, fu_s] at g; omega
    · rw [fu_n _ _ q] at g
      rw [fbxG N k a b c (by omega), h.1 d (by omega) g, hp d (by omega) g]
  · rw [nb_addG N a b c hk] at hi
    exact h.2 i hi
set_option maxHeartbeats 2000000 in
theorem c_addGate {σ : St} {N : Ne} {fs sl : Nat → Bool} {k x y z : Nat} {a3 a4 : Int32} {post : Int32 → St → Prop} (hN : CN σ N) (hW : WN N) (hF : CF σ N fs) (hS : CS σ N sl) (hn : nn N < 24) (hk : k ≤ 4) (hx : x < nn N) (hy : k ≠ 3 → y < nn N) (hz : k = 4 → z < nn N) (e3 : a3 = if k ≠ 3 then nI y else -2) (e4 : a4 = if k = 4 then nI z else -2)
    (h : ∀ σ', frA σ σ' → CN σ' (addG N k x y z) → CF σ' (addG N k x y z) fs → CS σ' (addG N k x y z) sl → post (nI (nn N)) σ') : w_X4_addGate σ (nI k) (nI x) a3 a4 post := by
  obtain ⟨h1, h2, h3, h4, h5, h6, h7, h8, h9, h10, h11, h12⟩ := id hN
  have hW' := WN_addG hW hn hk hx hy hz
  unfold w_X4_addGate
  refine nm_as _ h1 ?_
  unfold w_X4_put
  refine ck_of (nn N) rfl (by omega) (by decide) (nm_of (ck_of (nn N) rfl (by omega) (by decide) (nm_of (ck_of (nn N) rfl (by omega) (by decide) (nm_of (ck_of (nn N) rfl (by omega) (by decide) (nm_of ?_)))))))
  refine ck_of (nn N) rfl (by omega) (by decide) (nm_of (ck_of (nn N) rfl (by omega) (by decide) (nm_of ?_)))
  rw [cl_nI (show nn N < 2 ^ 31 by omega)]
  generalize t5 : upI (upI (upI (upI (upI (upI σ 8 (nn N) (nI k)) 10 (nn N) (nI x)) 11 (nn N) a3) 12 (nn N) a4) 9 (nn N) (-2)) 13 (nn N) (-2) = σ5
  have a5 : ∀ A B, σ5.1 A B = if A = 13 ∧ B = nn N then -2 else if A = 9 ∧ B = nn N then -2 else if A = 12 ∧ B = nn N then a4 else if A = 11 ∧ B = nn N then a3 else if A = 10 ∧ B = nn N then nI x else if A = 8 ∧ B = nn N then nI k else σ.1 A B := by
    intro A B
    rw [← t5]
    simp only [upI_get]
  have l5 : σ5.2 = σ.2 := by rw [← t5]; rfl
  have f5 : frA σ σ5 := by
    rw [← t5]
    exact fr_stepI (fr_stepI (fr_stepI (fr_stepI (fr_stepI (fr_I σ _ _ _ (by simp)) _ _ _ (by simp)) _ _ _ (by simp)) _ _ _ (by simp)) _ _ _ (by simp)) _ _ _ (by simp)
  have lkl : ∀ r, (r = x ∨ (k ≠ 3 ∧ r = y) ∨ (k = 4 ∧ r = z)) → r < nn N := by
    rintro r (rfl | ⟨q, rfl⟩ | ⟨q, rfl⟩)
    · exact hx
    · exact hy q
    · exact hz q
  refine c_workOut (c := nn N) (k := k) (x := x) (y := y) (z := z) (T := fun r a => EV N (upk N a) r) rfl hn hk (by rw [a5]; simp) (by rw [a5]; simp) (by rw [a5]; simp [e3]) (by rw [a5]; simp [e4]) ⟨by omega, by omega⟩ (fun q => ⟨by have := hy q; omega, by have := hy q; omega⟩) (fun q => ⟨by have := hz q; omega, by have := hz q; omega⟩) (fun r hr u hu j hj => ?_) (fun s fS o16 n16 oT nT => ?_)
  · have := h12 r (lkl r hr) (64 * u + j) (by omega)
    rw [show (64 * u + j) / 64 = u by omega, show (64 * u + j) % 64 = j by omega] at this
    rw [l5]; exact this
  have aS := fr_ag (S1 := [8, 9, 10, 11, 12, 13, 14, 15]) (F1 := [(1, 0), (1, 1), (1, 2), (1, 3), (1, 4)]) fS (by decide)
  have s10 : s.1 1 0 = nI (nn N) := by rw [(aS 1 0 (by simp)).1, a5]; simp; exact h1
  refine nm_of ?_
  rw [s10, nI_1]
  generalize t : upI s 1 0 (nI (nn N + 1)) = σ'
  have all : ∀ A B, σ'.1 A B = if A = 1 ∧ B = 0 then nI (nn N + 1) else s.1 A B := by
    intro A B
    rw [← t, upI_get]
  have l' : σ'.2 = s.2 := by rw [← t]; rfl
  have f' : frA σ σ' := by rw [← t]; exact fr_stepI (fr_tr f5 (fr_mo fS (by decide))) _ _ _ (by simp)
  have arr : ∀ A B, A ∈ [8, 9, 10, 11, 12, 13, 14, 15] → σ'.1 A B = σ5.1 A B := by
    intro A B hA
    have : A ≠ 1 := by rintro rfl; revert hA; decide
    rw [all, if_neg (fun z => this z.1), (aS A B (Or.inl hA)).1]
  have arr16 : ∀ B, σ'.1 16 B = s.1 16 B := fun B => by rw [all, if_neg (by omega)]
  have v16 : ∀ d, d < nn N → s.1 16 d = σ.1 16 d := fun d hd => by rw [o16 d (by omega), a5]; simp
  have ebit : ∀ d, d < nn N + 1 → fb_ct (isB (addG N k x y z)) d = fb_ct (isB N) d := fun d hd => fbxG N k x y z (by omega)
  have ek : ∀ i, i < nn N → nk (addG N k x y z) i = nk N i := fun i hi => fu_n _ _ (by omega)
  have e2x : ∀ i, i < nn N → nk N i ≤ 4 → nx (addG N k x y z) i = nx N i ∧ ny (addG N k x y z) i = ny N i ∧ nz (addG N k x y z) i = nz N i := fun i hi _ => ⟨fu_n _ _ (by omega), fu_n _ _ (by omega), fu_n _ _ (by omega)⟩
  have hx' : ∀ d b, d < nn N → HG (addG N k x y z) d b = HG N d b := fun d b hd => HG_ext hW (by show nn N ≤ nn N + 1; omega) ek e2x hd b
  have kn : nk (addG N k x y z) (nn N) = k := fu_s _ _ _
  have ev' : ∀ v d, d < nn N → EV (addG N k x y z) v d = EV N v d := fun v d hd => EV_ext (by show nn N ≤ nn N + 1; omega) ek e2x v hd
  have eu : ∀ a d, d < nn N → upk (addG N k x y z) a d = upk N a d := by
    intro a d hd
    show (decide (d < nn N + 1) && isB (addG N k x y z) d && a.testBit (fb_ct (isB (addG N k x y z)) d)) = (decide (d < nn N) && isB N d && a.testBit (fb_ct (isB N) d))
    rw [ebit d (by omega), isB_addG, fu_n _ _ (by omega)]
    simp [hd, show d < nn N + 1 by omega]
  have evu : ∀ a d, d < nn N → EV (addG N k x y z) (upk (addG N k x y z) a) d = EV N (upk N a) d := fun a d hd => by
    rw [ev' _ d hd]
    exact EV_cong hW (fun i hi _ => eu a i hi) d hd
  refine h σ' f' ⟨?_, ?_, fun i hi => ?_, fun i hi => ?_, fun i hi => ?_, fun i hi => ?_, fun i hi => ?_, fun i hi g => ?_, fun j hj => ?_, fun i hi => ?_, ?_, fun i hi a ha => ?_⟩ ?_ ?_
  · rw [all, if_pos ⟨rfl, rfl⟩]; rfl
  · rw [all, if_neg (by omega), (aS 1 1 (by simp)).1, a5, nb_addG N x y z hk]; simp; exact h2
  · have hi : i < nn N + 1 := hi
    rw [arr 8 i (by simp), a5]
    show _ = nI (fu (nk N) (nn N) k i)
    by_cases q' : i = nn N
    · simp [q', fu_s]
    · rw [fu_n _ _ q']; simp [q']; exact h3 i (by omega)
  · have hi : i < nn N + 1 := hi
    rw [arr 9 i (by simp), a5]
    show _ = if 4 < fu (nk N) (nn N) k i then nI (nc N i) else -2
    by_cases q' : i = nn N
    · rw [q', fu_s]; simp [show ¬ 4 < k by omega]
    · rw [fu_n _ _ q']; simp [q']; exact h4 i (by omega)
  · have hi : i < nn N + 1 := hi
    rw [arr 10 i (by simp), a5]
    show _ = if fu (nk N) (nn N) k i = 5 then -2 else nI (fu (nx N) (nn N) x i)
    by_cases q' : i = nn N
    · rw [q', fu_s, fu_s]; simp [show ¬ k = 5 by omega]
    · rw [fu_n _ _ q', fu_n _ _ q']; simp [q']; exact h5 i (by omega)
  · have hi : i < nn N + 1 := hi
    rw [arr 11 i (by simp), a5]
    show _ = if fu (nk N) (nn N) k i ≤ 4 ∧ fu (nk N) (nn N) k i ≠ 3 then nI (fu (ny N) (nn N) y i) else -2
    by_cases q' : i = nn N
    · rw [q', fu_s, fu_s]; simp [hk, e3]
    · rw [fu_n _ _ q', fu_n _ _ q']; simp [q']; exact h6 i (by omega)
  · have hi : i < nn N + 1 := hi
    rw [arr 12 i (by simp), a5]
    show _ = if fu (nk N) (nn N) k i = 4 then nI (fu (nz N) (nn N) z i) else -2
    by_cases q' : i = nn N
    · rw [q', fu_s, fu_s]; simp [e4]
    · rw [fu_n _ _ q', fu_n _ _ q']; simp [q']; exact h7 i (by omega)
  · have hi : i < nn N + 1 := hi
    have g : 4 < fu (nk N) (nn N) k i := g
    by_cases q' : i = nn N
    · rw [q', fu_s] at g; omega
    · rw [fu_n _ _ q'] at g
      rw [arr 13 i (by simp), arr 14 _ (by simp), ebit i hi, a5, a5]
      simp [q']
      exact h8 i (by omega) g
  · rw [arr 15 j (by simp), a5]
    simp
    exact PM_addG hk (h9 j hj) (fun d hd _ => rfl)
  · have hi : i < nn N + 1 := hi
    rw [arr16 i]
    by_cases q' : i = nn N
    · rw [q']
      refine ⟨fun d hd g => ?_, fun j hj => ?_⟩
      · have hd : d < nn N + 1 := hd
        have g : 4 < fu (nk N) (nn N) k d := g
        by_cases qd : d = nn N
        · rw [qd, fu_s] at g; omega
        · rw [fu_n _ _ qd] at g
          have hd : d < nn N := by omega
          rw [ebit d (by omega), n16]
          have p16 : ∀ r, r < nn N → bt (σ5.1 16 r) (fb_ct (isB N) d) = HG N r d := fun r hr => by rw [a5]; simp; exact (h10 r hr).1 d hd g
          have key := HG_gate hW' (c := nn N) (by show nn N < nn N + 1; omega) (by rw [kn]; exact hk) d
          rw [Bool.eq_iff_iff, key, p16 x hx]
          simp only [Bool.or_eq_true, Bool.and_eq_true, decide_eq_true_eq]
          have lk : ∀ r, looks (addG N k x y z) (nn N) r ↔ (r = x ∨ (k ≠ 3 ∧ r = y) ∨ (k = 4 ∧ r = z)) := by
            intro r
            unfold looks
            rw [kn, show nx (addG N k x y z) (nn N) = x from fu_s _ _ _, show ny (addG N k x y z) (nn N) = y from fu_s _ _ _, show nz (addG N k x y z) (nn N) = z from fu_s _ _ _]
          constructor
          · rintro ((u | ⟨u3, u⟩) | ⟨u4, u⟩)
            · exact ⟨x, (lk x).mpr (Or.inl rfl), by rw [hx' x d hx]; exact u⟩
            · rw [p16 y (hy u3)] at u
              exact ⟨y, (lk y).mpr (Or.inr (Or.inl ⟨u3, rfl⟩)), by rw [hx' y d (hy u3)]; exact u⟩
            · rw [p16 z (hz u4)] at u
              exact ⟨z, (lk z).mpr (Or.inr (Or.inr ⟨u4, rfl⟩)), by rw [hx' z d (hz u4)]; exact u⟩
          · rintro ⟨r, hl, u⟩
            have hl := (lk r).mp hl
            rw [hx' r d (lkl r hl)] at u
            rcases hl with rfl | ⟨u3, rfl⟩ | ⟨u4, rfl⟩
            · exact Or.inl (Or.inl u)
            · exact Or.inl (Or.inr ⟨u3, by rw [p16 _ (hy u3)]; exact u⟩)
            · exact Or.inr ⟨u4, by rw [p16 _ (hz u4)]; exact u⟩
      · rw [nb_addG N x y z hk] at hj
        have z16 : ∀ r, r < nn N → bt (σ5.1 16 r) j = false := fun r hr => by rw [a5]; simp; exact (h10 r hr).2 j hj
        rw [n16, z16 x hx]
        by_cases u3 : k = 3
        · simp [u3]
        · rw [z16 y (hy u3)]
          by_cases u4 : k = 4
          · rw [z16 z (hz u4)]; simp
          · simp [u4]
    · rw [v16 i (by omega)]
      exact PM_addG hk (h10 i (by omega)) (fun d hd _ => hx' i d (by omega))
  · rw [all, if_neg (by omega), (aS 1 4 (by simp)).1, a5]
    simp
    exact PM_addG hk h11 (fun d hd _ => by rw [ek d hd])
  · have hi : i < nn N + 1 := hi
    rw [l']
    by_cases q' : i = nn N
    · have ha64 := Nat.mod_lt a (show 0 < 64 by decide)
      rw [q', nT (a / 64) (by omega) (a % 64) ha64, show 64 * (a / 64) + a % 64 = a by omega, EV_gate hW' _ (c := nn N) (by show nn N < nn N + 1; omega) (by rw [kn]; exact hk), kn, show nx (addG N k x y z) (nn N) = x from fu_s _ _ _, show ny (addG N k x y z) (nn N) = y from fu_s _ _ _, show nz (addG N k x y z) (nn N) = z from fu_s _ _ _, evu a x hx]
      by_cases u3 : k = 3
      · simp [gv, u3]
      · rw [evu a y (hy u3)]
        by_cases u4 : k = 4
        · rw [evu a z (hz u4)]
        · have : k = 0 ∨ k = 1 ∨ k = 2 := by omega
          rcases this with u | u | u <;> simp [gv, u]
    · rw [oT _ (by omega), l5, h12 i (by omega) a ha, evu a i (by omega)]
  · show PM (addG N k x y z) (σ'.1 1 2) (fz (addG N k x y z) fs)
    rw [all, if_neg (by omega), (aS 1 2 (by simp)).1, a5]
    simp
    refine PM_addG hk hF (fun d hd _ => ?_)
    show (decide (d < nn N + 1) && decide (fu (nk N) (nn N) k d = 6) && fs d) = (decide (d < nn N) && decide (nk N d = 6) && fs d)
    rw [fu_n _ _ (by omega)]
    simp [hd, show d < nn N + 1 by omega]
  · show PM (addG N k x y z) (σ'.1 1 3) sl
    rw [all, if_neg (by omega), (aS 1 3 (by simp)).1, a5]
    simp
    exact PM_addG hk hS (fun d hd _ => rfl)
