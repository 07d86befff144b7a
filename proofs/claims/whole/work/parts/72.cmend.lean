/-! THE CLASS: mend -/
theorem PM_hang {N : Ne} (hW : WN N) {c : Nat} (hc : c < nn N) (hg : nk N c ≤ 4) {m mx my mz : Int32} (hm : ∀ i, bt m i = (bt mx i || (decide (nk N c ≠ 3) && bt my i) || (decide (nk N c = 4) && bt mz i))) (px : PM N mx (HG N (nx N c))) (py : nk N c ≠ 3 → PM N my (HG N (ny N c))) (pz : nk N c = 4 → PM N mz (HG N (nz N c))) : PM N m (HG N c) := by
  refine ⟨fun d hd g => ?_, fun j hj => ?_⟩
  · rw [hm, px.1 d hd g, Bool.eq_iff_iff, HG_gate hW hc hg d]
    simp only [Bool.or_eq_true, Bool.and_eq_true, decide_eq_true_eq]
    constructor
    · rintro ((u | ⟨u3, u⟩) | ⟨u4, u⟩)
      · exact ⟨_, Or.inl rfl, u⟩
      · rw [(py u3).1 d hd g] at u
        exact ⟨_, Or.inr (Or.inl ⟨u3, rfl⟩), u⟩
      · rw [(pz u4).1 d hd g] at u
        exact ⟨_, Or.inr (Or.inr ⟨u4, rfl⟩), u⟩
    · rintro ⟨r, rfl | ⟨u3, rfl⟩ | ⟨u4, rfl⟩, u⟩
      · exact Or.inl (Or.inl u)
      · exact Or.inl (Or.inr ⟨u3, by rw [(py u3).1 d hd g]; exact u⟩)
      · exact Or.inr ⟨u4, by rw [(pz u4).1 d hd g]; exact u⟩
  · rw [hm, px.2 j hj]
    by_cases u3 : nk N c = 3
    · simp [u3]
    · rw [(py u3).2 j hj]
      by_cases u4 : nk N c = 4
      · rw [(pz u4).2 j hj]; simp
      · simp [u4]
section MEND
variable (N : Ne) (k : Nat)
abbrev menA : Ne := addB N 6 (nc N k)
abbrev menB : Ne := addB (menN0 N k) 6 (nc N k)
/-- behind the cells below c -/
def MI (σ4 : St) (c : Nat) (σ : St) : Prop := fr [10, 11, 12, 16, 17] [] σ4 σ ∧ (∀ d, d < nn N + 1 → σ.1 10 d = if d < c then (if nk (menA N k) d = 5 then -2 else nI (nx (menB N k) d)) else σ4.1 10 d) ∧ (∀ d, d < nn N + 1 → σ.1 11 d = if d < c then (if nk (menA N k) d ≤ 4 ∧ nk (menA N k) d ≠ 3 then nI (ny (menB N k) d) else -2) else σ4.1 11 d) ∧ (∀ d, d < nn N + 1 → σ.1 12 d = if d < c then (if nk (menA N k) d = 4 then nI (nz (menB N k) d) else -2) else σ4.1 12 d) ∧ (∀ d, d < nn N + 1 → d < c ∨ 4 < nk (menA N k) d → PM (menB N k) (σ.1 16 d) (HG (menB N k) d)) ∧ (∀ d, d < nn N + 1 → d < c ∨ 4 < nk (menA N k) d → ∀ a, a < 1024 → lb (σ.2 17 (16 * d + a / 64)) (a % 64) = EV (menB N k) (upk (menB N k) a) d)
end MEND
theorem MI_0 {N : Ne} {k : Nat} {σ4 : St} (hA : CN σ4 (menA N k)) : MI N k σ4 0 σ4 := by
  obtain ⟨h1, h2, h3, h4, h5, h6, h7, h8, h9, h10, h11, h12⟩ := hA
  refine ⟨fr_rf, fun d _ => by rw [if_neg (Nat.not_lt_zero d)], fun d _ => by rw [if_neg (Nat.not_lt_zero d)], fun d _ => by rw [if_neg (Nat.not_lt_zero d)], fun d hd g => ?_, fun d hd g a ha => ?_⟩
  · have g4 : 4 < nk (menA N k) d := g.resolve_left (Nat.not_lt_zero d)
    have e : PM (menB N k) (σ4.1 16 d) (HG (menA N k) d) := PM_kn rfl rfl (h10 d hd)
    refine PM_cong e (fun b _ _ => ?_)
    rw [HG_bit (menA N k) g4, HG_bit (menB N k) g4]
  · have g4 : 4 < nk (menA N k) d := g.resolve_left (Nat.not_lt_zero d)
    rw [h12 d hd a ha, EV_bit (menA N k) _ g4, EV_bit (menB N k) _ g4]
    rfl
theorem MI_end {N : Ne} {k : Nat} {σ4 σ : St} (hA : CN σ4 (menA N k)) (h : MI N k σ4 (nn N + 1) σ) : CN σ (menB N k) := by
  obtain ⟨h1, h2, h3, h4, h5, h6, h7, h8, h9, h10, h11, h12⟩ := hA
  obtain ⟨f, i10, i11, i12, i16, i17⟩ := h
  have e : ag [8, 9, 13, 14, 15] [(1, 0), (1, 1), (1, 4)] σ4 σ := fr_ag f (by decide)
  refine ⟨?_, ?_, fun c hc => ?_, fun c hc => ?_, fun c hc => ?_, fun c hc => ?_, fun c hc => ?_, fun c hc g => ?_, fun j hj => ?_, fun c hc => ?_, ?_, fun c hc a ha => ?_⟩
  · rw [(e 1 0 (by simp)).1]; exact h1
  · rw [(e 1 1 (by simp)).1]; exact h2
  · rw [(e 8 c (by simp)).1]; exact h3 c hc
  · rw [(e 9 c (by simp)).1]; exact h4 c hc
  · exact (i10 c hc).trans (if_pos hc)
  · exact (i11 c hc).trans (if_pos hc)
  · exact (i12 c hc).trans (if_pos hc)
  · rw [(e 13 c (by simp)).1, (e 14 _ (by simp)).1]; exact h8 c hc g
  · rw [(e 15 j (by simp)).1]; exact PM_kn rfl rfl (h9 j hj)
  · exact i16 c hc (Or.inl hc)
  · rw [(e 1 4 (by simp)).1]; exact PM_kn rfl rfl h11
  · exact i17 c hc (Or.inl hc) a ha
/-- one cell more -/
theorem MI_step {N : Ne} {k c : Nat} {σ4 σ σ' : St} {y14 y18 y22 : Int32} (hc : c < nn N + 1) (h : MI N k σ4 c σ) (e10 : y14 = if nk (menA N k) c = 5 then -2 else nI (nx (menB N k) c)) (e11 : y18 = if nk (menA N k) c ≤ 4 ∧ nk (menA N k) c ≠ 3 then nI (ny (menB N k) c) else -2) (e12 : y22 = if nk (menA N k) c = 4 then nI (nz (menB N k) c) else -2) (f : fr [10, 11, 12, 16, 17] [] σ σ') (g10 : ∀ d, σ'.1 10 d = if d = c then y14 else σ.1 10 d) (g11 : ∀ d, σ'.1 11 d = if d = c then y18 else σ.1 11 d) (g12 : ∀ d, σ'.1 12 d = if d = c then y22 else σ.1 12 d)
    (g16 : ∀ d, d ≠ c ∨ 4 < nk (menA N k) c → σ'.1 16 d = σ.1 16 d) (g17 : ∀ d, d ≠ c ∨ 4 < nk (menA N k) c → ∀ u, u < 16 → σ'.2 17 (16 * d + u) = σ.2 17 (16 * d + u)) (n16 : nk (menA N k) c ≤ 4 → PM (menB N k) (σ'.1 16 c) (HG (menB N k) c)) (n17 : nk (menA N k) c ≤ 4 → ∀ a, a < 1024 → lb (σ'.2 17 (16 * c + a / 64)) (a % 64) = EV (menB N k) (upk (menB N k) a) c) : MI N k σ4 (c + 1) σ' := by
  obtain ⟨f0, i10, i11, i12, i16, i17⟩ := h
  refine ⟨fr_tr f0 f, fun d hd => ?_, fun d hd => ?_, fun d hd => ?_, fun d hd g => ?_, fun d hd g a ha => ?_⟩
  · rw [g10 d, i10 d hd]
    by_cases q : d = c
    · rw [if_pos q, if_pos (show d < c + 1 by omega), q, e10]
    · rw [if_neg q]
      by_cases z : d < c
      · rw [if_pos z, if_pos (show d < c + 1 by omega)]
      · rw [if_neg z, if_neg (show ¬ d < c + 1 by omega)]
  · rw [g11 d, i11 d hd]
    by_cases q : d = c
    · rw [if_pos q, if_pos (show d < c + 1 by omega), q, e11]
    · rw [if_neg q]
      by_cases z : d < c
      · rw [if_pos z, if_pos (show d < c + 1 by omega)]
      · rw [if_neg z, if_neg (show ¬ d < c + 1 by omega)]
  · rw [g12 d, i12 d hd]
    by_cases q : d = c
    · rw [if_pos q, if_pos (show d < c + 1 by omega), q, e12]
    · rw [if_neg q]
      by_cases z : d < c
      · rw [if_pos z, if_pos (show d < c + 1 by omega)]
      · rw [if_neg z, if_neg (show ¬ d < c + 1 by omega)]
  · by_cases q : d = c
    · rcases Nat.lt_or_ge 4 (nk (menA N k) c) with z | z
      · rw [g16 d (Or.inr z)]
        exact i16 d hd (Or.inr (by rw [q]; exact z))
      · rw [q]; exact n16 z
    · rw [g16 d (Or.inl q)]
      exact i16 d hd (g.imp (fun z => by omega) id)
  · by_cases q : d = c
    · rcases Nat.lt_or_ge 4 (nk (menA N k) c) with z | z
      · rw [g17 d (Or.inr z) _ (by omega)]
        exact i17 d hd (Or.inr (by rw [q]; exact z)) a ha
      · rw [q]; exact n17 z a ha
    · rw [g17 d (Or.inl q) _ (by omega)]
      exact i17 d hd (g.imp (fun z => by omega) id) a ha
/-- the numbers in k's place -/
theorem menB_x {N : Ne} {k c : Nat} (hk : k < nn N) (hne : nx N k ≠ k) (h5 : nk (menA N k) c ≠ 5) : nx (menB N k) c = if nx (menA N k) c = k then nn N else nx (menA N k) c := by
  by_cases q : c = nn N
  · have e1 : nx (menB N k) c = nn N := by rw [q]; exact fu_s _ _ _
    have e2 : nx (menA N k) c = nn N := by rw [q]; exact fu_s _ _ _
    rw [e1, e2, if_neg (by omega)]
  · have e1 : nx (menB N k) c = if nk N c = 5 ∨ c = k then nx N c else rpl k (nn N) (nx N c) := fu_n _ _ q
    have e2 : nx (menA N k) c = nx N c := fu_n _ _ q
    have e3 : nk (menA N k) c = nk N c := fu_n _ _ q
    rw [e1, e2]
    rw [e3] at h5
    by_cases z : c = k
    · rw [if_pos (Or.inr z), z, if_neg hne]
    · rw [if_neg (by rintro (y | y); exact h5 y; exact z y)]
      rfl
theorem menB_y {N : Ne} {k c : Nat} : ny (menB N k) c = if ny (menA N k) c = k then nn N else ny (menA N k) c := rfl
theorem menB_z {N : Ne} {k c : Nat} : nz (menB N k) c = if nz (menA N k) c = k then nn N else nz (menA N k) c := rfl
theorem swap_br {P : Prop} [Decidable P] {a k n : Nat} {x y : Int32} {J : Int32 → Prop} {A : Prop} (ha : P → a < 2 ^ 31) (hk : k < 2 ^ 31) (hx : x = if P then nI a else -2) (hy : y = nI k) (hJ : ∀ w, w = (if P then nI (if a = k then n else a) else -2) → J w) (h2 : J x → A) : br (x = y) (J (nI n)) A := by
  have iff : x = nI k ↔ P ∧ a = k := opt_eq' ha hk (fun p => by rw [hx, if_pos p]) (fun p => by rw [hx, if_neg p])
  rw [hy]
  refine br_2 (fun z => hJ _ ?_) (fun z => h2 (hJ _ ?_))
  · obtain ⟨p, e⟩ := iff.mp z
    rw [if_pos p, if_pos e]
  · rw [hx]
    by_cases p : P
    · rw [if_pos p, if_pos p, if_neg (fun e => z (iff.mpr ⟨p, e⟩))]
    · rw [if_neg p, if_neg p]
set_option maxHeartbeats 1000000 in
theorem c_addBehind {σ : St} {N : Ne} {fs sl : Nat → Bool} {a : Int32} {k : Nat} {post : Int32 → St → Prop} (hN : CN σ N) (hW : WN N) (hF : CF σ N fs) (hS : CS σ N sl) (ha : a = nI k) (hk : k < nn N) (h6 : nk N k = 6) (hne : nx N k ≠ k) (hn : nn N < 24) (hb : nb N < 10)
    (h : ∀ σ', frA σ σ' → CN σ' (menN N k) → CF σ' (menN N k) (fu fs (nn N) (fs k)) → CS σ' (menN N k) (fu sl (nn N) false) → post (nI (nn N)) σ') : w_X4_addBehind σ a post := by
  have h24 := hW.1
  have kc := hW.2.2.1 k hk (by omega)
  have WB' := WN_men0 hW hn hb hk h6
  unfold w_X4_addBehind
  refine rd_of k ha (by omega) (by decide) (rd_of k ha (by omega) (by decide) ?_)
  have l : fb_ct (isB N) k < nb N := ix_lt (by omega) hk
  have ef : ((σ.1 1 2) >>> (σ.1 13 k &&& 31)) &&& (1 : Int32) = bI (fs k) := by
    rw [(hN.2.2.2.2.2.2.2.1 k hk (by omega)).1, b_get _ (by omega), hF.1 k hk (by omega)]
    unfold fz
    rw [decide_eq_true hk, decide_eq_true h6]; rfl
  rw [hN.2.2.2.1 k hk, if_pos (by omega), ef]
  refine c_addBit (k := 6) hN hW hF hS hn hb (Or.inr rfl) kc (fun n => absurd n (by decide)) (fun σ4 f4 hA hF4 hS4 => jn_at ?_)
  have hA' := id hA
  obtain ⟨q1, q2, q3, q4, q5, q6, q7, q8, q9, q10, q11, q12⟩ := hA'
  have n1 : nn (menA N k) = nn N + 1 := rfl
  have WA : WN (menA N k) := WN_addB hW hn hb (Or.inr rfl) kc (k := 6)
  refine lpE2_inv (I := fun y8 σ9 => ∃ c, c ≤ nn N + 1 ∧ y8 = nI c ∧ MI N k σ4 c σ9) (μ := fun y8 _ => nn N + 1 - y8.toNatClampNeg) ?_ 0 σ4 ⟨0, by omega, rfl, MI_0 hA⟩
  rintro rec y8 σ9 ⟨c, hc, rfl, hI⟩ hrec
  have s10 : σ9.1 1 0 = nI (nn N + 1) := by
    have e : ag [] [(1, 0)] σ4 σ9 := fr_ag hI.1 (by decide)
    rw [(e 1 0 (by simp)).1]; exact q1
  unfold w_X4_addBehind_L28
  refine br_le (nn N + 1) c s10 rfl (by omega) (by omega) (fun q => ?_) (fun q => ?_)
  · have ec : c = nn N + 1 := by omega
    subst ec
    refine ck_of (nn N) rfl (by omega) (by decide) (nm_of ?_)
    rw [cl_nI (by omega)]
    have hB := MI_end hA hI
    have fB : frA σ (upI σ9 10 (nn N) a) := fr_stepI (fr_tr f4 (fr_mo hI.1 (by decide))) _ _ _ (by simp)
    have e12 : (upI σ9 10 (nn N) a).1 1 2 = σ4.1 1 2 := by
      have e : ag [] [(1, 2)] σ4 σ9 := fr_ag hI.1 (by decide)
      rw [upI_get, if_neg (by omega), (e 1 2 (by simp)).1]
    have e13 : (upI σ9 10 (nn N) a).1 1 3 = σ4.1 1 3 := by
      have e : ag [] [(1, 3)] σ4 σ9 := fr_ag hI.1 (by decide)
      rw [upI_get, if_neg (by omega), (e 1 3 (by simp)).1]
    refine h _ fB (CN_con (k := nn N) (s := k) hB WB' (by show nn N < nn N + 1; omega) (fu_s _ _ _) (by show k < nn N + 1; omega) (fr_ag (fr_I σ9 (S := [10]) (F := []) 10 (nn N) a (by simp)) (by decide)) (fun d => ?_)) ?_ ?_
    · rw [upI_get, ha]
      by_cases z : d = nn N
      · rw [if_pos ⟨rfl, z⟩, if_pos z]
      · rw [if_neg (fun y => z y.2), if_neg z]
    · show PM (menN N k) _ _
      rw [e12]
      exact PM_cong (PM_kn rfl rfl hF4) (fun d _ _ => rfl)
    · show PM (menN N k) _ _
      rw [e13]
      exact PM_kn rfl rfl hS4
  have dec : nn N + 1 - (nI c + 1).toNatClampNeg < nn N + 1 - (nI c).toNatClampNeg := by rw [nI_1, cl_nI (by omega), cl_nI (by omega)]; omega
  have c6 := WA.2.1 c q
  have o10 : σ9.1 10 c = if nk (menA N k) c = 5 then -2 else nI (nx (menA N k) c) := by rw [hI.2.1 c q, if_neg (by omega)]; exact q5 c q
  have o11 : σ9.1 11 c = if nk (menA N k) c ≤ 4 ∧ nk (menA N k) c ≠ 3 then nI (ny (menA N k) c) else -2 := by rw [hI.2.2.1 c q, if_neg (by omega)]; exact q6 c q
  have o12 : σ9.1 12 c = if nk (menA N k) c = 4 then nI (nz (menA N k) c) else -2 := by rw [hI.2.2.2.1 c q, if_neg (by omega)]; exact q7 c q
  refine rd_of c rfl (by omega) (by decide) ?_
  refine jn_1 (fun y14 => y14 = if nk (menA N k) c = 5 then -2 else nI (nx (menB N k) c)) (fun J hJ => ?_) ?_
  · have o10' : σ9.1 10 c = if nk (menA N k) c ≠ 5 then nI (nx (menA N k) c) else -2 := by
      rw [o10]
      by_cases z : nk (menA N k) c = 5
      · rw [if_pos z, if_neg (by simp [z])]
      · rw [if_neg z, if_pos z]
    refine swap_br (a := nx (menA N k) c) (k := k) (n := nn N) (J := J) (fun g => ?_) (by omega) o10' ha (fun w hw => hJ w ?_) (fun hj => rd_of c rfl (by omega) (by decide) hj)
    · by_cases z : nk (menA N k) c = 6
      · have := WA.2.2.2.1 c q z; omega
      · have := (WA.2.2.2.2.1 c q (by omega)).1; omega
    · rw [hw]
      by_cases z : nk (menA N k) c = 5
      · rw [if_neg (by simp [z]), if_pos z]
      · rw [if_pos z, if_neg z, menB_x hk hne z]
  intro y14 hy14
  refine ck_of c rfl (by omega) (by decide) (nm_of ?_)
  rw [cl_nI (by omega)]
  generalize t15 : upI σ9 10 c y14 = σ15
  have g15 : ∀ K j, σ15.1 K j = if K = 10 ∧ j = c then y14 else σ9.1 K j := fun K j => by rw [← t15, upI_get]
  have l15 : σ15.2 = σ9.2 := by rw [← t15]; rfl
  have f15 : fr [10, 11, 12, 16, 17] [] σ9 σ15 := by rw [← t15]; exact fr_I σ9 _ _ _ (by simp)
  clear t15
  refine rd_of c rfl (by omega) (by decide) ?_
  have p11 : σ15.1 11 c = if nk (menA N k) c ≤ 4 ∧ nk (menA N k) c ≠ 3 then nI (ny (menA N k) c) else -2 := by rw [g15, if_neg (by omega)]; exact o11
  refine jn_1 (fun y18 => y18 = if nk (menA N k) c ≤ 4 ∧ nk (menA N k) c ≠ 3 then nI (ny (menB N k) c) else -2) (fun J hJ => ?_) ?_
  · refine swap_br (a := ny (menA N k) c) (k := k) (n := nn N) (J := J) (fun g => ?_) (by omega) p11 ha (fun w hw => hJ w ?_) (fun hj => rd_of c rfl (by omega) (by decide) hj)
    · have := (WA.2.2.2.2.2.1 c q g.1 g.2).1; omega
    · rw [hw, menB_y]
  intro y18 hy18
  refine ck_of c rfl (by omega) (by decide) (nm_of ?_)
  generalize t19 : upI σ15 11 c y18 = σ19
  have g19 : ∀ K j, σ19.1 K j = if K = 11 ∧ j = c then y18 else σ15.1 K j := fun K j => by rw [← t19, upI_get]
  have l19 : σ19.2 = σ9.2 := by rw [← t19]; exact l15
  have f19 : fr [10, 11, 12, 16, 17] [] σ9 σ19 := by rw [← t19]; exact fr_stepI f15 _ _ _ (by simp)
  clear t19
  refine rd_of c rfl (by omega) (by decide) ?_
  have p12 : σ19.1 12 c = if nk (menA N k) c = 4 then nI (nz (menA N k) c) else -2 := by rw [g19, if_neg (by omega), g15, if_neg (by omega)]; exact o12
  refine jn_1 (fun y22 => y22 = if nk (menA N k) c = 4 then nI (nz (menB N k) c) else -2) (fun J hJ => ?_) ?_
  · refine swap_br (a := nz (menA N k) c) (k := k) (n := nn N) (J := J) (fun g => ?_) (by omega) p12 ha (fun w hw => hJ w ?_) (fun hj => rd_of c rfl (by omega) (by decide) hj)
    · have := (WA.2.2.2.2.2.2.1 c q g).1; omega
    · rw [hw, menB_z]
  intro y22 hy22
  refine ck_of c rfl (by omega) (by decide) (nm_of ?_)
  generalize t23 : upI σ19 12 c y22 = σ23
  have g23 : ∀ K j, σ23.1 K j = if K = 12 ∧ j = c then y22 else if K = 11 ∧ j = c then y18 else if K = 10 ∧ j = c then y14 else σ9.1 K j := fun K j => by rw [← t23, upI_get, g19, g15]
  have l23 : σ23.2 = σ9.2 := by rw [← t23]; exact l19
  have f23 : fr [10, 11, 12, 16, 17] [] σ9 σ23 := by rw [← t23]; exact fr_stepI f19 _ _ _ (by simp)
  clear t23 g19 l19 f19 g15 l15 f15 p11 p12 o10 o11 o12
  have k10 : ∀ d, σ23.1 10 d = if d = c then y14 else σ9.1 10 d := fun d => by
    rw [g23]
    by_cases z : d = c
    · simp [z]
    · simp [z]
  have k11 : ∀ d, σ23.1 11 d = if d = c then y18 else σ9.1 11 d := fun d => by
    rw [g23]
    by_cases z : d = c
    · simp [z]
    · simp [z]
  have k12 : ∀ d, σ23.1 12 d = if d = c then y22 else σ9.1 12 d := fun d => by
    rw [g23]
    by_cases z : d = c
    · simp [z]
    · simp [z]
  have k8 : σ23.1 8 c = nI (nk (menA N k) c) := by
    have e : ag [8] [] σ4 σ9 := fr_ag hI.1 (by decide)
    rw [g23, if_neg (by omega), if_neg (by omega), if_neg (by omega), (e 8 c (by simp)).1]; exact q3 c q
  have k16 : ∀ d, σ23.1 16 d = σ9.1 16 d := fun d => by rw [g23, if_neg (by omega), if_neg (by omega), if_neg (by omega)]
  refine rd_of c rfl (by omega) (by decide) ?_
  rw [k8]
  refine br_lt 4 (nk (menA N k) c) rfl rfl (by omega) (by omega) (fun g => ?_) (fun g => ?_)
  · exact nm_of (hrec _ _ ⟨c + 1, q, nI_1 c, MI_step q hI hy14 hy18 hy22 f23 k10 k11 k12 (fun d _ => k16 d) (fun d _ u _ => by rw [l23]) (fun z => absurd g (by omega)) (fun z => absurd g (by omega))⟩ dec)
  -- a gate
  have hkB : nk (menB N k) c ≤ 4 := g
  have rx := WB'.2.2.2.2.1 c q hkB
  have ry := WB'.2.2.2.2.2.1 c q hkB
  have rz := WB'.2.2.2.2.2.2.1 c q
  have ok : ∀ r, rf (menB N k) c r → r < 24 ∧ r ≠ c ∧ r < nn N + 1 ∧ (r < c ∨ 4 < nk (menA N k) r) := by
    intro r hr
    have r1 : r < nn N + 1 := hr.1
    rcases Nat.lt_or_ge 4 (nk (menA N k) r) with z | z
    · exact ⟨by omega, fun e => by rw [e] at z; omega, r1, Or.inr z⟩
    · have := hr.2 z
      exact ⟨by omega, by omega, r1, Or.inl this⟩
  have tab : ∀ r, rf (menB N k) c r → ∀ u, u < 16 → ∀ j, j < 64 → lb (σ23.2 17 (16 * r + u)) j = EV (menB N k) (upk (menB N k) (64 * u + j)) r := by
    intro r hr u hu j hj
    obtain ⟨-, -, r1, r2⟩ := ok r hr
    have := hI.2.2.2.2.2 r r1 r2 (64 * u + j) (by omega)
    rw [show (64 * u + j) / 64 = u by omega, show (64 * u + j) % 64 = j by omega] at this
    rw [l23]; exact this
  refine c_workOut (c := c) (k := nk (menB N k) c) (x := nx (menB N k) c) (y := ny (menB N k) c) (z := nz (menB N k) c) (T := fun r a => EV (menB N k) (upk (menB N k) a) r) rfl (by omega) hkB k8 ?_ ?_ ?_ ⟨(ok _ rx).1, (ok _ rx).2.1⟩ (fun z => ⟨(ok _ (ry z)).1, (ok _ (ry z)).2.1⟩) (fun z => ⟨(ok _ (rz z)).1, (ok _ (rz z)).2.1⟩) (fun r hr u hu j hj => ?_) (fun s fS o16 n16 oT nT => ?_)
  · rw [k10 c, if_pos rfl, hy14, if_neg (by omega)]
  · rw [k11 c, if_pos rfl, hy18]
    show _ = if nk (menA N k) c ≠ 3 then nI (ny (menB N k) c) else -2
    by_cases z : nk (menA N k) c = 3
    · rw [if_neg (fun y => y.2 z), if_neg (fun y => y z)]
    · rw [if_pos ⟨g, z⟩, if_pos z]
  · rw [k12 c, if_pos rfl, hy22]; rfl
  · rcases hr with rfl | ⟨z, rfl⟩ | ⟨z, rfl⟩
    · exact tab _ rx u hu j hj
    · exact tab _ (ry z) u hu j hj
    · exact tab _ (rz z) u hu j hj
  have aS : ag [10, 11, 12] [] σ23 s := fr_ag fS (by decide)
  refine nm_of (hrec _ _ ⟨c + 1, q, nI_1 c, MI_step q hI hy14 hy18 hy22 (fr_tr f23 (fr_mo fS (by decide))) (fun d => by rw [(aS 10 d (by simp)).1]; exact k10 d) (fun d => by rw [(aS 11 d (by simp)).1]; exact k11 d) (fun d => by rw [(aS 12 d (by simp)).1]; exact k12 d) (fun d hd => ?_) (fun d hd u hu => ?_) (fun _ => ?_) (fun _ a ha' => ?_)⟩ dec)
  · rcases hd with z | z
    · rw [o16 d z, k16 d]
    · omega
  · rcases hd with z | z
    · rw [oT _ (by omega), l23]
    · omega
  · refine PM_hang WB' q hkB n16 ?_ (fun z => ?_) (fun z => ?_)
    · rw [k16]; exact hI.2.2.2.2.1 _ (ok _ rx).2.2.1 (ok _ rx).2.2.2
    · rw [k16]; exact hI.2.2.2.2.1 _ (ok _ (ry z)).2.2.1 (ok _ (ry z)).2.2.2
    · rw [k16]; exact hI.2.2.2.2.1 _ (ok _ (rz z)).2.2.1 (ok _ (rz z)).2.2.2
  · rw [nT (a / 64) (by omega) (a % 64) (Nat.mod_lt _ (by decide)), show 64 * (a / 64) + a % 64 = a by omega, EV_gate WB' _ q hkB]
theorem c_mend {σ : St} {N : Ne} {fs sl : Nat → Bool} {bd : Nat → Nat} {a : Int32} {post : Int32 → St → Prop} (hN : CN σ N) (hW : WN N) (hF : CF σ N fs) (hS : CS σ N sl)
    (h1 : ixI a (fb_ct (crs N) (nn N)) = none → post (-1) σ)
    (h2 : ∀ k, a = nI (fb_ct (crs N) k) → k < nn N → crs N k = true → nn N = 24 ∨ nb N = 10 → post (-2) σ)
    (h3 : ∀ k, a = nI (fb_ct (crs N) k) → k < nn N → crs N k = true → nn N < 24 → nb N < 10 → knd N sl k ≠ 3 → post (-3) σ)
    (h4 : ∀ k, a = nI (fb_ct (crs N) k) → k < nn N → crs N k = true → nn N < 24 → nb N < 10 → knd N sl k = 3 → ∀ σ', frZ σ σ' → CN σ' (menN N k) → CF σ' (menN N k) (fu fs (nn N) (fs k)) → CS σ' (menN N k) (fu sl (nn N) false) → CRu σ' (menN N k) bd (run0 (menN N k) (fu fs (nn N) (fs k))) → CU σ' → post (nI (nn N)) σ') : w_X11_mend σ a post := by
  have h24 := hW.1
  unfold w_X11_mend
  refine c_keeperOf hN hW (fun z => br_0 (by decide) (h1 z)) (fun k ek hk hc => br_1 (nI_pos' (by omega)) ?_)
  refine c_takesNoBit hN hW (fun z => br_0 (by decide) (h2 k ek hk hc z)) (fun z1 z2 => br_1 rfl ?_)
  have kl := knd_le N sl k
  refine c_kindOf hN hW hS rfl hk hc ?_
  refine br_eq (knd N sl k) 3 rfl rfl (by omega) (by omega) (fun e => ?_) (fun e => h3 k ek hk hc z1 z2 e)
  have hne : nx N k ≠ k := by
    intro z
    have fb : fbt N (nx N k) k = true := by
      unfold knd at e
      cases t : fbt N (nx N k) k with
      | true => rfl
      | false =>
        rw [t] at e
        revert e
        cases ast N sl k <;> cases twc N sl k <;> cases hel N sl k <;> simp
    rw [z] at fb
    unfold fbt at fb
    simp at fb
  refine c_addBehind hN hW hF hS rfl hk (crs_6 hc) hne z1 z2 (fun σ1 f1 n1 c1 s1 => ?_)
  refine c_beginAnew (bd := bd) c1 (fun σ2 f2 r2 u2 => ?_)
  exact h4 k ek hk hc z1 z2 e σ2 (fr_tr (fr_mo f1 (by decide)) (fr_mo f2 (by decide))) (CN_ag (fr_ag f2 (by decide)) n1) (CF_ag (fr_ag f2 (by decide)) c1) (CS_ag (fr_ag f2 (by decide)) s1) r2 u2
