/-! MEND (the reference) -/
/-- k's place is taken by a -/
def rpl (k a v : Nat) : Nat := if v = k then a else v
/-- the net with the new keeper's number in k's places; then the keeper comes, its source is k -/
def menN0 (N : Ne) (k : Nat) : Ne := (nn N, nk N, nc N, fun c => if nk N c = 5 ∨ c = k then nx N c else rpl k (nn N) (nx N c), fun c => rpl k (nn N) (ny N c), fun c => rpl k (nn N) (nz N c))
def menN (N : Ne) (k : Nat) : Ne := conN (addB (menN0 N k) 6 (nc N k)) (nn N) k
theorem rpl_lt {k a v n : Nat} (hv : v < n) (ha : a < n + 1) : rpl k a v < n + 1 := by unfold rpl; split <;> omega
theorem WN_men0 {N : Ne} {k : Nat} (hW : WN N) (hn : nn N < 24) (hb : nb N < 10) (hk : k < nn N) (h6 : nk N k = 6) : WN (addB (menN0 N k) 6 (nc N k)) := by
  have hB := nb_addB (menN0 N k) (k := 6) (nc N k) (by omega)
  have hB0 : nb (menN0 N k) = nb N := rfl
  obtain ⟨h1, h2, h3, h4, h5, h6', h7, h8⟩ := hW
  have e : ∀ i, i < nn N → nk (addB (menN0 N k) 6 (nc N k)) i = nk N i := fun i hi => fu_n _ _ (show i ≠ nn N by omega)
  have en : nk (addB (menN0 N k) 6 (nc N k)) (nn N) = 6 := fu_s _ _ _
  have n' : nn (addB (menN0 N k) 6 (nc N k)) = nn N + 1 := rfl
  have rr : ∀ c r, rf N c r → rf (addB (menN0 N k) 6 (nc N k)) c (rpl k (nn N) r) := by
    intro c r hr
    refine ⟨rpl_lt (n := nn N) hr.1 (Nat.lt_succ_self (nn N)), fun g => ?_⟩
    unfold rpl at g ⊢
    by_cases z : r = k
    · rw [if_pos z, en] at g; omega
    · rw [if_neg z] at g ⊢
      rw [e r hr.1] at g
      exact hr.2 g
  refine ⟨by omega, fun i hi => ?_, fun i hi g => ?_, fun i hi g => ?_, fun i hi g => ?_, fun i hi g g3 => ?_, fun i hi g => ?_, by show nb (addB (menN0 N k) 6 (nc N k)) ≤ 10; omega⟩
  · by_cases q : i = nn N
    · subst q; omega
    · rw [e i (by omega)]; exact h2 i (by omega)
  · show fu (nc N) (nn N) (nc N k) i < 4
    by_cases q : i = nn N
    · rw [q, fu_s]; exact h3 k hk (by omega)
    · rw [fu_n _ _ q]; rw [e i (by omega)] at g; exact h3 i (by omega) g
  · show fu (nx (menN0 N k)) (nn N) (nn N) i < nn N + 1
    by_cases q : i = nn N
    · rw [q, fu_s]; omega
    · rw [fu_n _ _ q]
      rw [e i (by omega)] at g
      have := h4 i (by omega) g
      show (if nk N i = 5 ∨ i = k then nx N i else rpl k (nn N) (nx N i)) < nn N + 1
      split
      · omega
      · exact rpl_lt this (by omega)
  · by_cases q : i = nn N
    · subst q; omega
    · rw [e i (by omega)] at g
      show rf _ i (fu (nx (menN0 N k)) (nn N) (nn N) i)
      rw [fu_n _ _ q]
      show rf _ i (if nk N i = 5 ∨ i = k then nx N i else rpl k (nn N) (nx N i))
      rw [if_neg (by rintro (z | z); omega; subst z; omega)]
      exact rr i _ (h5 i (by omega) g)
  · by_cases q : i = nn N
    · subst q; omega
    · rw [e i (by omega)] at g g3
      exact rr i _ (h6' i (by omega) g g3)
  · by_cases q : i = nn N
    · subst q; omega
    · rw [e i (by omega)] at g
      exact rr i _ (h7 i (by omega) g)
theorem WN_men {N : Ne} {k : Nat} (hW : WN N) (hn : nn N < 24) (hb : nb N < 10) (hk : k < nn N) (h6 : nk N k = 6) : WN (menN N k) := WN_con (WN_men0 hW hn hb hk h6) (fu_s _ _ _) (show k < nn N + 1 by omega)
theorem rpl_br {k n v : Nat} {x y : Int32} {A : Prop} {J : Int32 → Prop} (hx : x = nI v) (hy : y = nI k) (hv : v < 2 ^ 31) (hk : k < 2 ^ 31) (hJ : ∀ w, w = nI (rpl k n v) → J w) (h2 : J x → A) : br (x = y) (J (nI n)) A := by
  refine br_eq v k hx hy hv hk (fun e => hJ _ (by unfold rpl; rw [if_pos e])) (fun e => h2 (hJ _ (by unfold rpl; rw [if_neg e]; exact hx)))
set_option maxHeartbeats 2000000 in
theorem m_mend {σ : St} {N : Ne} {fs sl : Nat → Bool} {bd : Nat → Nat} {a : Int32} {post : Int32 → St → Prop} (hN : NM σ N) (hW : WN N) (hF : MF σ N fs) (hS : MS σ N sl)
    (h1 : ixI a (fb_ct (crs N) (nn N)) = none → ∀ σ', fr0 σ σ' → post (-1) σ')
    (h2 : ∀ k, a = nI (fb_ct (crs N) k) → k < nn N → crs N k = true → nn N = 24 ∨ nb N = 10 → ∀ σ', fr0 σ σ' → post (-2) σ')
    (h3 : ∀ k, a = nI (fb_ct (crs N) k) → k < nn N → crs N k = true → nn N < 24 → nb N < 10 → knd N sl k ≠ 3 → ∀ σ', fr0 σ σ' → post (-3) σ')
    (h4 : ∀ k, a = nI (fb_ct (crs N) k) → k < nn N → crs N k = true → nn N < 24 → nb N < 10 → knd N sl k = 3 → ∀ σ', frN σ σ' → NM σ' (menN N k) → MF σ' (menN N k) (fu fs (nn N) (fs k)) → MS σ' (menN N k) (fu sl (nn N) false) → MR σ' (menN N k) bd 0 (fun _ => fz (menN N k) (fu fs (nn N) (fs k))) (fun _ => 0) (fun _ => 0) (fun _ => false) → MU σ' → post (nI (nn N)) σ') : w_X12_mend σ a post := by
  have h24 := hW.1
  have h10 : nb N ≤ 10 := hW.2.2.2.2.2.2.2
  have cle := fb_ct_le (crs N) (nn N)
  unfold w_X12_mend
  refine nm_of ?_
  have f1 := fr0_up σ
  generalize upI σ 0 0 0 = σ1 at f1
  have N1 := NM_ag (fr_ag f1 (by decide)) hN
  have F1 := MF_ag (fr_ag f1 (by decide)) hF
  have S1 := MS_ag (fr_ag f1 (by decide)) hS
  refine jn_1 (fun y3 => (y3 = -1 ∧ ixI a (fb_ct (crs N) (nn N)) = none) ∨ ∃ k, y3 = nI k ∧ a = nI (fb_ct (crs N) k) ∧ k < nn N ∧ crs N k = true) (fun J hJ => ?_) ?_
  · refine br_2 (fun g => ?_) (fun g => hJ _ (Or.inl ⟨rfl, ?_⟩))
    · obtain ⟨i, hi, ei⟩ := nI_of (x := a) (fun z => (fa_of_lt z).2.1 g)
      refine m_crossingAt N1 hW ei hi (fun z => hJ _ (Or.inl ⟨rfl, ?_⟩)) (fun k hk hc e => hJ _ (Or.inr ⟨k, rfl, by rw [e]; exact ei, hk, hc⟩))
      cases hq : ixI a (fb_ct (crs N) (nn N)) with
      | none => rfl
      | some j =>
        obtain ⟨e1, hj⟩ := ixI_some (by omega) hq
        rw [ei] at e1
        have := (nI_eq hi (by omega)).mp e1
        omega
    · have : a < 0 := fa_of_nle g
      unfold ixI
      rw [if_pos this]
  rintro y3 (⟨rfl, hnone⟩ | ⟨k, rfl, ek, hk, hc⟩)
  · exact br_0 (by decide) (h1 hnone σ1 f1)
  have h6 := crs_6 hc
  refine br_1 (nI_pos' (by omega)) ?_
  refine br_eq (nn N) 24 N1.1 rfl (by omega) (by omega) (fun q => h2 k ek hk hc (Or.inl q) σ1 f1) (fun q1 => ?_)
  refine br_eq (nb N) 10 N1.2.1 rfl (by omega) (by omega) (fun q => h2 k ek hk hc (Or.inr q) σ1 f1) (fun q2 => ?_)
  have kl := knd_le N sl k
  refine m_kindOf N1 hW S1 rfl hk h6 (br_eq (knd N sl k) 3 rfl rfl (by omega) (by omega) (fun e3 => ?_) (fun e3 => h3 k ek hk hc (by omega) (by omega) e3 σ1 f1))
  obtain ⟨hn, hb1, hkd, hcl, hx, hy, hz⟩ := id N1
  refine nm_as _ hn ?_
  refine jn_1 (fun s => fr [4, 5, 6] [] σ1 s ∧ NM s (menN0 N k)) (fun J hJ => ?_) ?_
  · refine lpE2_inv (I := fun y s => ∃ c, c ≤ nn N ∧ y = nI c ∧ fr [4, 5, 6] [] σ1 s ∧ (∀ i, i < nn N → s.1 4 i = if i < c then (if nk N i = 5 then nI i else nI (nx (menN0 N k) i)) else σ1.1 4 i) ∧ (∀ i, i < nn N → s.1 5 i = if i < c then (if nk N i ≤ 4 ∧ nk N i ≠ 3 then nI (rpl k (nn N) (ny N i)) else -2) else σ1.1 5 i) ∧ (∀ i, i < nn N → s.1 6 i = if i < c then (if nk N i = 4 then nI (rpl k (nn N) (nz N i)) else -2) else σ1.1 6 i)) (μ := fun y _ => nn N - y.toNatClampNeg) ?_ 0 σ1 ⟨0, by omega, rfl, fr_rf, fun i _ => by rw [if_neg (by omega)], fun i _ => by rw [if_neg (by omega)], fun i _ => by rw [if_neg (by omega)]⟩
    rintro rec y s ⟨c, hcn, rfl, fS, xS, yS, zS⟩ hrec
    unfold w_X12_mend_L66
    refine br_le (nn N) c rfl rfl (by omega) (by omega) (fun q => hJ s ⟨fS, ?_⟩) (fun q => ?_)
    · have ag0 := fr_ag (S1 := [1, 2]) (F1 := [(0, 1), (0, 2)]) fS (by decide)
      refine ⟨by rw [(ag0 0 1 (by simp)).1]; exact hn, by rw [(ag0 0 2 (by simp)).1]; exact hb1, fun i hi => by rw [(ag0 1 i (by simp)).1]; exact hkd i hi, fun i hi => by rw [(ag0 2 i (by simp)).1]; exact hcl i hi, fun i hi => by rw [xS i hi, if_pos (show i < c by have : i < nn N := hi; omega)]; rfl, fun i hi => by rw [yS i hi, if_pos (show i < c by have : i < nn N := hi; omega)]; rfl, fun i hi => by rw [zS i hi, if_pos (show i < c by have : i < nn N := hi; omega)]; rfl⟩
    have c6 := hW.2.1 c q
    have kS : s.1 1 c = nI (nk N c) := by rw [(fr_ag (S1 := [1]) (F1 := []) fS (by decide) 1 c (by simp)).1]; exact hkd c q
    have dec : nn N - (nI c + 1).toNatClampNeg < nn N - (nI c).toNatClampNeg := by rw [nI_1, cl_nI (by omega), cl_nI (by omega)]; omega
    -- a cell that stays
    have stay : (nk N c = 5 ∨ (nk N c = 6 ∧ c = k)) → rec (nI c + 1) s := by
      intro hst
      refine hrec _ _ ⟨c + 1, q, nI_1 c, fS, fun i hi => ?_, fun i hi => ?_, fun i hi => ?_⟩ dec
      · rw [xS i hi]
        by_cases g : i = c
        · rw [if_neg (show ¬ i < c by omega), if_pos (show i < c + 1 by omega), g, hx c q]
          by_cases g5 : nk N c = 5
          · rw [if_pos g5, if_pos g5]
          · rw [if_neg g5, if_neg g5]
            show _ = nI (if nk N c = 5 ∨ c = k then nx N c else _)
            rw [if_pos (by omega)]
        · by_cases g2 : i < c
          · rw [if_pos g2, if_pos (show i < c + 1 by omega)]
          · rw [if_neg g2, if_neg (show ¬ i < c + 1 by omega)]
      · rw [yS i hi]
        by_cases g : i = c
        · rw [if_neg (show ¬ i < c by omega), if_pos (show i < c + 1 by omega), g, hy c q, if_neg (by omega), if_neg (by omega)]
        · by_cases g2 : i < c
          · rw [if_pos g2, if_pos (show i < c + 1 by omega)]
          · rw [if_neg g2, if_neg (show ¬ i < c + 1 by omega)]
      · rw [zS i hi]
        by_cases g : i = c
        · rw [if_neg (show ¬ i < c by omega), if_pos (show i < c + 1 by omega), g, hz c q, if_neg (by omega), if_neg (by omega)]
        · by_cases g2 : i < c
          · rw [if_pos g2, if_pos (show i < c + 1 by omega)]
          · rw [if_neg g2, if_neg (show ¬ i < c + 1 by omega)]
    refine rd_of c rfl (by omega) (by decide) ?_
    rw [kS]
    refine jn_0 (nk N c ≤ 4 ∨ (nk N c = 6 ∧ c ≠ k)) (fun J25 hJ25 => ?_) (fun hgo => ?_)
    · refine br_lt (nk N c) 5 rfl rfl (by omega) (by omega) (fun g => hJ25 (Or.inl (by omega))) (fun g => ?_)
      refine rd_of c rfl (by omega) (by decide) ?_
      rw [kS]
      refine br_eq (nk N c) 6 rfl rfl (by omega) (by omega) (fun g6 => ?_) (fun g6 => nm_of (stay (Or.inl (by omega))))
      exact br_eq c k rfl rfl (by omega) (by omega) (fun e => nm_of (stay (Or.inr ⟨g6, e⟩))) (fun e => hJ25 (Or.inr ⟨g6, e⟩))
    have xl : nx N c < nn N := by
      rcases hgo with g | g
      · exact (hW.2.2.2.2.1 c q g).1
      · exact hW.2.2.2.1 c q g.1
    have xc : s.1 4 c = nI (nx N c) := by rw [xS c q, if_neg (Nat.lt_irrefl c), hx c q, if_neg (by omega)]
    refine rd_of c rfl (by omega) (by decide) ?_
    refine jn_1 (fun w => w = nI (rpl k (nn N) (nx N c))) (fun J27 hJ27 => rpl_br xc rfl (by omega) (by omega) hJ27 (fun z => rd_of c rfl (by omega) (by decide) z)) ?_
    rintro y28 rfl
    refine ck_of c rfl (by omega) (by decide) (nm_of ?_)
    rw [cl_nI (by omega)]
    generalize t1 : upI s 4 c (nI (rpl k (nn N) (nx N c))) = s1
    have y1 : s1.1 5 c = if nk N c ≤ 4 ∧ nk N c ≠ 3 then nI (ny N c) else -2 := by rw [← t1, upI_get, if_neg (by omega), yS c q, if_neg (Nat.lt_irrefl c), hy c q]
    refine rd_of c rfl (by omega) (by decide) ?_
    refine jn_1 (fun w => w = if nk N c ≤ 4 ∧ nk N c ≠ 3 then nI (rpl k (nn N) (ny N c)) else -2) (fun J31 hJ31 => ?_) ?_
    · by_cases hh : nk N c ≤ 4 ∧ nk N c ≠ 3
      · have yl := (hW.2.2.2.2.2.1 c q hh.1 hh.2).1
        rw [if_pos hh] at y1
        rw [if_pos hh] at hJ31
        exact rpl_br y1 rfl (by omega) (by omega) hJ31 (fun z => rd_of c rfl (by omega) (by decide) z)
      · rw [if_neg hh] at y1
        rw [if_neg hh] at hJ31
        rw [y1]
        refine br_0 (fun z => nI_ne2 (a := k) (by omega) z.symm) (rd_of c rfl (by omega) (by decide) ?_)
        rw [y1]; exact hJ31 _ rfl
    rintro y32 e32
    refine ck_of c rfl (by omega) (by decide) (nm_of ?_)
    generalize t2 : upI s1 5 c y32 = s2
    have z2 : s2.1 6 c = if nk N c = 4 then nI (nz N c) else -2 := by rw [← t2, upI_get, if_neg (by omega), ← t1, upI_get, if_neg (by omega), zS c q, if_neg (Nat.lt_irrefl c), hz c q]
    refine rd_of c rfl (by omega) (by decide) ?_
    refine jn_1 (fun w => w = if nk N c = 4 then nI (rpl k (nn N) (nz N c)) else -2) (fun J35 hJ35 => ?_) ?_
    · by_cases hh : nk N c = 4
      · have zl := (hW.2.2.2.2.2.2.1 c q hh).1
        rw [if_pos hh] at z2
        rw [if_pos hh] at hJ35
        exact rpl_br z2 rfl (by omega) (by omega) hJ35 (fun z => rd_of c rfl (by omega) (by decide) z)
      · rw [if_neg hh] at z2
        rw [if_neg hh] at hJ35
        rw [z2]
        refine br_0 (fun z => nI_ne2 (a := k) (by omega) z.symm) (rd_of c rfl (by omega) (by decide) ?_)
        rw [z2]; exact hJ35 _ rfl
    rintro y36 e36
    refine ck_of c rfl (by omega) (by decide) (nm_of (nm_of ?_))
    have all : ∀ A B, (upI s2 6 c y36).1 A B = if A = 6 ∧ B = c then y36 else if A = 5 ∧ B = c then y32 else if A = 4 ∧ B = c then nI (rpl k (nn N) (nx N c)) else s.1 A B := by
      intro A B
      rw [upI_get, ← t2, upI_get, ← t1, upI_get]
    refine hrec _ _ ⟨c + 1, q, nI_1 c, ?_, fun i hi => ?_, fun i hi => ?_, fun i hi => ?_⟩ dec
    · rw [← t2, ← t1]
      exact fr_stepI (fr_stepI (fr_stepI fS _ _ _ (by simp)) _ _ _ (by simp)) _ _ _ (by simp)
    · rw [all, if_neg (by omega), if_neg (by omega)]
      by_cases g : i = c
      · rw [if_pos ⟨rfl, g⟩, if_pos (show i < c + 1 by omega), g, if_neg (by omega)]
        show _ = nI (if nk N c = 5 ∨ c = k then nx N c else rpl k (nn N) (nx N c))
        rw [if_neg (by rintro (z | z); omega; subst z; omega)]
      · rw [if_neg (fun z => g z.2), xS i hi]
        by_cases g2 : i < c
        · rw [if_pos g2, if_pos (show i < c + 1 by omega)]
        · rw [if_neg g2, if_neg (show ¬ i < c + 1 by omega)]
    · rw [all, if_neg (by omega)]
      by_cases g : i = c
      · rw [if_pos ⟨rfl, g⟩, if_pos (show i < c + 1 by omega), g]; exact e32
      · rw [if_neg (fun z => g z.2), if_neg (by omega), yS i hi]
        by_cases g2 : i < c
        · rw [if_pos g2, if_pos (show i < c + 1 by omega)]
        · rw [if_neg g2, if_neg (show ¬ i < c + 1 by omega)]
    · rw [all]
      by_cases g : i = c
      · rw [if_pos ⟨rfl, g⟩, if_pos (show i < c + 1 by omega), g]; exact e36
      · rw [if_neg (fun z => g z.2), if_neg (by omega), if_neg (by omega), zS i hi]
        by_cases g2 : i < c
        · rw [if_pos g2, if_pos (show i < c + 1 by omega)]
        · rw [if_neg g2, if_neg (show ¬ i < c + 1 by omega)]
  rintro s ⟨fS, NS⟩
  have F2 : MF s (menN0 N k) fs := MF_ag (fr_ag fS (by decide)) F1
  have S2 : MS s (menN0 N k) sl := MS_ag (fr_ag fS (by decide)) S1
  have kc := hW.2.2.1 k hk (by omega)
  refine rd_of k rfl (by omega) (by decide) (rd_of k rfl (by omega) (by decide) ?_)
  have k4 : 4 < nk (menN0 N k) k := by show 4 < nk N k; omega
  rw [NS.2.2.2.1 k hk, if_pos k4, F2 k hk k4]
  refine m_add' (N := menN0 N k) (k := 6) (c := nc N k) (f := fs k) (bd := bd) NS (WN_men0 hW (by omega) (by omega) hk h6) F2 S2 (show nn N < 24 by omega) (Or.inr rfl) kc (fun s3 f3 n3 m3 sl3 r3 u3 => ?_)
  refine ck_of (nn N) rfl (by omega) (by decide) (nm_of ?_)
  rw [cl_nI (by omega)]
  generalize t : upI s3 4 (nn N) (nI k) = s4
  have all : ∀ A B, s4.1 A B = if A = 4 ∧ B = nn N then nI k else s3.1 A B := fun A B => by rw [← t, upI_get]
  have f34 : fr [4] [] s3 s4 := by rw [← t]; exact fr_I s3 _ _ _ (by simp)
  have N4 : NM s4 (menN N k) := by
    obtain ⟨p1, p2, p3, p4, p5, p6, p7⟩ := n3
    refine ⟨by rw [all, if_neg (by omega)]; exact p1, by rw [all, if_neg (by omega)]; exact p2, fun i hi => by rw [all, if_neg (by omega)]; exact p3 i hi, fun i hi => by rw [all, if_neg (by omega)]; exact p4 i hi, fun i hi => ?_, fun i hi => by rw [all, if_neg (by omega)]; exact p6 i hi, fun i hi => by rw [all, if_neg (by omega)]; exact p7 i hi⟩
    rw [all]
    show _ = if nk (addB (menN0 N k) 6 (nc N k)) i = 5 then nI i else nI (fu (nx (addB (menN0 N k) 6 (nc N k))) (nn N) k i)
    by_cases g : i = nn N
    · have : nk (addB (menN0 N k) 6 (nc N k)) i = 6 := by rw [g]; exact fu_s _ _ _
      rw [if_pos ⟨rfl, g⟩, if_neg (by omega), g, fu_s]
    · rw [if_neg (fun z => g z.2), fu_n _ _ g]; exact p5 i hi
  have F4 : MF s4 (menN N k) (fu fs (nn N) (fs k)) := MF_ag (N := menN N k) (fr_ag f34 (by decide)) m3
  have S4 : MS s4 (menN N k) (fu sl (nn N) false) := MS_ag (N := menN N k) (fr_ag f34 (by decide)) sl3
  refine m_changed (bd := bd) N4 (WN_men hW (by omega) (by omega) hk h6) F4 (fun σ' f' r' u' => h4 k ek hk hc (by omega) (by omega) e3 σ' ?_ (NM_ag (fr_ag f' (by decide)) N4) (MF_ag (fr_ag f' (by decide)) F4) (MS_ag (fr_ag f' (by decide)) S4) r' u')
  exact fr_tr (fr_tr (fr_tr (fr_tr (fr_mo f1 (by decide)) (fr_mo fS (by decide))) (fr_mo f3 (by decide))) (fr_mo f34 (by decide))) (fr_mo f' (by decide))
