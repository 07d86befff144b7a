/-! THE CLASS: its other parts; input, keeper, gate, connect, bound, still -/
def CB (σ : St) (bd : Nat → Nat) : Prop := ∀ k, k < 16 → σ.1 18 k = nI (bd k)
theorem CB_ag {σ σ' : St} {bd : Nat → Nat} (h : ag [18] [] σ σ') (hN : CB σ bd) : CB σ' bd := fun c h1 => by rw [(h 18 c (by simp)).1]; exact hN c h1
/-- a number of base 16 out of its digits -/
def tN (d : Nat → Nat) : Nat → Nat
  | 0 => 0
  | k + 1 => tN d k + d k * 16 ^ k
/-- the ticks that a bound looks at -/
def dg (bd tk : Nat → Nat) : Nat → Nat := fun k => if bd k = 0 then 0 else tk k
theorem tN_zero {d : Nat → Nat} : ∀ {n : Nat}, (∀ k, k < n → d k = 0) → tN d n = 0
  | 0, _ => rfl
  | n + 1, h => by
    show tN d n + d n * 16 ^ n = 0
    rw [tN_zero (fun k hk => h k (by omega)), h n (by omega)]; simp
/-- a run: the bits' values packed, the ticks in one number -/
def CR (σ : St) (N : Ne) (bd : Nat → Nat) (m : Nat) (V : Nat → Nat → Bool) (rc tk : Nat → Nat) (et : Nat → Bool) : Prop := σ.1 5 3 = nI m ∧ (∀ i, i ≤ m → PM N (σ.1 23 i) (V i)) ∧ (∀ i, i < m → σ.1 24 i = nI (rc i)) ∧ σ.2 5 5 = lN (tN (dg bd tk) 16) ∧ PM N (σ.1 5 4) et
abbrev CRu (σ : St) (N : Ne) (bd : Nat → Nat) (r : Ru) : Prop := CR σ N bd r.1 r.2.1 r.2.2.1 r.2.2.2.1 r.2.2.2.2
theorem CR_ag {σ σ' : St} {N : Ne} {bd : Nat → Nat} {m : Nat} {V : Nat → Nat → Bool} {rc tk : Nat → Nat} {et : Nat → Bool} (h : ag [23, 24] [(5, 3), (5, 4), (5, 5)] σ σ') (hN : CR σ N bd m V rc tk et) : CR σ' N bd m V rc tk et := by
  obtain ⟨h1, h2, h3, h4, h5⟩ := hN
  refine ⟨by rw [(h 5 3 (by simp)).1]; exact h1, fun i hi => ?_, fun i hi => ?_, by rw [(h 5 5 (by simp)).2]; exact h4, by rw [(h 5 4 (by simp)).1]; exact h5⟩
  · rw [(h 23 i (by simp)).1]; exact h2 i hi
  · rw [(h 24 i (by simp)).1]; exact h3 i hi
def CU (σ : St) : Prop := σ.1 6 5 = 0 ∧ σ.1 6 6 = 0 ∧ σ.1 6 7 = 0 ∧ σ.1 6 8 = 0
theorem PM_0 (N : Ne) : PM N 0 (fun _ => false) := ⟨fun c _ _ => b_0 _, fun i _ => b_0 i⟩
theorem PM_cong {N : Ne} {m : Int32} {p q : Nat → Bool} (h : PM N m p) (e : ∀ c, c < nn N → 4 < nk N c → q c = p c) : PM N m q := ⟨fun c hc g => by rw [h.1 c hc g, e c hc g], h.2⟩
theorem PM_kn {N M : Ne} {m : Int32} {p : Nat → Bool} (hn : nn M = nn N) (hk : nk M = nk N) (h : PM N m p) : PM M m p := by
  have e : isB M = isB N := by funext c; show decide (4 < nk M c) = _; rw [hk]; rfl
  refine ⟨fun c hc g => ?_, fun i hi => ?_⟩
  · rw [hn] at hc; rw [hk] at g; rw [e]; exact h.1 c hc g
  · have : nb M = nb N := by show fb_ct (isB M) (nn M) = _; rw [e, hn]; rfl
    rw [this] at hi; exact h.2 i hi
theorem c_begin {σ : St} {N : Ne} {fs : Nat → Bool} {bd : Nat → Nat} {post : St → Prop} (hF : CF σ N fs) (h : ∀ σ', fr [23] [(5, 3), (5, 4), (5, 5)] σ σ' → CRu σ' N bd (run0 N fs) → post σ') : w_X7_begin σ post := by
  unfold w_X7_begin
  refine nm_of (nm_of (nm_of (ck_of 0 rfl (by omega) (by decide) (nm_of ?_))))
  refine h _ (fr_stepI (fr_stepJ (fr_stepI (fr_I σ _ _ _ (by simp)) _ _ _ (by simp)) _ _ _ (by simp)) _ _ _ (by simp)) ⟨?_, fun i hi => ?_, fun i hi => absurd hi (Nat.not_lt_zero i), ?_, ?_⟩
  · simp [upI_get, upJ_fst]; rfl
  · have hi : i ≤ 0 := hi
    have e : i = 0 := by omega
    subst e
    rw [upI_get, if_pos ⟨rfl, by decide⟩]
    have e2 : (upJ (upI (upI σ 5 3 0) 5 4 0) 5 5 0).1 1 2 = σ.1 1 2 := by simp [upI_get, upJ_fst]
    rw [e2]
    exact hF
  · rw [upI_snd, upJ_get, if_pos ⟨rfl, rfl⟩]
    rw [tN_zero (fun k _ => by show (if bd k = 0 then 0 else 0) = 0; split <;> rfl)]; rfl
  · simp [upI_get, upJ_fst]
    exact PM_0 N
theorem c_forget {σ : St} {post : St → Prop} (h : ∀ σ', fr [] [(6, 5), (6, 6), (6, 7), (6, 8)] σ σ' → CU σ' → post σ') : w_X9_forget σ post := by
  unfold w_X9_forget
  refine nm_of (nm_of (nm_of (nm_of (h _ ?_ ?_))))
  · exact fr_stepI (fr_stepI (fr_stepI (fr_I σ _ _ _ (by simp)) _ _ _ (by simp)) _ _ _ (by simp)) _ _ _ (by simp)
  · refine ⟨?_, ?_, ?_, ?_⟩ <;> simp [upI_get]
abbrev frW (σ σ' : St) : Prop := fr [23] [(5, 3), (5, 4), (5, 5), (6, 5), (6, 6), (6, 7), (6, 8)] σ σ'
theorem c_beginAnew {σ : St} {N : Ne} {fs : Nat → Bool} {bd : Nat → Nat} {post : St → Prop} (hF : CF σ N fs) (h : ∀ σ', frW σ σ' → CRu σ' N bd (run0 N fs) → CU σ' → post σ') : w_X11_beginAnew σ post := by
  unfold w_X11_beginAnew
  exact c_begin (bd := bd) hF (fun σ1 f1 r1 => c_forget (fun σ2 f2 u2 => h σ2 (fr_tr (fr_mo f1 (by decide)) (fr_mo f2 (by decide))) (CR_ag (fr_ag f2 (by decide)) r1) u2))
theorem c_isClock {a : Int32} {post : Int32 → Prop} (h1 : ixI a 4 = none → post 0) (h2 : ∀ j, a = nI j → j < 4 → post 1) : w_X11_isClock a post := by
  unfold w_X11_isClock
  rcases ix1 (a := a) (n := 4) (by decide) with q | ⟨j, e, hj, -⟩
  · refine br_2 (fun _ => h1 q) (fun g => ?_)
    rcases ixI_none (by decide) q with z | z
    · exact absurd z g
    · exact br_1 z (h1 q)
  · subst e
    refine br_0 (nI_pos (by omega)) (br_0 (fun g => ?_) (h2 j rfl hj))
    have : nI 4 ≤ nI j := g
    exact absurd ((nI_leI (by omega) (by omega)).mp this) (by omega)
abbrev frZ (σ σ' : St) : Prop := fr [8, 9, 10, 11, 12, 13, 14, 15, 16, 17, 23] [(1, 0), (1, 1), (1, 2), (1, 3), (1, 4), (5, 3), (5, 4), (5, 5), (6, 5), (6, 6), (6, 7), (6, 8)] σ σ'
abbrev frZ8 (σ σ' : St) : Prop := fr [8, 9, 10, 11, 12, 13, 14, 15, 16, 17, 18, 23] [(1, 0), (1, 1), (1, 2), (1, 3), (1, 4), (5, 3), (5, 4), (5, 5), (6, 5), (6, 6), (6, 7), (6, 8)] σ σ'
theorem c_addBit2 {σ : St} {N : Ne} {fs sl : Nat → Bool} {bd : Nat → Nat} {k c : Nat} {f : Bool} {post : Int32 → St → Prop} (hN : CN σ N) (hW : WN N) (hF : CF σ N fs) (hS : CS σ N sl) (hk : k = 5 ∨ k = 6) (hc : c < 4) (hf : k = 5 → f = false)
    (h2 : nn N = 24 ∨ nb N = 10 → post (-2) σ)
    (h3 : nn N < 24 → nb N < 10 → ∀ σ', frZ σ σ' → CN σ' (addB N k c) → CF σ' (addB N k c) (fu fs (nn N) f) → CS σ' (addB N k c) (fu sl (nn N) false) → CRu σ' (addB N k c) bd (run0 (addB N k c) (fu fs (nn N) f)) → CU σ' → post (nI (nn N)) σ') : w_X11_addBit σ (nI k) (nI c) (bI f) post := by
  unfold w_X11_addBit
  refine c_takesNoBit hN hW (fun g => br_0 (by decide) (h2 g)) (fun g1 g2 => br_1 rfl ?_)
  refine c_addBit hN hW hF hS g1 g2 hk hc hf (fun σ1 f1 n1 m1 s1 => ?_)
  exact c_beginAnew (bd := bd) m1 (fun σ' f' r' u' => h3 g1 g2 σ' (fr_tr (fr_mo f1 (by decide)) (fr_mo f' (by decide))) (CN_ag (fr_ag f' (by decide)) n1) (CF_ag (fr_ag f' (by decide)) m1) (CS_ag (fr_ag f' (by decide)) s1) r' u')
theorem c_input {σ : St} {N : Ne} {fs sl : Nat → Bool} {bd : Nat → Nat} {a : Int32} {post : Int32 → St → Prop} (hN : CN σ N) (hW : WN N) (hF : CF σ N fs) (hS : CS σ N sl)
    (h1 : ixI a 4 = none → post (-1) σ) (h2 : ∀ c, a = nI c → c < 4 → nn N = 24 ∨ nb N = 10 → post (-2) σ)
    (h3 : ∀ c, a = nI c → c < 4 → nn N < 24 → nb N < 10 → ∀ σ', frZ σ σ' → CN σ' (addB N 5 c) → CF σ' (addB N 5 c) (fu fs (nn N) false) → CS σ' (addB N 5 c) (fu sl (nn N) false) → CRu σ' (addB N 5 c) bd (run0 (addB N 5 c) (fu fs (nn N) false)) → CU σ' → post (nI (nn N)) σ') : w_X11_input σ a post := by
  unfold w_X11_input
  refine c_isClock (fun g => br_1 rfl (h1 g)) (fun c e hc => br_0 (by decide) ?_)
  have p1 := h2 c e hc
  have p2 := h3 c e hc
  subst e
  exact c_addBit2 (k := 5) (f := false) (bd := bd) hN hW hF hS (Or.inl rfl) hc (fun _ => rfl) p1 p2
theorem c_keeper {σ : St} {N : Ne} {fs sl : Nat → Bool} {bd : Nat → Nat} {a b : Int32} {post : Int32 → St → Prop} (hN : CN σ N) (hW : WN N) (hF : CF σ N fs) (hS : CS σ N sl)
    (h1 : ixI a 4 = none ∨ ixI b 2 = none → post (-1) σ) (h2 : ∀ c f, a = nI c → c < 4 → b = bI f → nn N = 24 ∨ nb N = 10 → post (-2) σ)
    (h3 : ∀ c f, a = nI c → c < 4 → b = bI f → nn N < 24 → nb N < 10 → ∀ σ', frZ σ σ' → CN σ' (addB N 6 c) → CF σ' (addB N 6 c) (fu fs (nn N) f) → CS σ' (addB N 6 c) (fu sl (nn N) false) → CRu σ' (addB N 6 c) bd (run0 (addB N 6 c) (fu fs (nn N) f)) → CU σ' → post (nI (nn N)) σ') : w_X11_keeper σ a b post := by
  unfold w_X11_keeper
  refine c_isClock (fun g => br_1 rfl (h1 (Or.inl g))) (fun c e hc => br_0 (by decide) ?_)
  rcases ix1 (a := b) (n := 2) (by decide) with q | ⟨w, ew, hw, -⟩
  · refine br_2 (fun _ => h1 (Or.inr q)) (fun g => ?_)
    refine br_2 (fun g2 => ?_) (fun _ => h1 (Or.inr q))
    exfalso
    rcases ixI_none (by decide) q with z | z
    · exact g z
    · obtain ⟨j, hj, rfl⟩ := nI_of g
      have a1 := (nI_leI (by omega) hj).mp z
      have a2 := (nI_leI (b := 1) hj (by omega)).mp g2
      omega
  · have hf : ∃ f : Bool, b = bI f := by
      rcases (show w = 0 ∨ w = 1 by omega) with rfl | rfl
      · exact ⟨false, ew⟩
      · exact ⟨true, ew⟩
    obtain ⟨f, hf⟩ := hf
    have p1 := h2 c f e hc hf
    have p2 := h3 c f e hc hf
    subst e
    refine br_0 (by rw [ew]; exact nI_pos (by omega)) (br_1 (by rw [ew]; exact (nI_leI (b := 1) (by omega) (by omega)).mpr (by omega)) ?_)
    rw [hf]
    exact c_addBit2 (k := 6) (f := f) (bd := bd) hN hW hF hS (Or.inr rfl) hc (fun z => absurd z (by decide)) p1 p2
theorem c_gate {σ : St} {N : Ne} {fs sl : Nat → Bool} {bd : Nat → Nat} {a1 a2 a3 a4 : Int32} {post : Int32 → St → Prop} (hN : CN σ N) (hW : WN N) (hF : CF σ N fs) (hS : CS σ N sl)
    (h1 : ixI a1 5 = none ∨ ixI a2 (nn N) = none ∨ (a1 ≠ 3 ∧ ixI a3 (nn N) = none) ∨ (a1 = 4 ∧ ixI a4 (nn N) = none) → post (-1) σ)
    (h2 : ∀ k x y z, a1 = nI k → k ≤ 4 → a2 = nI x → x < nn N → (k ≠ 3 → a3 = nI y ∧ y < nn N) → (k = 4 → a4 = nI z ∧ z < nn N) → nn N = 24 → post (-2) σ)
    (h3 : ∀ k x y z, a1 = nI k → k ≤ 4 → a2 = nI x → x < nn N → (k ≠ 3 → a3 = nI y ∧ y < nn N) → (k = 4 → a4 = nI z ∧ z < nn N) → (k = 3 → y = 0) → (k ≠ 4 → z = 0) → nn N < 24 → ∀ σ', frZ σ σ' → CN σ' (addG N k x y z) → CF σ' (addG N k x y z) fs → CS σ' (addG N k x y z) (fu sl (nn N) false) → CRu σ' (addG N k x y z) bd (run0 (addG N k x y z) fs) → CU σ' → post (nI (nn N)) σ') : w_X11_gate σ a1 a2 a3 a4 post := by
  have h24 := hW.1
  unfold w_X11_gate
  refine jn_1 (fun y2 => y2 = if a1 = 3 then 0 else 1) (fun J hJ => br_2 (fun e => hJ _ (by rw [if_pos e])) (fun e => hJ _ (by rw [if_neg e]))) ?_
  intro y2 e2
  refine jn_1 (fun y4 => y4 = if a1 = 4 then 1 else 0) (fun J hJ => br_2 (fun e => hJ _ (by rw [if_pos e])) (fun e => hJ _ (by rw [if_neg e]))) ?_
  intro y4 e4
  rcases ix1 (a := a1) (n := 5) (by decide) with q | ⟨k, ek, hk, -⟩
  · refine br_2 (fun _ => h1 (Or.inl q)) (fun g => br_1 ?_ (h1 (Or.inl q)))
    rcases ixI_none (by decide) q with z | z
    · exact absurd z g
    · obtain ⟨j, hj, rfl⟩ := nI_of g
      have := (nI_leI (by omega) hj).mp z
      exact nI_lt (a := 4) (by omega) hj
  have k3 : a1 = 3 ↔ k = 3 := by rw [ek]; exact nI_eq (b := 3) (by omega) (by omega)
  have k4 : a1 = 4 ↔ k = 4 := by rw [ek]; exact nI_eq (b := 4) (by omega) (by omega)
  refine br_0 (by rw [ek]; exact nI_pos (by omega)) (br_0 (by rw [ek]; exact nI_nlt (b := k) (a := 4) (by omega) (by omega)) ?_)
  refine c_isCell hN.1 hW (fun g => br_1 rfl (h1 (Or.inr (Or.inl g)))) (fun x ex hx => br_0 (by decide) ?_)
  refine jn_0 (∃ y, (k ≠ 3 → a3 = nI y ∧ y < nn N) ∧ (k = 3 → y = 0)) (fun J hJ => ?_) ?_
  · by_cases z3 : a1 = 3
    · rw [if_pos z3] at e2
      exact br_1 e2 (hJ ⟨0, fun n => absurd (k3.mp z3) n, fun _ => rfl⟩)
    · rw [if_neg z3] at e2
      refine br_0 (by rw [e2]; decide) (c_isCell hN.1 hW (fun g => br_1 rfl (h1 (Or.inr (Or.inr (Or.inl ⟨z3, g⟩))))) (fun y ey hy => br_0 (by decide) (hJ ⟨y, fun _ => ⟨ey, hy⟩, fun n => absurd (k3.mpr n) z3⟩)))
  rintro ⟨y, hy, hy3⟩
  refine jn_0 (∃ z, (k = 4 → a4 = nI z ∧ z < nn N) ∧ (k ≠ 4 → z = 0)) (fun J hJ => ?_) ?_
  · by_cases z4 : a1 = 4
    · rw [if_pos z4] at e4
      refine br_0 (by rw [e4]; decide) (c_isCell hN.1 hW (fun g => br_1 rfl (h1 (Or.inr (Or.inr (Or.inr ⟨z4, g⟩))))) (fun z ez hz => br_0 (by decide) (hJ ⟨z, fun _ => ⟨ez, hz⟩, fun n => absurd (k4.mp z4) n⟩)))
    · rw [if_neg z4] at e4
      exact br_1 e4 (hJ ⟨0, fun n => absurd (k4.mpr n) z4, fun _ => rfl⟩)
  rintro ⟨z, hz, hz4⟩
  refine br_lt (nn N) 24 hN.1 rfl (by omega) (by omega) (fun q => ?_) (fun q => h2 k x y z ek (by omega) ex hx hy hz (by omega))
  refine jn_1 (fun v => v = if k ≠ 3 then nI y else -2) (fun J hJ => ?_) ?_
  · refine br_2 (fun e => hJ _ ?_) (fun e => hJ _ ?_)
    · have : k = 3 := by
        apply k3.mp
        by_cases z3 : a1 = 3
        · exact z3
        · rw [if_neg z3] at e2; rw [e2] at e; exact absurd e (by decide)
      rw [if_neg (by omega)]
    · have : k ≠ 3 := by
        intro z3
        rw [if_pos (k3.mpr z3)] at e2; exact e e2
      rw [if_pos this]; exact (hy this).1
  intro a3' e3'
  refine jn_1 (fun v => v = if k = 4 then nI z else -2) (fun J hJ => ?_) ?_
  · refine br_2 (fun e => hJ _ ?_) (fun e => hJ _ ?_)
    · have : k ≠ 4 := by
        intro z4
        rw [if_pos (k4.mpr z4)] at e4; rw [e4] at e; exact absurd e (by decide)
      rw [if_neg this]
    · have : k = 4 := by
        apply k4.mp
        by_cases z4 : a1 = 4
        · exact z4
        · rw [if_neg z4] at e4; exact absurd e4 e
      rw [if_pos this]; exact (hz this).1
  intro a4' e4'
  have fin := h3 k x y z ek (by omega) ex hx hy hz hy3 hz4 q
  rw [ek, ex]
  refine c_addGate hN hW hF hS q (by omega) hx (fun g => (hy g).2) (fun g => (hz g).2) e3' e4' (fun σ1 f1 n1 m1 s1 => ?_)
  refine c_beginAnew (bd := bd) m1 (fun σ' f' r' u' => fin σ' (fr_tr (fr_mo f1 (by decide)) (fr_mo f' (by decide))) (CN_ag (fr_ag f' (by decide)) n1) (CF_ag (fr_ag f' (by decide)) m1) (PM_cong (CS_ag (fr_ag f' (by decide)) s1) (fun c hc g => ?_)) r' u')
  have g : 4 < fu (nk N) (nn N) k c := g
  refine fu_n _ _ (fun e => ?_)
  rw [e, fu_s] at g
  omega
/-- net and source: what else is of the bits alone -/
theorem CN_con {σ σ' : St} {N : Ne} {k s : Nat} (hN : CN σ N) (hW : WN N) (hk : k < nn N) (h6 : nk N k = 6) (hs : s < nn N) (h : ag [8, 9, 11, 12, 13, 14, 15, 16, 17] [(1, 0), (1, 1), (1, 4)] σ σ') (hx : ∀ c, σ'.1 10 c = if c = k then nI s else σ.1 10 c) : CN σ' (conN N k s) := by
  obtain ⟨h1, h2, h3, h4, h5, h6', h7, h8, h9, h10, h11, h12⟩ := hN
  have e := fun k j q => (h k j q).1
  have ex : ∀ i, nk N i ≤ 4 → nx (conN N k s) i = nx N i := fun i g => fu_n _ _ (by rintro rfl; omega)
  refine ⟨?_, ?_, fun c hc => ?_, fun c hc => ?_, fun c hc => ?_, fun c hc => ?_, fun c hc => ?_, fun c hc g => ?_, fun k hk => ?_, fun c hc => ?_, ?_, fun c hc a ha => ?_⟩
  · rw [e 1 0 (by simp)]; exact h1
  · rw [e 1 1 (by simp)]; exact h2
  · rw [e 8 c (by simp)]; exact h3 c hc
  · rw [e 9 c (by simp)]; exact h4 c hc
  · rw [hx c]
    show _ = if nk N c = 5 then -2 else nI (fu (nx N) k s c)
    by_cases q : c = k
    · rw [if_pos q, q, fu_s, if_neg (by omega)]
    · rw [if_neg q, fu_n _ _ q]; exact h5 c hc
  · rw [e 11 c (by simp)]; exact h6' c hc
  · rw [e 12 c (by simp)]; exact h7 c hc
  · rw [e 13 c (by simp), e 14 _ (by simp)]; exact h8 c hc g
  · rw [e 15 k (by simp)]; exact PM_kn rfl rfl (h9 k hk)
  · rw [e 16 c (by simp)]
    refine PM_cong (PM_kn rfl rfl (h10 c hc)) (fun b hb _ => ?_)
    exact HG_ext (N := N) (M := conN N k s) hW (Nat.le_refl _) (fun i _ => rfl) (fun i _ g => ⟨ex i g, rfl, rfl⟩) hc b
  · rw [e 1 4 (by simp)]; exact PM_kn rfl rfl h11
  · rw [(h 17 _ (by simp)).2, h12 c hc a ha]
    rw [EV_ext (N := N) (M := conN N k s) (Nat.le_refl _) (fun i _ => rfl) (fun i _ g => ⟨ex i g, rfl, rfl⟩) _ hc]
    rfl
theorem c_connect {σ : St} {N : Ne} {fs sl : Nat → Bool} {bd : Nat → Nat} {a b : Int32} {post : Int32 → St → Prop} (hN : CN σ N) (hW : WN N) (hF : CF σ N fs) (hS : CS σ N sl)
    (h1 : (∀ k, a = nI k → k < nn N → nk N k ≠ 6) ∨ ixI b (nn N) = none → post (-1) σ)
    (h3 : ∀ k s, a = nI k → k < nn N → nk N k = 6 → b = nI s → s < nn N → ∀ σ', frZ σ σ' → CN σ' (conN N k s) → CF σ' (conN N k s) fs → CS σ' (conN N k s) sl → CRu σ' (conN N k s) bd (run0 (conN N k s) fs) → CU σ' → post (nI (nx N k)) σ') : w_X11_connect σ a b post := by
  have h24 := hW.1
  unfold w_X11_connect
  refine c_isKeeper hN hW (fun g => br_1 rfl (h1 (Or.inl g))) (fun k ek hk h6 => br_0 (by decide) ?_)
  refine c_isCell hN.1 hW (fun g => br_1 rfl (h1 (Or.inr g))) (fun s es hs => br_0 (by decide) ?_)
  refine rd_of k ek (by omega) (by decide) (ck_of k ek (by omega) (by decide) (nm_of ?_))
  have fin := h3 k s ek hk h6 es hs
  rw [hN.2.2.2.2.1 k hk, if_neg (by omega), ek, cl_nI (by omega), es]
  generalize t : upI σ 10 k (nI s) = τ
  have f10 : fr [10] [] σ τ := by rw [← t]; exact fr_I σ _ _ _ (by simp)
  have nT : CN τ (conN N k s) := CN_con hN hW hk h6 hs (fr_ag f10 (by decide)) (fun c => by rw [← t, upI_get]; simp)
  have fT : CF τ (conN N k s) fs := PM_kn rfl rfl (CF_ag (fr_ag f10 (by decide)) hF)
  have sT : CS τ (conN N k s) sl := PM_kn rfl rfl (CS_ag (fr_ag f10 (by decide)) hS)
  exact c_beginAnew (bd := bd) fT (fun σ' f' r' u' => fin σ' (fr_tr (fr_mo f10 (by decide)) (fr_mo f' (by decide))) (CN_ag (fr_ag f' (by decide)) nT) (CF_ag (fr_ag f' (by decide)) fT) (CS_ag (fr_ag f' (by decide)) sT) r' u')
theorem ix4' {c d : Nat} : nI c * (4 : Int32) + nI d = nI (4 * c + d) := by rw [show (4 : Int32) = nI 4 from rfl, pk_mul, nI_add, Nat.mul_comm]
theorem c_bound {σ : St} {N : Ne} {fs sl : Nat → Bool} {bd : Nat → Nat} {a b n : Int32} {post : Int32 → St → Prop} (hN : CN σ N) (hF : CF σ N fs) (hS : CS σ N sl) (hB : CB σ bd)
    (h1 : ixI a 4 = none ∨ ixI b 4 = none ∨ a = b ∨ ixI n 10 = none → post (-1) σ)
    (h3 : ∀ c d q, a = nI c → c < 4 → b = nI d → d < 4 → c ≠ d → n = nI q → q < 10 → ∀ σ', frZ8 σ σ' → CN σ' N → CF σ' N fs → CS σ' N sl → CB σ' (fu bd (4 * c + d) q) → CRu σ' N (fu bd (4 * c + d) q) (run0 N fs) → CU σ' → post (nI (bd (4 * c + d))) σ') : w_X11_bound σ a b n post := by
  unfold w_X11_bound
  refine c_isClock (fun g => br_1 rfl (h1 (Or.inl g))) (fun c ec hc => br_0 (by decide) ?_)
  refine c_isClock (fun g => br_1 rfl (h1 (Or.inr (Or.inl g)))) (fun d ed hd => br_0 (by decide) ?_)
  refine br_2 (fun g => h1 (Or.inr (Or.inr (Or.inl g)))) (fun ne => ?_)
  have hcd : c ≠ d := by rintro rfl; exact ne (ec.trans ed.symm)
  rcases ix1 (a := n) (n := 10) (by decide) with q | ⟨w, ew, hw, -⟩
  · refine br_2 (fun _ => h1 (Or.inr (Or.inr (Or.inr q)))) (fun g => ?_)
    refine br_2 (fun g2 => ?_) (fun _ => h1 (Or.inr (Or.inr (Or.inr q))))
    exfalso
    rcases ixI_none (by decide) q with z | z
    · exact g z
    · obtain ⟨j, hj, rfl⟩ := nI_of g
      have a1 := (nI_leI (by omega) hj).mp z
      have a2 := (nI_leI (b := 9) hj (by omega)).mp g2
      omega
  refine br_0 (by rw [ew]; exact nI_pos (by omega)) (br_1 (by rw [ew]; exact (nI_leI (b := 9) (by omega) (by omega)).mpr (by omega)) ?_)
  have fin := h3 c d w ec hc ed hd hcd ew hw
  have ei : a * (4 : Int32) + b = nI (4 * c + d) := by rw [ec, ed]; exact ix4'
  unfold w_X0_limitOf w_X0_limit
  refine rd_of (4 * c + d) ei (by omega) (by decide) (ck_of (4 * c + d) ei (by omega) (by decide) (nm_of ?_))
  rw [hB _ (by omega), ei, cl_nI (by omega), ew]
  generalize t : upI σ 18 (4 * c + d) (nI w) = τ
  have f1 : fr [18] [] σ τ := by rw [← t]; exact fr_I σ _ _ _ (by simp)
  have nT := CN_ag (fr_ag f1 (by decide)) hN
  have fT := CF_ag (fr_ag f1 (by decide)) hF
  have sT := CS_ag (fr_ag f1 (by decide)) hS
  have bT : CB τ (fu bd (4 * c + d) w) := by
    intro k hk
    rw [← t, upI_get]
    by_cases g : k = 4 * c + d
    · rw [if_pos ⟨rfl, g⟩, g, fu_s]
    · rw [if_neg (fun z => g z.2), fu_n _ _ g]; exact hB k hk
  exact c_beginAnew (bd := fu bd (4 * c + d) w) fT (fun σ' f' r' u' => fin σ' (fr_tr (fr_mo f1 (by decide)) (fr_mo f' (by decide))) (CN_ag (fr_ag f' (by decide)) nT) (CF_ag (fr_ag f' (by decide)) fT) (CS_ag (fr_ag f' (by decide)) sT) (CB_ag (fr_ag f' (by decide)) bT) r' u')
theorem bit0 {x : Int32} {i : Nat} (hi : i < 32) : x &&& ((1 : Int32) <<< (nI i &&& 31)) = 0 ↔ bt x i = false := by
  constructor
  · intro h
    have := b_and x ((1 : Int32) <<< (nI i &&& 31)) i
    rw [h, b_0, b_one hi] at this
    simpa using this.symm
  · intro h
    apply b_ext
    intro j hj
    rw [b_and, b_one hi, b_0]
    by_cases e : j = i
    · rw [e, h]; rfl
    · simp [e]
theorem c_still {σ : St} {N : Ne} {sl : Nat → Bool} {a : Int32} {w : Bool} {post : Int32 → St → Prop} (hN : CN σ N) (hW : WN N) (hS : CS σ N sl)
    (h1 : (∀ c, a = nI c → c < nn N → nk N c ≤ 4) → post (-1) σ)
    (h3 : ∀ c, a = nI c → c < nn N → 4 < nk N c → ∀ σ', fr [] [(1, 3)] σ σ' → CS σ' N (fu sl c w) → post (bI (sl c)) σ') : w_X11_still σ a (bI w) post := by
  have h24 := hW.1
  have h10 : nb N ≤ 10 := hW.2.2.2.2.2.2.2
  unfold w_X11_still
  refine c_isBit hN hW (fun g => br_1 rfl (h1 g)) (fun c ec hc h4 => br_0 (by decide) ?_)
  refine rd_of c ec (by omega) (by decide) ?_
  rw [(hN.2.2.2.2.2.2.2.1 c hc h4).1]
  have lt : fb_ct (isB N) c < nb N := ix_lt h4 hc
  generalize hi : fb_ct (isB N) c = i at lt
  refine nm_of ?_
  have hS' : PM N (σ.1 1 3) sl := hS
  have ebit : bt (σ.1 1 3) i = sl c := by rw [← hi]; exact hS'.1 c hc h4
  refine jn_1 (fun y7 => y7 = bI (sl c)) (fun J hJ => br_2 (fun e => hJ _ ?_) (fun e => hJ _ ?_)) ?_
  · rw [bit0 (by omega), ebit] at e; rw [e]; rfl
  · rw [bit0 (by omega), ebit] at e
    cases z : sl c with
    | false => exact absurd z e
    | true => rfl
  rintro y7 rfl
  refine jn_1 (fun y9 => ∀ j, bt y9 j = if j = i then w else bt (σ.1 1 3) j) (fun J hJ => ?_) ?_
  · cases w with
    | false =>
      refine br_1 rfl (hJ _ (fun j => ?_))
      rcases Nat.lt_or_ge j 32 with q | q
      · rw [b_and, b_not _ q, b_one (by omega)]
        by_cases e : j = i <;> simp [e]
      · rw [b_big q, if_neg (by omega), b_big q]
    | true =>
      refine br_0 (by decide) (hJ _ (fun j => ?_))
      rw [b_or, b_one (by omega)]
      by_cases e : j = i <;> simp [e]
  intro y9 e9
  refine nm_of (h3 c ec hc h4 _ (fr_I σ _ _ _ (by simp)) ?_)
  show PM N ((upI σ 1 3 y9).1 1 3) (fu sl c w)
  rw [upI_get, if_pos ⟨rfl, rfl⟩]
  refine ⟨fun d hd g => ?_, fun j hj => ?_⟩
  · rw [e9]
    by_cases e : d = c
    · rw [e, hi, if_pos rfl, fu_s]
    · rw [fu_n _ _ e, if_neg (fun z => e (fb_ct_kth_one (isB_t g) (isB_t h4) (z.trans hi.symm)))]
      exact hS'.1 d hd g
  · rw [e9, if_neg (by omega)]; exact hS'.2 j hj
