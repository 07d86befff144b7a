/-! THE REFERENCE: canBe, go, moment, broken -/
/-- the ticks of pair k behind a moment -/
def thn (set : Nat) (tk : Nat → Nat) : Nat → Nat := fun k => if set.testBit (k % 4) then 0 else if set.testBit (k / 4) then tk k + 1 else tk k
def canB (bd : Nat → Nat) (set : Nat) (tk : Nat → Nat) : Prop := ∀ k, k < 16 → bd k = 0 ∨ thn set tk k ≤ bd k
theorem w_then_of {a b c : Int32} {t st k : Nat} {post : Int32 → Prop} (ha : a = nI t) (hb : b = nI st) (hc : c = nI k) (hk : k < 16) (h : post (nI (if st.testBit (k % 4) then 0 else if st.testBit (k / 4) then t + 1 else t))) : w_X12_then a b c post := by
  unfold w_X12_then
  have e4 : (4 : Int32) = nI 4 := rfl
  rw [ha, hb, hc, e4, pk_rem (by omega) (by omega) (by omega), pk_div (by omega) (by omega) (by omega), b_getN (by omega), b_getN (by omega)]
  cases h1 : st.testBit (k % 4) with
  | true => rw [h1] at h; exact br_1 rfl h
  | false =>
    rw [h1] at h
    refine br_0 (by decide) ?_
    cases h2 : st.testBit (k / 4) with
    | true => rw [h2] at h; rw [nI_1]; exact br_1 rfl h
    | false => rw [h2] at h; exact br_0 (by decide) h
theorem w_fits_of {σ : St} {bd : Nat → Nat} {a b : Int32} {k n : Nat} {post : Int32 → Prop} (hB : MB σ bd) (hbd : ∀ k, k < 16 → bd k ≤ 9) (ha : a = nI k) (hk : k < 16) (hb : b = nI n) (hn : n < 2 ^ 31) (h1 : bd k = 0 ∨ n ≤ bd k → post 1) (h0 : ¬ (bd k = 0 ∨ n ≤ bd k) → post 0) : w_X12_fits σ a b post := by
  have := hbd k hk
  unfold w_X12_fits
  refine rd_of k ha hk (by decide) ?_
  rw [hB k hk]
  refine br_eq (bd k) 0 rfl rfl (by omega) (by omega) (fun e => h1 (Or.inl e)) (fun e => ?_)
  refine rd_of k ha hk (by decide) ?_
  rw [hB k hk]
  exact br_lt (bd k) n rfl hb (by omega) hn (fun g => h0 (by omega)) (fun g => h1 (Or.inr g))
theorem m_canBe {σ : St} {bd tk : Nat → Nat} {a : Int32} {st : Nat} {post : Int32 → Prop} (hB : MB σ bd) (hbd : ∀ k, k < 16 → bd k ≤ 9) (ht : ∀ k, k < 16 → σ.1 14 k = nI (tk k)) (htl : ∀ k, k < 16 → tk k ≤ 60) (ha : a = nI st) (h1 : canB bd st tk → post 1) (h0 : ¬ canB bd st tk → post 0) : w_X12_canBe σ a post := by
  unfold w_X12_canBe
  refine jn_1 (fun y2 => (y2 = 1 ∧ canB bd st tk) ∨ (y2 = 0 ∧ ¬ canB bd st tk)) (fun J hJ => ?_) ?_
  · refine lpE2_inv (I := fun y3 y4 => ∃ k, k ≤ 16 ∧ y4 = nI k ∧ ((y3 = 1 ∧ ∀ j, j < k → bd j = 0 ∨ thn st tk j ≤ bd j) ∨ (y3 = 0 ∧ ¬ canB bd st tk))) (μ := fun _ y4 => 16 - y4.toNatClampNeg) ?_ 1 0 ⟨0, by omega, rfl, Or.inl ⟨rfl, fun j hj => absurd hj (Nat.not_lt_zero j)⟩⟩
    rintro rec y3 y4 ⟨k, hk, rfl, hy⟩ hrec
    have nxt : ∀ y : Int32, k < 16 → ((y = 1 ∧ ∀ j, j < k + 1 → bd j = 0 ∨ thn st tk j ≤ bd j) ∨ (y = 0 ∧ ¬ canB bd st tk)) → rec y (nI k + 1) := by
      intro y hlt hy
      refine hrec y _ ⟨k + 1, hlt, nI_1 k, hy⟩ ?_
      rw [nI_1, cl_nI (by omega), cl_nI (by omega)]; omega
    unfold w_X12_canBe_L4
    refine br_le 16 k rfl rfl (by omega) (by omega) (fun q => hJ _ ?_) (fun q => ?_)
    · rcases hy with ⟨e, g⟩ | g
      · exact Or.inl ⟨e, fun j hj => g j (by omega)⟩
      · exact Or.inr g
    rcases hy with ⟨rfl, g⟩ | ⟨rfl, g⟩
    · refine br_0 (by decide) (rd_of k rfl q (by decide) ?_)
      have tl := htl k q
      refine w_then_of (ht k q) ha rfl q ?_
      refine w_fits_of hB hbd rfl q rfl ?_ (fun z => br_0 (by decide) (nm_of (nxt _ q (Or.inl ⟨rfl, fun j hj => ?_⟩)))) (fun z => br_1 rfl (nm_of (nxt _ q (Or.inr ⟨rfl, fun w => z (w k q)⟩))))
      · split <;> try split
        all_goals omega
      · rcases (show j < k ∨ j = k by omega) with e | e
        · exact g j e
        · rw [e]; exact z
    · exact br_1 rfl (nm_of (nxt _ q (Or.inr ⟨rfl, g⟩)))
  rintro y2 (⟨rfl, g⟩ | ⟨rfl, g⟩)
  · exact ⟨by decide, h1 g⟩
  · exact ⟨by decide, h0 g⟩
/-- the run behind one more moment -/
noncomputable def runS (N : Ne) (r : Ru) (set inp ots : Nat) : Ru := (r.1 + 1, fu r.2.1 (r.1 + 1) (bhd N (r.2.1 r.1) set inp ots), fu r.2.2.1 r.1 set, thn set r.2.2.2.1, eit N (r.2.1 r.1) set inp)
abbrev MRu (σ : St) (N : Ne) (bd : Nat → Nat) (r : Ru) : Prop := MR σ N bd r.1 r.2.1 r.2.2.1 r.2.2.2.1 r.2.2.2.2
abbrev frG (σ σ' : St) : Prop := fr [12, 13, 14, 15] [(0, 0), (0, 15), (0, 20), (0, 21), (0, 22), (0, 23), (0, 24)] σ σ'
set_option maxHeartbeats 1000000 in
theorem m_go {σ : St} {N : Ne} {bd : Nat → Nat} {r : Ru} {a b c : Int32} {st inp ots : Nat} {post : St → Prop} (hN : NM σ N) (hW : WN N) (hR : MRu σ N bd r) (hm : r.1 < 60) (ha : a = nI st) (hb : b = nI inp) (hc : c = nI ots)
    (h : ∀ σ', frG σ σ' → MRu σ' N bd (runS N r st inp ots) → post σ') : w_X12_go σ a b c post := by
  have h24 := hW.1
  obtain ⟨m, V, rc, tk, et⟩ := r
  obtain ⟨r1, r2, r3, r4, -, -⟩ := hR
  have hm : m < 60 := hm
  have r1 : σ.1 0 15 = nI m := r1
  unfold w_X12_go
  refine rd_of m r1 (by omega) (by decide) ?_
  refine m_look (v := V m) (st := st) (inp := inp) hN hW (r2 m (Nat.le_refl m)) ha hb (fun σ3 f3 k3 => nm_of ?_)
  generalize eE : eit N (V m) st inp = E
  have hEl : ∀ k, E k = true → k < nn N ∧ nk N k = 6 := fun k hk => by rw [← eE] at hk; exact eit_lt hk
  have hE10 : fb_ct E (nn N) ≤ 10 := by rw [← eE]; exact ne_le N hW (V m) st inp
  generalize t4 : upI σ3 0 20 0 = σ4
  have f4 : frG σ σ4 := by rw [← t4]; exact fr_stepI (fr_mo f3 (by decide)) _ _ _ (by simp)
  have k34 : fr [] [(0, 20)] σ3 σ4 := by rw [← t4]; exact fr_I σ3 _ _ _ (by simp)
  have mk : ∀ s, fr [15] [(0, 20)] σ3 s → MK s N (V m) st inp := by
    intro s fs
    have e := fr_ag (S1 := []) (F1 := [(0, 21), (0, 22), (0, 23), (0, 24)]) fs (by decide)
    obtain ⟨m1, m2, m3, m4⟩ := k3
    refine ⟨fun r => ?_, fun r => ?_, fun r => ?_, fun r => ?_⟩
    · rw [(e 0 21 (by simp)).1]; exact m1 r
    · rw [(e 0 22 (by simp)).1]; exact m2 r
    · rw [(e 0 23 (by simp)).1]; exact m3 r
    · rw [(e 0 24 (by simp)).1]; exact m4 r
  refine jn_1 (fun σ6 => frG σ σ6 ∧ fr [15] [(0, 20)] σ3 σ6 ∧ σ6.1 0 20 = nI (fb_ct E (nn N)) ∧ (∀ k, k < nn N → E k = true → σ6.1 15 (fb_ct E k) = nI k)) (fun J hJ => ?_) ?_
  · refine lpE2_inv (I := fun y s => ∃ k, k ≤ nn N ∧ y = nI k ∧ frG σ s ∧ fr [15] [(0, 20)] σ3 s ∧ s.1 0 20 = nI (fb_ct E k) ∧ (∀ j, j < k → E j = true → s.1 15 (fb_ct E j) = nI j)) (μ := fun y _ => nn N - y.toNatClampNeg) ?_ 0 σ4 ⟨0, by omega, rfl, f4, fr_mo k34 (by decide), by rw [← t4, upI_get, if_pos ⟨rfl, rfl⟩]; rfl, fun j hj => absurd hj (Nat.not_lt_zero j)⟩
    rintro rec y s ⟨k, hk, rfl, fs, gs, es, cs⟩ hrec
    have Ns := NM_ag (fr_ag fs (by decide)) hN
    have Ks := mk s gs
    unfold w_X12_go_L23
    refine br_le (nn N) k Ns.1 rfl (by omega) (by omega) (fun q => ?_) (fun q => ?_)
    · have e : k = nn N := by omega
      subst e
      exact hJ s ⟨fs, gs, es, cs⟩
    rw [b_get _ (by omega), Ks.2.2.2 k, eE]
    cases he : E k with
    | false =>
      refine br_0 (by decide) (nm_of (hrec _ _ ⟨k + 1, q, nI_1 k, fs, gs, ?_, fun j hj hjE => ?_⟩ ?_))
      · rw [es, fb_ct_succ, he]; rfl
      · refine cs j ?_ hjE
        rcases (show j < k ∨ j = k by omega) with z | z
        · exact z
        · rw [z, he] at hjE; cases hjE
      · rw [nI_1, cl_nI (by omega), cl_nI (by omega)]; omega
    | true =>
      have l1 : fb_ct E (k + 1) = fb_ct E k + 1 := by rw [fb_ct_succ, he]; rfl
      have l2 := fb_ct_mono E (show k + 1 ≤ nn N from q)
      refine br_1 rfl (ck_of (fb_ct E k) es (by omega) (by decide) (nm_of (nm_of (nm_of (hrec _ _ ⟨k + 1, q, nI_1 k, fr_stepI (fr_stepI fs _ _ _ (by simp)) _ _ _ (by simp), fr_stepI (fr_stepI gs _ _ _ (by simp)) _ _ _ (by simp), ?_, fun j hj hjE => ?_⟩ ?_)))))
      · rw [upI_get, if_pos ⟨rfl, rfl⟩, upI_get, if_neg (by omega), es, nI_1, l1]
      · rw [upI_get, if_neg (by omega), upI_get, es, cl_nI (by omega)]
        rcases (show j < k ∨ j = k by omega) with z | z
        · have l3 : fb_ct E (j + 1) = fb_ct E j + 1 := by rw [fb_ct_succ, hjE]; rfl
          have l4 := fb_ct_mono E (show j + 1 ≤ k from z)
          rw [if_neg (by omega)]; exact cs j z hjE
        · rw [z, if_pos ⟨rfl, rfl⟩]
      · rw [nI_1, cl_nI (by omega), cl_nI (by omega)]; omega
  rintro σ6 ⟨f6, g6, e6, c6⟩
  have N6 := NM_ag (fr_ag f6 (by decide)) hN
  refine m_behind (v := V m) (st := st) (inp := inp) (ots := ots) N6 hW (mk σ6 g6) hc (fun r7 h7 => ?_)
  have old : ag [12, 13, 14] [(0, 15)] σ σ6 := by
    intro k j hk
    have e1 := fr_ag (S1 := [12, 13, 14]) (F1 := [(0, 15)]) f3 (by decide) k j hk
    have e2 := fr_ag (S1 := [12, 13, 14]) (F1 := [(0, 15)]) g6 (by decide) k j hk
    exact ⟨e2.1.trans e1.1, e2.2.trans e1.2⟩
  have m6 : σ6.1 0 15 = nI m := by rw [(old 0 15 (by simp)).1]; exact r1
  refine ck_of (m + 1) (by rw [m6, nI_1]) (by omega) (by decide) (nm_of ?_)
  rw [m6, nI_1, cl_nI (by omega)]
  generalize t9 : upI σ6 12 (m + 1) r7 = σ9
  have m9 : σ9.1 0 15 = nI m := by rw [← t9, upI_get, if_neg (by omega)]; exact m6
  refine ck_of m m9 (by omega) (by decide) (nm_of (nm_of ?_))
  rw [m9, cl_nI (by omega)]
  have m10 : (upI σ9 13 m a).1 0 15 = nI m := by rw [upI_get, if_neg (by omega)]; exact m9
  rw [m10, nI_1]
  generalize t11 : upI (upI σ9 13 m a) 0 15 (nI (m + 1)) = σ11
  have f11 : frG σ σ11 := by rw [← t11, ← t9]; exact fr_stepI (fr_stepI (fr_stepI f6 _ _ _ (by simp)) _ _ _ (by simp)) _ _ _ (by simp)
  have v11 : σ11.1 0 15 = nI (m + 1) ∧ σ11.1 0 20 = nI (fb_ct E (nn N)) ∧ (∀ k, k < nn N → E k = true → σ11.1 15 (fb_ct E k) = nI k) ∧ (∀ i, σ11.1 12 i = if i = m + 1 then r7 else σ.1 12 i) ∧ (∀ i, σ11.1 13 i = if i = m then a else σ.1 13 i) ∧ (∀ i, σ11.1 14 i = σ.1 14 i) := by
    rw [← t11, ← t9]
    refine ⟨?_, ?_, fun k hk hE => ?_, fun i => ?_, fun i => ?_, fun i => ?_⟩
    · rw [upI_get, if_pos ⟨rfl, rfl⟩]
    · rw [upI_get, if_neg (by omega), upI_get, if_neg (by omega), upI_get, if_neg (by omega)]; exact e6
    · rw [upI_get, if_neg (by omega), upI_get, if_neg (by omega), upI_get, if_neg (by omega)]; exact c6 k hk hE
    · rw [upI_get, if_neg (by omega), upI_get, if_neg (by omega), upI_get, (old 12 i (by simp)).1]
      by_cases g : i = m + 1 <;> simp [g]
    · rw [upI_get, if_neg (by omega), upI_get]
      by_cases g : i = m
      · rw [if_pos ⟨rfl, g⟩, if_pos g]
      · rw [if_neg (fun z => g z.2), upI_get, if_neg (by omega), (old 13 i (by simp)).1, if_neg g]
    · rw [upI_get, if_neg (by omega), upI_get, if_neg (by omega), upI_get, if_neg (by omega), (old 14 i (by simp)).1]
  refine jn_at ?_
  refine lpE2_inv (I := fun y s => ∃ k, k ≤ 16 ∧ y = nI k ∧ frG σ s ∧ fr [14] [] σ11 s ∧ (∀ j, j < 16 → s.1 14 j = nI (if j < k then thn st tk j else tk j))) (μ := fun y _ => 16 - y.toNatClampNeg) ?_ 0 σ11 ⟨0, by omega, rfl, f11, fr_rf, fun j hj => by rw [v11.2.2.2.2.2 j, if_neg (by omega)]; exact r4 j hj⟩
  rintro rec y s ⟨k, hk, rfl, fs, gs, ts⟩ hrec
  unfold w_X12_go_L111
  refine br_le 16 k rfl rfl (by omega) (by omega) (fun q => h s fs ?_) (fun q => ?_)
  · have e := fr_ag (S1 := [12, 13, 15]) (F1 := [(0, 15), (0, 20)]) gs (by decide)
    show MR s N bd (m + 1) (fu V (m + 1) (bhd N (V m) st inp ots)) (fu rc m st) (thn st tk) (eit N (V m) st inp)
    rw [eE]
    refine ⟨by rw [(e 0 15 (by simp)).1]; exact v11.1, fun i hi c => ?_, fun i hi => ?_, fun j hj => by rw [ts j hj, if_pos (by omega)], by rw [(e 0 20 (by simp)).1]; exact v11.2.1, fun c hc hE => by rw [(e 15 _ (by simp)).1]; exact v11.2.2.1 c hc hE⟩
    · rw [(e 12 i (by simp)).1, v11.2.2.2.1 i]
      by_cases g : i = m + 1
      · rw [if_pos g, g, fu_s]; exact h7 c
      · rw [if_neg g, fu_n _ _ g]; exact r2 i (show i ≤ m by omega) c
    · rw [(e 13 i (by simp)).1, v11.2.2.2.2.1 i]
      by_cases g : i = m
      · rw [if_pos g, g, fu_s]; exact ha
      · rw [if_neg g, fu_n _ _ g]; exact r3 i (show i < m by omega)
  · refine rd_of k rfl q (by decide) ?_
    refine w_then_of (t := tk k) (by rw [ts k q, if_neg (by omega)]) ha rfl q ?_
    refine ck_of k rfl q (by decide) (nm_of (nm_of (hrec _ _ ⟨k + 1, q, nI_1 k, fr_stepI fs _ _ _ (by simp), fr_stepI gs _ _ _ (by simp), fun j hj => ?_⟩ ?_)))
    · rw [upI_get, cl_nI (by omega)]
      by_cases g : j = k
      · rw [if_pos ⟨rfl, g⟩, g, if_pos (show k < k + 1 by omega)]; rfl
      · rw [if_neg (fun z => g z.2), ts j hj]
        by_cases g2 : j < k
        · rw [if_pos g2, if_pos (by omega)]
        · rw [if_neg g2, if_neg (by omega)]
    · rw [nI_1, cl_nI (by omega), cl_nI (by omega)]; omega
/-- a run that can be: 60 moments at most, its values are of bits, the ticks are no more than the moments -/
def WR (N : Ne) (r : Ru) : Prop := r.1 ≤ 60 ∧ (∀ i, i ≤ r.1 → pas N (r.2.1 i)) ∧ (∀ k, k < 16 → r.2.2.2.1 k ≤ r.1) ∧ (∀ c, r.2.2.2.2 c = true → c < nn N ∧ nk N c = 6)
theorem ix1 {a : Int32} {n : Nat} (hn : n < 2 ^ 31) : ixI a n = none ∨ ∃ j, a = nI j ∧ j < n ∧ ixI a n = some j := by
  cases h : ixI a n with
  | none => exact Or.inl rfl
  | some j => exact Or.inr ⟨j, (ixI_some hn h).1, (ixI_some hn h).2, rfl⟩
/-- a set of clocks, 1 .. 15 -/
theorem w_in1 {a : Int32} {post : Int32 → Prop} (h1 : (∀ j, a = nI j → 0 < j → j < 16 → False) → post 0) (h2 : ∀ j, a = nI j → 0 < j → j < 16 → post 1) : w_X12_isIn a.toInt64 1 15 post := by
  have z1 : (1 : Int64) = (1 : Int32).toInt64 := by decide
  have z15 : (15 : Int64) = (15 : Int32).toInt64 := by decide
  rw [z1, z15]
  refine w_isIn_i (fun g => h1 (fun j e h0 h16 => g ?_)) (fun g => ?_)
  · rw [e]
    exact ⟨(nI_leI (a := 1) (by omega) (by omega)).mpr h0, (nI_leI (b := 15) (by omega) (by omega)).mpr (by omega)⟩
  · have hn : ¬ a < 0 := fun q => by
      have := fa_trans q (show (0 : Int32) ≤ 1 by decide)
      exact (fa_of_lt this).2.1 g.1
    obtain ⟨j, hj, e⟩ := nI_of hn
    rw [e] at g
    have g1 := (nI_leI (a := 1) (by omega) hj).mp g.1
    have g2 := (nI_leI (b := 15) hj (by omega)).mp g.2
    exact h2 j e g1 (by omega)
theorem m_moment {σ : St} {N : Ne} {bd : Nat → Nat} {r : Ru} {a b c : Int32} {post : Int32 → St → Prop} (hN : NM σ N) (hW : WN N) (hB : MB σ bd) (hbd : ∀ k, k < 16 → bd k ≤ 9) (hR : MRu σ N bd r) (hWR : WR N r)
    (h1 : (∀ j, a = nI j → 0 < j → j < 16 → False) ∨ b < 0 ∨ c < 0 → ∀ σ', fr0 σ σ' → post (-1) σ')
    (h2 : ∀ st inp ots, a = nI st → 0 < st → st < 16 → b = nI inp → inp < 2 ^ 31 → c = nI ots → ots < 2 ^ 31 → ¬ canB bd st r.2.2.2.1 → ∀ σ', fr0 σ σ' → post (-2) σ')
    (h3 : ∀ st inp ots, a = nI st → 0 < st → st < 16 → b = nI inp → inp < 2 ^ 31 → c = nI ots → ots < 2 ^ 31 → canB bd st r.2.2.2.1 → r.1 = 60 → ∀ σ', fr0 σ σ' → post (-3) σ')
    (h4 : ∀ st inp ots, a = nI st → 0 < st → st < 16 → b = nI inp → inp < 2 ^ 31 → c = nI ots → ots < 2 ^ 31 → canB bd st r.2.2.2.1 → r.1 < 60 → ∀ σ', frG σ σ' → MRu σ' N bd (runS N r st inp ots) → post (nI (ne_ N (r.2.1 r.1) st inp)) σ') : w_X12_moment σ a b c post := by
  unfold w_X12_moment
  refine nm_of ?_
  have f1 := fr0_up σ
  generalize upI σ 0 0 0 = σ1 at f1
  have N1 := NM_ag (fr_ag f1 (by decide)) hN
  have B1 := MB_ag (fr_ag f1 (by decide)) hB
  have R1 : MRu σ1 N bd r := MR_ag (fr_ag f1 (by decide)) hR
  obtain ⟨w1, w2, w3, w4⟩ := hWR
  refine w_in1 (fun g => br_1 rfl (h1 (Or.inl g) σ1 f1)) (fun st es s0 s16 => br_0 (by decide) ?_)
  refine br_2 (fun g => h1 (Or.inr (Or.inl g)) σ1 f1) (fun gb => ?_)
  obtain ⟨inp, hi, eb⟩ := nI_of gb
  refine br_2 (fun gc => ?_) (fun gc => h1 (Or.inr (Or.inr (fa_of_nle gc))) σ1 f1)
  obtain ⟨ots, ho, ec⟩ := nI_of (x := c) (fun q => (fa_of_lt q).2.1 gc)
  refine m_canBe B1 hbd R1.2.2.2.1 (fun k hk => by have := w3 k hk; omega) es (fun gk => br_0 (by decide) ?_) (fun gk => br_1 rfl (h2 st inp ots es s0 s16 eb hi ec ho gk σ1 f1))
  refine br_eq r.1 60 R1.1 rfl (by omega) (by omega) (fun q => h3 st inp ots es s0 s16 eb hi ec ho gk q σ1 f1) (fun q => ?_)
  refine m_go (bd := bd) N1 hW R1 (by omega) es eb ec (fun σ' f' r' => ?_)
  have e : σ'.1 0 20 = nI (ne_ N (r.2.1 r.1) st inp) := r'.2.2.2.2.1
  rw [e]
  exact h4 st inp ots es s0 s16 eb hi ec ho gk (by omega) σ' (fr_tr (fr_mo f1 (by decide)) f') r'
