/-! THE REFERENCE: gate, connect, bound, still, promise, start -/
set_option maxHeartbeats 1000000 in
/-- the reference's gate behind its tests -/
theorem m_gate {σ : St} {N : Ne} {fs sl : Nat → Bool} {bd : Nat → Nat} {a1 a2 a3 a4 : Int32} {post : Int32 → St → Prop} (hN : NM σ N) (hW : WN N) (hF : MF σ N fs) (hS : MS σ N sl)
    (h1 : ixI a1 5 = none ∨ ixI a2 (nn N) = none ∨ (a1 ≠ 3 ∧ ixI a3 (nn N) = none) ∨ (a1 = 4 ∧ ixI a4 (nn N) = none) → ∀ σ', fr0 σ σ' → post (-1) σ')
    (h2 : ∀ k x y z, a1 = nI k → k ≤ 4 → a2 = nI x → x < nn N → (k ≠ 3 → a3 = nI y ∧ y < nn N) → (k = 4 → a4 = nI z ∧ z < nn N) → nn N = 24 → ∀ σ', fr0 σ σ' → post (-2) σ')
    (h3 : ∀ k x y z, a1 = nI k → k ≤ 4 → a2 = nI x → x < nn N → (k ≠ 3 → a3 = nI y ∧ y < nn N) → (k = 4 → a4 = nI z ∧ z < nn N) → (k = 3 → y = 0) → (k ≠ 4 → z = 0) → nn N < 24 → ∀ σ', frN σ σ' → NM σ' (addG N k x y z) → MF σ' (addG N k x y z) fs → MS σ' (addG N k x y z) (fu sl (nn N) false) → MR σ' (addG N k x y z) bd 0 (fun _ => fz (addG N k x y z) fs) (fun _ => 0) (fun _ => 0) (fun _ => false) → MU σ' → post (nI (nn N)) σ') : w_X12_gate σ a1 a2 a3 a4 post := by
  unfold w_X12_gate
  refine nm_of ?_
  have f1 := fr0_up σ
  generalize upI σ 0 0 0 = σ1 at f1
  have N1 := NM_ag (fr_ag f1 (by decide)) hN
  have F1 := MF_ag (fr_ag f1 (by decide)) hF
  have S1 := MS_ag (fr_ag f1 (by decide)) hS
  have h24 := hW.1
  refine w_in0 5 (by decide) (by decide) (by decide) (fun g => br_1 rfl (h1 (Or.inl g) σ1 f1)) (fun k ek hk => br_0 (by decide) ?_)
  refine m_isCell N1.1 hW (fun g => br_1 rfl (h1 (Or.inr (Or.inl g)) σ1 f1)) (fun x ex hx => br_0 (by decide) ?_)
  refine jn_0 (∃ y, (k ≠ 3 → a3 = nI y ∧ y < nn N) ∧ (k = 3 → y = 0)) (fun J8 hJ8 => ?_) ?_
  · rw [ek]
    refine br_eq k 3 rfl rfl (by omega) (by omega) (fun q => hJ8 ⟨0, fun n => absurd q n, fun _ => rfl⟩) (fun q => ?_)
    refine m_isCell N1.1 hW (fun g => br_1 rfl (h1 (Or.inr (Or.inr (Or.inl ⟨fun z => q ?_, g⟩))) σ1 f1)) (fun y ey hy => br_0 (by decide) (hJ8 ⟨y, fun _ => ⟨ey, hy⟩, fun n => absurd n q⟩))
    rw [ek] at z
    exact (nI_eq (by omega) (by omega)).mp z
  rintro ⟨y, hy, hy3⟩
  refine jn_0 (∃ z, (k = 4 → a4 = nI z ∧ z < nn N) ∧ (k ≠ 4 → z = 0)) (fun J9 hJ9 => ?_) ?_
  · rw [ek]
    refine br_eq k 4 rfl rfl (by omega) (by omega) (fun q => ?_) (fun q => hJ9 ⟨0, fun n => absurd n q, fun _ => rfl⟩)
    refine m_isCell N1.1 hW (fun g => br_1 rfl (h1 (Or.inr (Or.inr (Or.inr ⟨by rw [ek, q]; rfl, g⟩))) σ1 f1)) (fun z ez hz => br_0 (by decide) (hJ9 ⟨z, fun _ => ⟨ez, hz⟩, fun n => absurd q n⟩))
  rintro ⟨z, hz, hz4⟩
  refine br_eq (nn N) 24 N1.1 rfl (by omega) (by omega) (fun q => h2 k x y z ek (by omega) ex hx hy hz q σ1 f1) (fun q => ?_)
  obtain ⟨hn1, hb1, hk1, hc1, hx1, hy1, hz1⟩ := id N1
  have h01 : ∀ {τ : St} {k0 j0 : Nat} {v0 : Int32}, k0 ≠ 0 → (upI τ k0 j0 v0).1 0 1 = τ.1 0 1 := fun {τ k0 j0 v0} h => by rw [upI_get, if_neg (fun q => h q.1.symm)]
  refine ck_of (nn N) hn1 (by omega) (by decide) (nm_of ?_)
  rw [hn1, cl_nI (by omega)]
  generalize t1 : upI σ1 1 (nn N) a1 = τ1
  have s1 : τ1.1 0 1 = nI (nn N) := by rw [← t1]; exact (h01 (by decide)).trans hn1
  refine ck_of (nn N) s1 (by omega) (by decide) (nm_of ?_)
  rw [s1, cl_nI (by omega)]
  generalize t2 : upI τ1 2 (nn N) (-2) = τ2
  have s2 : τ2.1 0 1 = nI (nn N) := by rw [← t2]; exact (h01 (by decide)).trans s1
  refine ck_of (nn N) s2 (by omega) (by decide) (nm_of ?_)
  rw [s2, cl_nI (by omega)]
  generalize t3 : upI τ2 4 (nn N) a2 = τ3
  have s3 : τ3.1 0 1 = nI (nn N) := by rw [← t3]; exact (h01 (by decide)).trans s2
  refine jn_1 (fun w => w = if k ≠ 3 then nI y else -2) (fun K hK => ?_) ?_
  · rw [ek]
    refine br_eq k 3 rfl rfl (by omega) (by omega) (fun q => hK _ (by rw [if_neg (fun n => n q)])) (fun q => hK _ (by rw [if_pos q]; exact (hy q).1))
  rintro y15 e15
  refine ck_of (nn N) s3 (by omega) (by decide) (nm_of ?_)
  rw [s3, cl_nI (by omega)]
  generalize t4 : upI τ3 5 (nn N) y15 = τ4
  have s4 : τ4.1 0 1 = nI (nn N) := by rw [← t4]; exact (h01 (by decide)).trans s3
  refine jn_1 (fun w => w = if k = 4 then nI z else -2) (fun K hK => ?_) ?_
  · rw [ek]
    refine br_eq k 4 rfl rfl (by omega) (by omega) (fun q => hK _ (by rw [if_pos q]; exact (hz q).1)) (fun q => hK _ (by rw [if_neg q]))
  rintro y18 e18
  refine ck_of (nn N) s4 (by omega) (by decide) (nm_of ?_)
  rw [s4, cl_nI (by omega)]
  generalize t5 : upI τ4 6 (nn N) y18 = τ5
  have s5 : τ5.1 0 1 = nI (nn N) := by rw [← t5]; exact (h01 (by decide)).trans s4
  refine ck_of (nn N) s5 (by omega) (by decide) (nm_of ?_)
  rw [s5, cl_nI (by omega)]
  generalize t6 : upI τ5 7 (nn N) (vp_nar .boolean 0) = τ6
  have s6 : τ6.1 0 1 = nI (nn N) := by rw [← t6]; exact (h01 (by decide)).trans s5
  refine nm_of ?_
  rw [s6, nI_1]
  generalize t7 : upI τ6 0 1 (nI (nn N + 1)) = τ7
  have all : ∀ a b, τ7.1 a b = if a = 0 ∧ b = 1 then nI (nn N + 1) else if a = 1 ∧ b = nn N then nI k else if a = 2 ∧ b = nn N then -2 else if a = 4 ∧ b = nn N then nI x else if a = 5 ∧ b = nn N then y15 else if a = 6 ∧ b = nn N then y18 else if a = 7 ∧ b = nn N then 0 else σ1.1 a b := by
    intro a b
    rw [← t7, upI_get]
    by_cases q1 : a = 0 ∧ b = 1
    · rw [if_pos q1, if_pos q1]
    · rw [if_neg q1, if_neg q1, ← t6, ← t5, ← t4, ← t3, ← t2, ← t1]
      simp only [upI_get]
      by_cases qb : b = nn N
      · by_cases a1 : a = 1
        · simp [qb, a1]; exact ek
        by_cases a2 : a = 2
        · simp [qb, a2]
        by_cases a4 : a = 4
        · simp [qb, a4]; exact ex
        by_cases a5 : a = 5
        · simp [qb, a5]
        by_cases a6 : a = 6
        · simp [qb, a6]
        by_cases a7 : a = 7
        · simp [qb, a7]; rfl
        simp [a1, a2, a4, a5, a6, a7]
      · simp [qb]
  have f7 : frN σ τ7 := by
    refine fr_tr (fr_mo f1 (by decide)) ?_
    rw [← t7, ← t6, ← t5, ← t4, ← t3, ← t2, ← t1]
    exact fr_stepI (fr_stepI (fr_stepI (fr_stepI (fr_stepI (fr_stepI (fr_I σ1 _ _ _ (by simp)) _ _ _ (by simp)) _ _ _ (by simp)) _ _ _ (by simp)) _ _ _ (by simp)) _ _ _ (by simp)) _ _ _ (by simp)
  have N7 : NM τ7 (addG N k x y z) := by
    refine ⟨?_, ?_, fun i hi => ?_, fun i hi => ?_, fun i hi => ?_, fun i hi => ?_, fun i hi => ?_⟩
    · rw [all, if_pos ⟨rfl, rfl⟩]; rfl
    · rw [all]; simp; rw [hb1]; exact congrArg nI (nb_addG N x y z (by omega)).symm
    · have hi : i < nn N + 1 := hi
      rw [all]
      show _ = nI (fu (nk N) (nn N) k i)
      by_cases q : i = nn N
      · simp [q, fu_s]
      · rw [fu_n _ _ q]; simp [q]; exact hk1 i (by omega)
    · have hi : i < nn N + 1 := hi
      rw [all]
      show _ = if 4 < fu (nk N) (nn N) k i then nI (nc N i) else -2
      by_cases q : i = nn N
      · rw [q, fu_s]; simp [show ¬ 4 < k by omega]
      · rw [fu_n _ _ q]; simp [q]; exact hc1 i (by omega)
    · have hi : i < nn N + 1 := hi
      rw [all]
      show _ = if fu (nk N) (nn N) k i = 5 then nI i else nI (fu (nx N) (nn N) x i)
      by_cases q : i = nn N
      · rw [q, fu_s, fu_s]; simp [show ¬ k = 5 by omega]
      · rw [fu_n _ _ q, fu_n _ _ q]; simp [q]; exact hx1 i (by omega)
    · have hi : i < nn N + 1 := hi
      rw [all]
      show _ = if fu (nk N) (nn N) k i ≤ 4 ∧ fu (nk N) (nn N) k i ≠ 3 then nI (fu (ny N) (nn N) y i) else -2
      by_cases q : i = nn N
      · rw [q, fu_s, fu_s]; simp [show k ≤ 4 by omega, e15]
      · rw [fu_n _ _ q, fu_n _ _ q]; simp [q]; exact hy1 i (by omega)
    · have hi : i < nn N + 1 := hi
      rw [all]
      show _ = if fu (nk N) (nn N) k i = 4 then nI (fu (nz N) (nn N) z i) else -2
      by_cases q : i = nn N
      · rw [q, fu_s, fu_s]; simp [e18]
      · rw [fu_n _ _ q, fu_n _ _ q]; simp [q]; exact hz1 i (by omega)
  have F7 : MF τ7 (addG N k x y z) fs := by
    intro i hi g
    have hi : i < nn N + 1 := hi
    have g : 4 < fu (nk N) (nn N) k i := g
    rw [all]
    by_cases q : i = nn N
    · rw [q, fu_s] at g; omega
    · rw [fu_n _ _ q] at g; simp; exact F1 i (by omega) g
  have S7 : MS τ7 (addG N k x y z) (fu sl (nn N) false) := by
    intro i hi
    have hi : i < nn N + 1 := hi
    rw [all]
    by_cases q : i = nn N
    · simp [q, fu_s]; rfl
    · rw [fu_n _ _ q]; simp [q]; exact S1 i (by omega)
  refine m_changed (bd := bd) N7 (WN_addG hW (by omega) (by omega) hx (fun q => (hy q).2) (fun q => (hz q).2)) F7 (fun σ' f' r' u' => ?_)
  have n' := NM_ag (fr_ag f' (by decide)) N7
  have e2 : σ'.1 0 1 - 1 = nI (nn N) := by rw [n'.1]; exact nI_pred (nn N)
  rw [e2]
  exact h3 k x y z ek (by omega) ex hx hy hz hy3 hz4 (by omega) σ' (fr_tr f7 (fr_mo f' (by decide))) n' (MF_ag (fr_ag f' (by decide)) F7) (MS_ag (fr_ag f' (by decide)) S7) r' u'
/-- another source of a keeper -/
def conN (N : Ne) (k s : Nat) : Ne := (nn N, nk N, nc N, fu (nx N) k s, ny N, nz N)
theorem WN_con {N : Ne} {k s : Nat} (hW : WN N) (hk : nk N k = 6) (hs : s < nn N) : WN (conN N k s) := by
  obtain ⟨h1, h2, h3, h4, h5, h6, h7, h8⟩ := hW
  refine ⟨h1, h2, h3, fun i hi g => ?_, fun i hi g => ?_, h6, h7, h8⟩
  · show fu (nx N) k s i < nn N
    by_cases q : i = k
    · rw [q, fu_s]; exact hs
    · rw [fu_n _ _ q]; exact h4 i hi g
  · show rf N i (fu (nx N) k s i)
    have g : nk N i ≤ 4 := g
    rw [fu_n _ _ (by rintro rfl; omega)]
    exact h5 i hi g
theorem m_connect {σ : St} {N : Ne} {fs : Nat → Bool} {bd : Nat → Nat} {a b : Int32} {post : Int32 → St → Prop} (hN : NM σ N) (hW : WN N) (hF : MF σ N fs)
    (h1 : (∀ k, a = nI k → k < nn N → nk N k ≠ 6) ∨ ixI b (nn N) = none → ∀ σ', fr0 σ σ' → post (-1) σ')
    (h3 : ∀ k s, a = nI k → k < nn N → nk N k = 6 → b = nI s → s < nn N → ∀ σ', frN σ σ' → NM σ' (conN N k s) → MF σ' (conN N k s) fs → (∀ sl, MS σ N sl → MS σ' (conN N k s) sl) → MR σ' (conN N k s) bd 0 (fun _ => fz (conN N k s) fs) (fun _ => 0) (fun _ => 0) (fun _ => false) → MU σ' → post (nI (nx N k)) σ') : w_X12_connect σ a b post := by
  unfold w_X12_connect
  refine nm_of ?_
  have f1 := fr0_up σ
  generalize upI σ 0 0 0 = σ1 at f1
  have N1 := NM_ag (fr_ag f1 (by decide)) hN
  have F1 := MF_ag (fr_ag f1 (by decide)) hF
  have h24 := hW.1
  refine m_isKeeper N1 hW (fun g => br_1 rfl (h1 (Or.inl g) σ1 f1)) (fun k ek hk h6 => br_0 (by decide) ?_)
  refine m_isCell N1.1 hW (fun g => br_1 rfl (h1 (Or.inr g) σ1 f1)) (fun s es hs => br_0 (by decide) ?_)
  refine rd_of k ek (by omega) (by decide) (ck_of k ek (by omega) (by decide) (nm_of ?_))
  obtain ⟨hn1, hb1, hk1, hc1, hx1, hy1, hz1⟩ := id N1
  rw [hx1 k hk, if_neg (by omega), ek, cl_nI (by omega), es]
  generalize t : upI σ1 4 k (nI s) = τ
  have all : ∀ a b, τ.1 a b = if a = 4 ∧ b = k then nI s else σ1.1 a b := fun a b => by rw [← t, upI_get]
  have ft : frN σ τ := by rw [← t]; exact fr_tr (fr_mo f1 (by decide)) (fr_I σ1 _ _ _ (by simp))
  have NT : NM τ (conN N k s) := by
    refine ⟨?_, ?_, fun i hi => ?_, fun i hi => ?_, fun i hi => ?_, fun i hi => ?_, fun i hi => ?_⟩
    · rw [all, if_neg (by omega)]; exact hn1
    · rw [all, if_neg (by omega)]; exact hb1
    · rw [all, if_neg (by omega)]; exact hk1 i hi
    · rw [all, if_neg (by omega)]; exact hc1 i hi
    · rw [all]
      show _ = if nk N i = 5 then nI i else nI (fu (nx N) k s i)
      by_cases q : i = k
      · rw [q, fu_s]; simp [h6]
      · rw [fu_n _ _ q]; simp [q]; exact hx1 i hi
    · rw [all, if_neg (by omega)]; exact hy1 i hi
    · rw [all, if_neg (by omega)]; exact hz1 i hi
  have FT : MF τ (conN N k s) fs := fun i hi g => by rw [all, if_neg (by omega)]; exact F1 i hi g
  refine m_changed (bd := bd) NT (WN_con hW h6 hs) FT (fun σ' f' r' u' => h3 k s ek hk h6 es hs σ' (fr_tr ft (fr_mo f' (by decide))) (NM_ag (fr_ag f' (by decide)) NT) (MF_ag (fr_ag f' (by decide)) FT) (fun sl hsl => MS_ag (fr_ag f' (by decide)) ?_) r' u')
  intro i hi
  rw [all, if_neg (by omega)]
  exact MS_ag (fr_ag f1 (by decide)) hsl i hi
theorem ix4 {c d : Nat} (hc : c < 4) (hd : d < 4) : (4 : Int32) * nI c + nI d = nI (4 * c + d) := by
  rw [show (4 : Int32) = nI 4 from rfl, pk_mul, nI_add]
theorem m_bound {σ : St} {N : Ne} {fs : Nat → Bool} {bd : Nat → Nat} {a b n : Int32} {post : Int32 → St → Prop} (hN : NM σ N) (hW : WN N) (hF : MF σ N fs) (hB : MB σ bd)
    (h1 : ixI a 4 = none ∨ ixI b 4 = none ∨ a = b ∨ ixI n 10 = none → ∀ σ', fr0 σ σ' → post (-1) σ')
    (h3 : ∀ c d q, a = nI c → c < 4 → b = nI d → d < 4 → c ≠ d → n = nI q → q < 10 → ∀ σ', frN8 σ σ' → NM σ' N → MF σ' N fs → (∀ sl, MS σ N sl → MS σ' N sl) → MB σ' (fu bd (4 * c + d) q) → MR σ' N (fu bd (4 * c + d) q) 0 (fun _ => fz N fs) (fun _ => 0) (fun _ => 0) (fun _ => false) → MU σ' → post (nI (bd (4 * c + d))) σ') : w_X12_bound σ a b n post := by
  unfold w_X12_bound
  refine nm_of ?_
  have f1 := fr0_up σ
  generalize upI σ 0 0 0 = σ1 at f1
  have N1 := NM_ag (fr_ag f1 (by decide)) hN
  have F1 := MF_ag (fr_ag f1 (by decide)) hF
  have B1 := MB_ag (fr_ag f1 (by decide)) hB
  refine w_in0 4 (by decide) (by decide) (by decide) (fun g => br_1 rfl (h1 (Or.inl g) σ1 f1)) (fun c ec hc => br_0 (by decide) ?_)
  refine w_in0 4 (by decide) (by decide) (by decide) (fun g => br_1 rfl (h1 (Or.inr (Or.inl g)) σ1 f1)) (fun d ed hd => br_0 (by decide) ?_)
  refine br_2 (fun g => h1 (Or.inr (Or.inr (Or.inl g))) σ1 f1) (fun ne => ?_)
  have hcd : c ≠ d := by rintro rfl; exact ne (ec.trans ed.symm)
  refine w_in0 10 (by decide) (by decide) (by decide) (fun g => br_1 rfl (h1 (Or.inr (Or.inr (Or.inr g))) σ1 f1)) (fun q eq hq => br_0 (by decide) ?_)
  have ei : (4 : Int32) * a + b = nI (4 * c + d) := by rw [ec, ed]; exact ix4 hc hd
  refine rd_of (4 * c + d) ei (by omega) (by decide) (ck_of (4 * c + d) ei (by omega) (by decide) (nm_of ?_))
  rw [B1 _ (by omega), ei, cl_nI (by omega), eq]
  generalize t : upI σ1 8 (4 * c + d) (nI q) = τ
  have ft : frN8 σ τ := by rw [← t]; exact fr_tr (fr_mo f1 (by decide)) (fr_I σ1 _ _ _ (by simp))
  have fs8 : fr [8] [] σ1 τ := by rw [← t]; exact fr_I σ1 _ _ _ (by simp)
  have NT := NM_ag (fr_ag fs8 (by decide)) N1
  have FT := MF_ag (fr_ag fs8 (by decide)) F1
  have BT : MB τ (fu bd (4 * c + d) q) := by
    intro k hk
    rw [← t, upI_get]
    by_cases g : k = 4 * c + d
    · rw [if_pos ⟨rfl, g⟩, g, fu_s]
    · rw [if_neg (fun z => g z.2), fu_n _ _ g]; exact B1 k hk
  refine m_changed (bd := fu bd (4 * c + d) q) NT hW FT (fun σ' f' r' u' => h3 c d q ec hc ed hd hcd eq hq σ' (fr_tr ft (fr_mo f' (by decide))) (NM_ag (fr_ag f' (by decide)) NT) (MF_ag (fr_ag f' (by decide)) FT) (fun sl hsl => MS_ag (fr_ag f' (by decide)) (MS_ag (fr_ag fs8 (by decide)) (MS_ag (fr_ag f1 (by decide)) hsl))) (MB_ag (fr_ag f' (by decide)) BT) r' u')
theorem nar_bool (b : Int32) : vp_nar .boolean b = b &&& 1 := by unfold vp_nar; simp [narrow]
theorem m_still {σ : St} {N : Ne} {sl : Nat → Bool} {a : Int32} {w : Bool} {post : Int32 → St → Prop} (hN : NM σ N) (hW : WN N) (hS : MS σ N sl)
    (h1 : (∀ c, a = nI c → c < nn N → nk N c ≤ 4) → ∀ σ', fr0 σ σ' → post (-1) σ')
    (h3 : ∀ c, a = nI c → c < nn N → 4 < nk N c → ∀ σ', fr [7] [(0, 0)] σ σ' → MS σ' N (fu sl c w) → post (bI (sl c)) σ') : w_X12_still σ a (bI w) post := by
  unfold w_X12_still
  refine nm_of ?_
  have f1 := fr0_up σ
  generalize upI σ 0 0 0 = σ1 at f1
  have N1 := NM_ag (fr_ag f1 (by decide)) hN
  have S1 := MS_ag (fr_ag f1 (by decide)) hS
  have h24 := hW.1
  refine m_isBit N1 hW (fun g => br_1 rfl (h1 g σ1 f1)) (fun c ec hc h4 => br_0 (by decide) ?_)
  refine rd_of c ec (by omega) (by decide) (ck_of c ec (by omega) (by decide) (nm_of ?_))
  rw [S1 c hc, ec, cl_nI (by omega)]
  have e1 : vp_nar .boolean (bI w) = bI w := by rw [nar_bool]; cases w <;> decide
  rw [e1]
  generalize t : upI σ1 7 c (bI w) = τ
  have ft : fr [7] [(0, 0)] σ τ := by rw [← t]; exact fr_tr (fr_mo f1 (by decide)) (fr_I σ1 _ _ _ (by simp))
  have ST : MS τ N (fu sl c w) := by
    intro i hi
    rw [← t, upI_get]
    by_cases g : i = c
    · rw [if_pos ⟨rfl, g⟩, g, fu_s]
    · rw [if_neg (fun z => g z.2), fu_n _ _ g]; exact S1 i hi
  have key := h3 c ec hc h4 τ ft ST
  cases hb : sl c with
  | false => rw [hb] at key; exact br_1 rfl key
  | true => rw [hb] at key; exact br_0 (by decide) key
