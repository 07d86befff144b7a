/-! THE ABSTRACT STATE -/
def fu {α : Type} (f : Nat → α) (k : Nat) (v : α) : Nat → α := fun i => if i = k then v else f i
theorem fu_s {α : Type} (f : Nat → α) (k : Nat) (v : α) : fu f k v k = v := if_pos rfl
theorem fu_n {α : Type} (f : Nat → α) {k i : Nat} (v : α) (h : i ≠ k) : fu f k v i = f i := if_neg h
/-- promises: how many; kind, x, y -/
abbrev Pr : Type := Nat × (Nat → Nat) × (Nat → Nat) × (Nat → Nat)
/-- a run: moments, the bits' values, the clocks' sets, the ticks, the keepers that were either -/
abbrev Ru : Type := Nat × (Nat → Nat → Bool) × (Nat → Nat) × (Nat → Nat) × (Nat → Bool)
/-- a shelf: 0 nothing, 1 a cell (weight, clock or -15), 3 booleans, 4 ints (size, row) -/
abbrev Sf : Type := Nat × Int32 × Int32 × Nat × (Nat → Int32)
/-- net, values at first, still ones, bounds, promises, run, whether it was walked, shelves -/
abbrev AS : Type := Ne × (Nat → Bool) × (Nat → Bool) × (Nat → Nat) × Pr × Ru × Bool × (Nat → Sf)
abbrev sN (S : AS) : Ne := S.1
abbrev sF (S : AS) : Nat → Bool := S.2.1
abbrev sL (S : AS) : Nat → Bool := S.2.2.1
abbrev sB (S : AS) : Nat → Nat := S.2.2.2.1
abbrev sP (S : AS) : Pr := S.2.2.2.2.1
abbrev sR (S : AS) : Ru := S.2.2.2.2.2.1
abbrev sW (S : AS) : Bool := S.2.2.2.2.2.2.1
abbrev sH (S : AS) : Nat → Sf := S.2.2.2.2.2.2.2
def run0 (N : Ne) (fs : Nat → Bool) : Ru := (0, fun _ => fz N fs, fun _ => 0, fun _ => 0, fun _ => false)
/-- how many bits -/
def nb (N : Ne) : Nat := fb_ct (isB N) (nn N)
/-- net, first, bounds set anew: the run is at the beginning, nothing was walked -/
def anew (N : Ne) (fs sl : Nat → Bool) (bd : Nat → Nat) (S : AS) : AS := (N, fs, sl, bd, sP S, run0 N fs, false, sH S)
def addB (N : Ne) (k c : Nat) : Ne := (nn N + 1, fu (nk N) (nn N) k, fu (nc N) (nn N) c, fu (nx N) (nn N) (nn N), ny N, nz N)
def addG (N : Ne) (k a b c : Nat) : Ne := (nn N + 1, fu (nk N) (nn N) k, nc N, fu (nx N) (nn N) a, fu (ny N) (nn N) b, fu (nz N) (nn N) c)
def clk (a : Int32) : Prop := ¬ a < 0 ∧ ¬ 3 < a
/-- an index: below n -/
def ixI (a : Int32) (n : Nat) : Option Nat := if a < 0 then none else if a.toNatClampNeg < n then some a.toNatClampNeg else none
theorem ixI_some {a : Int32} {n j : Nat} (hn : n < 2 ^ 31) (h : ixI a n = some j) : a = nI j ∧ j < n := by
  unfold ixI at h
  by_cases h1 : a < 0
  · rw [if_pos h1] at h; cases h
  · rw [if_neg h1] at h
    by_cases h2 : a.toNatClampNeg < n
    · rw [if_pos h2] at h
      cases h
      obtain ⟨j, hj, e⟩ := nI_of h1
      subst e
      rw [nI_clamp hj] at h2 ⊢
      exact ⟨rfl, h2⟩
    · rw [if_neg h2] at h; cases h
theorem ixI_nI {n j : Nat} (hn : n < 2 ^ 31) (h : j < n) : ixI (nI j) n = some j := by
  unfold ixI
  rw [if_neg (nI_pos (by omega)), nI_clamp (by omega), if_pos h]
theorem ixI_none {a : Int32} {n : Nat} (hn : n < 2 ^ 31) (h : ixI a n = none) : a < 0 ∨ nI n ≤ a := by
  by_cases h1 : a < 0
  · exact Or.inl h1
  · right
    obtain ⟨j, hj, e⟩ := nI_of h1
    subst e
    rcases Nat.lt_or_ge j n with q | q
    · rw [ixI_nI hn q] at h; cases h
    · exact nI_le q hj
/-- an int in 0 .. n - 1, or not -/
theorem ixI_lt {a : Int32} {n : Nat} (hn : n < 2 ^ 31) {A B C : Prop} (f : ixI a n = none → A) (g : ∀ j, a = nI j → j < n → ixI a n = some j → B) (hb : A → C) (hc : B → C) : C := by
  cases h : ixI a n with
  | none => exact hb (f h)
  | some j => exact hc (g j (ixI_some hn h).1 (ixI_some hn h).2 h)
/-- the reference's question 'is it in lo .. hi' for 0 .. n - 1 -/
theorem w_in0 {a : Int32} {hi : Int64} {post : Int32 → Prop} (n : Nat) (hn : n < 2 ^ 31) (h0 : 0 < n) (hh : hi = lN (n - 1)) (h1 : ixI a n = none → post 0) (h2 : ∀ j, a = nI j → j < n → post 1) : w_X12_isIn a.toInt64 0 hi post := by
  have z : (0 : Int64) = (0 : Int32).toInt64 := by decide
  have e : hi = (nI (n - 1)).toInt64 := by rw [hh, nI_l (by omega)]
  cases hq : ixI a n with
  | none =>
    have hp := h1 hq
    refine w_isIn_of (fun _ => hp) (fun _ => hp) (fun g1 g2 => ?_)
    rw [z, fa_wide_lt] at g1
    rw [e, fa_wide_lt] at g2
    rcases ixI_none hn hq with q | q
    · exact absurd q g1
    · exfalso
      apply g2
      obtain ⟨j, hj, e⟩ := nI_of g1
      subst e
      have q2 := (nI_leI (by omega) hj).mp q
      exact nI_lt (by omega) hj
  | some j =>
    obtain ⟨e1, hj⟩ := ixI_some hn hq
    have hp := h2 j e1 hj
    subst e1
    refine w_isIn_of (fun g => ?_) (fun g => ?_) (fun _ _ => hp)
    · rw [z, fa_wide_lt] at g
      exact absurd g (nI_pos (by omega))
    · rw [e, fa_wide_lt] at g
      exact absurd ((nI_ltI (by omega) (by omega)).mp g) (by omega)
theorem m_isCell {σ : St} {N : Ne} {a : Int32} {post : Int32 → Prop} (hn : σ.1 0 1 = nI (nn N)) (hW : WN N) (h1 : ixI a (nn N) = none → post 0) (h2 : ∀ j, a = nI j → j < nn N → post 1) : w_X12_isCell σ a post := by
  have := hW.1
  unfold w_X12_isCell
  cases hq : ixI a (nn N) with
  | none =>
    refine br_2 (fun _ => h1 hq) (fun g => ?_)
    rw [hn]
    rcases ixI_none (by omega) hq with q | q
    · exact absurd q g
    · exact br_1 q (h1 hq)
  | some j =>
    obtain ⟨e1, hj⟩ := ixI_some (by omega) hq
    have hp := h2 j e1 hj
    subst e1
    refine br_0 (nI_pos (by omega)) ?_
    rw [hn]
    exact br_0 (fun g => absurd ((nI_leI (by omega) (by omega)).mp g) (by omega)) hp
theorem m_isKeeper {σ : St} {N : Ne} {a : Int32} {post : Int32 → Prop} (hN : NM σ N) (hW : WN N) (h1 : (∀ j, a = nI j → j < nn N → nk N j ≠ 6) → post 0) (h2 : ∀ j, a = nI j → j < nn N → nk N j = 6 → post 1) : w_X12_isKeeper σ a post := by
  have h24 := hW.1
  unfold w_X12_isKeeper
  refine m_isCell hN.1 hW (fun g => br_1 rfl (h1 (fun j e hj => ?_))) (fun j e hj => ?_)
  · rw [e, ixI_nI (by omega) hj] at g; cases g
  · refine br_0 (by decide) ?_
    refine rd_of j e (by omega) (by decide) ?_
    rw [hN.2.2.1 j hj]
    have h6 := hW.2.1 j hj
    refine br_eq (nk N j) 6 rfl rfl (by omega) (by omega) (fun q => h2 j e hj q) (fun q => h1 (fun i ei hi => ?_))
    rw [e] at ei
    have := (nI_eq (by omega) (by omega)).mp ei
    subst this
    exact q
theorem m_isBit {σ : St} {N : Ne} {a : Int32} {post : Int32 → Prop} (hN : NM σ N) (hW : WN N) (h1 : (∀ j, a = nI j → j < nn N → nk N j ≤ 4) → post 0) (h2 : ∀ j, a = nI j → j < nn N → 4 < nk N j → post 1) : w_X12_isBit σ a post := by
  have h24 := hW.1
  unfold w_X12_isBit
  refine m_isCell hN.1 hW (fun g => br_1 rfl (h1 (fun j e hj => ?_))) (fun j e hj => ?_)
  · rw [e, ixI_nI (by omega) hj] at g; cases g
  · refine br_0 (by decide) ?_
    refine rd_of j e (by omega) (by decide) ?_
    rw [hN.2.2.1 j hj]
    have h6 := hW.2.1 j hj
    refine br_le (nk N j) 4 rfl rfl (by omega) (by omega) (fun q => h1 (fun i ei hi => ?_)) (fun q => h2 j e hj q)
    rw [e] at ei
    have := (nI_eq (by omega) (by omega)).mp ei
    subst this
    exact q
/-- nothing was walked -/
def MU (σ : St) : Prop := σ.1 0 25 = 0 ∧ σ.1 0 26 = 0 ∧ σ.1 0 27 = 0 ∧ σ.1 0 28 = 0 ∧ σ.1 0 29 = 0 ∧ σ.1 0 38 = 0
theorem m_unwalk {σ : St} {post : St → Prop} (h : ∀ σ', fr [] [(0, 25), (0, 26), (0, 27), (0, 28), (0, 29), (0, 38)] σ σ' → MU σ' → post σ') : w_X12_unwalk σ post := by
  unfold w_X12_unwalk
  refine nm_of (nm_of (nm_of (nm_of (nm_of (nm_of (h _ ?_ ?_))))))
  · exact fr_stepI (fr_stepI (fr_stepI (fr_stepI (fr_stepI (fr_I σ _ _ _ (by simp)) _ _ _ (by simp)) _ _ _ (by simp)) _ _ _ (by simp)) _ _ _ (by simp)) _ _ _ (by simp)
  · refine ⟨?_, ?_, ?_, ?_, ?_, ?_⟩ <;> simp [upI_get]
theorem fb_ct_no (n : Nat) : fb_ct (fun _ => false) n = 0 := fb_ct_zero.mpr (fun _ _ => rfl)
theorem m_begin {σ : St} {N : Ne} {fs : Nat → Bool} {bd : Nat → Nat} {post : St → Prop} (hN : NM σ N) (hW : WN N) (hF : MF σ N fs) (h : ∀ σ', fr [12, 14] [(0, 15), (0, 20)] σ σ' → MR σ' N bd 0 (fun _ => fz N fs) (fun _ => 0) (fun _ => 0) (fun _ => false) → post σ') : w_X12_begin σ post := by
  unfold w_X12_begin
  refine nm_of (nm_of ?_)
  have f2 : fr [12, 14] [(0, 15), (0, 20)] σ (upI (upI σ 0 15 0) 0 20 0) := fr_stepI (fr_I σ _ _ _ (by simp)) _ _ _ (by simp)
  refine m_beginning (fs := fs) (NM_ag (fr_ag f2 (by decide)) hN) hW (MF_ag (fr_ag f2 (by decide)) hF) (fun r hr => ?_)
  refine ck_of 0 rfl (by omega) (by decide) (nm_of (jn_at ?_))
  generalize e5 : upI (upI (upI σ 0 15 0) 0 20 0) 12 ((0 : Int32)).toNatClampNeg r = σ5
  have f5 : fr [12, 14] [(0, 15), (0, 20)] σ σ5 := by rw [← e5]; exact fr_stepI f2 _ _ _ (by simp)
  have a5 : σ5.1 0 15 = 0 ∧ σ5.1 0 20 = 0 ∧ σ5.1 12 0 = r := by
    rw [← e5]
    refine ⟨?_, ?_, ?_⟩
    · simp [upI_get]
    · simp [upI_get]
    · rw [upI_get, if_pos ⟨rfl, by decide⟩]
  refine lpE2_inv (I := fun y8 σ9 => ∃ c, c ≤ 16 ∧ y8 = nI c ∧ fr [12, 14] [(0, 15), (0, 20)] σ σ9 ∧ (σ9.1 0 15 = 0 ∧ σ9.1 0 20 = 0 ∧ σ9.1 12 0 = r) ∧ ∀ k, k < c → σ9.1 14 k = 0) (μ := fun y8 _ => 16 - y8.toNatClampNeg) ?_ 0 σ5 ⟨0, by omega, rfl, f5, a5, fun k hk => absurd hk (Nat.not_lt_zero k)⟩
  rintro rec y8 σ9 ⟨c, hc, rfl, f9, a9, z9⟩ hrec
  unfold w_X12_begin_L22
  refine br_le 16 c rfl rfl (by omega) (by omega) (fun q => ?_) (fun q => ?_)
  · refine h σ9 f9 ⟨a9.1, fun i hi c => ?_, fun i hi => absurd hi (Nat.not_lt_zero i), fun k hk => z9 k (by omega), ?_, fun c hc he => Bool.noConfusion he⟩
    · rw [show i = 0 by omega, a9.2.2, hr]
    · rw [fb_ct_no]; exact a9.2.1
  · refine ck_of c rfl (by omega) (by decide) (nm_of (nm_of (hrec _ _ ⟨c + 1, q, nI_1 c, fr_stepI f9 _ _ _ (by simp), ?_, fun k hk => ?_⟩ ?_)))
    · simp only [upI_get]
      refine ⟨?_, ?_, ?_⟩
      · rw [if_neg (by omega)]; exact a9.1
      · rw [if_neg (by omega)]; exact a9.2.1
      · rw [if_neg (by omega)]; exact a9.2.2
    · rw [upI_get, cl_nI (by omega)]
      by_cases g : k = c
      · rw [if_pos ⟨rfl, g⟩]
      · rw [if_neg (fun z => g z.2)]; exact z9 k (by omega)
    · rw [nI_1, cl_nI (by omega), cl_nI (by omega)]; omega
theorem m_changed {σ : St} {N : Ne} {fs : Nat → Bool} {bd : Nat → Nat} {post : St → Prop} (hN : NM σ N) (hW : WN N) (hF : MF σ N fs) (h : ∀ σ', fr [12, 14] [(0, 15), (0, 20), (0, 25), (0, 26), (0, 27), (0, 28), (0, 29), (0, 38)] σ σ' → MR σ' N bd 0 (fun _ => fz N fs) (fun _ => 0) (fun _ => 0) (fun _ => false) → MU σ' → post σ') : w_X12_changed σ post := by
  unfold w_X12_changed
  refine m_begin (bd := bd) hN hW hF (fun σ1 f1 r1 => m_unwalk (fun σ2 f2 u2 => h σ2 (fr_tr (fr_mo f1 (by decide)) (fr_mo f2 (by decide))) (MR_ag (fr_ag f2 (by decide)) r1) u2))
