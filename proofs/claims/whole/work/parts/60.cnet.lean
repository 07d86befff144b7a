/-! THE CLASS'S NET -/
/-- a bit of a long -/
def lb (w : Int64) (i : Nat) : Bool := w.toBitVec.getLsbD i
/-- the bits' values that the number a packs -/
def upk (N : Ne) (a : Nat) : Nat → Bool := fun c => decide (c < nn N) && isB N c && a.testBit (fb_ct (isB N) c)
def CN (σ : St) (N : Ne) : Prop := σ.1 1 0 = nI (nn N) ∧ σ.1 1 1 = nI (nb N) ∧ (∀ c, c < nn N → σ.1 8 c = nI (nk N c)) ∧ (∀ c, c < nn N → σ.1 9 c = if 4 < nk N c then nI (nc N c) else -2) ∧ (∀ c, c < nn N → σ.1 10 c = if nk N c = 5 then -2 else nI (nx N c)) ∧ (∀ c, c < nn N → σ.1 11 c = if nk N c ≤ 4 ∧ nk N c ≠ 3 then nI (ny N c) else -2) ∧ (∀ c, c < nn N → σ.1 12 c = if nk N c = 4 then nI (nz N c) else -2) ∧ (∀ c, c < nn N → 4 < nk N c → σ.1 13 c = nI (fb_ct (isB N) c) ∧ σ.1 14 (fb_ct (isB N) c) = nI c) ∧ (∀ k, k < 4 → PM N (σ.1 15 k) (fun c => decide (nc N c = k))) ∧ (∀ c, c < nn N → PM N (σ.1 16 c) (HG N c)) ∧ PM N (σ.1 1 4) (fun c => decide (nk N c = 6)) ∧ (∀ c, c < nn N → ∀ a, a < 1024 → lb (σ.2 17 (16 * c + a / 64)) (a % 64) = EV N (upk N a) c)
def CF (σ : St) (N : Ne) (fs : Nat → Bool) : Prop := PM N (σ.1 1 2) (fz N fs)
def CS (σ : St) (N : Ne) (sl : Nat → Bool) : Prop := PM N (σ.1 1 3) sl
theorem CN_ag {σ σ' : St} {N : Ne} (h : ag [8, 9, 10, 11, 12, 13, 14, 15, 16, 17] [(1, 0), (1, 1), (1, 4)] σ σ') (hN : CN σ N) : CN σ' N := by
  obtain ⟨h1, h2, h3, h4, h5, h6, h7, h8, h9, h10, h11, h12⟩ := hN
  have e := fun k j q => (h k j q).1
  refine ⟨?_, ?_, fun c hc => ?_, fun c hc => ?_, fun c hc => ?_, fun c hc => ?_, fun c hc => ?_, fun c hc g => ?_, fun k hk => ?_, fun c hc => ?_, ?_, fun c hc a ha => ?_⟩
  · rw [e 1 0 (by simp)]; exact h1
  · rw [e 1 1 (by simp)]; exact h2
  · rw [e 8 c (by simp)]; exact h3 c hc
  · rw [e 9 c (by simp)]; exact h4 c hc
  · rw [e 10 c (by simp)]; exact h5 c hc
  · rw [e 11 c (by simp)]; exact h6 c hc
  · rw [e 12 c (by simp)]; exact h7 c hc
  · rw [e 13 c (by simp), e 14 _ (by simp)]; exact h8 c hc g
  · rw [e 15 k (by simp)]; exact h9 k hk
  · rw [e 16 c (by simp)]; exact h10 c hc
  · rw [e 1 4 (by simp)]; exact h11
  · rw [(h 17 _ (by simp)).2]; exact h12 c hc a ha
theorem CF_ag {σ σ' : St} {N : Ne} {fs : Nat → Bool} (h : ag [] [(1, 2)] σ σ') (hN : CF σ N fs) : CF σ' N fs := by unfold CF; rw [(h 1 2 (by simp)).1]; exact hN
theorem CS_ag {σ σ' : St} {N : Ne} {sl : Nat → Bool} (h : ag [] [(1, 3)] σ σ') (hN : CS σ N sl) : CS σ' N sl := by unfold CS; rw [(h 1 3 (by simp)).1]; exact hN
theorem c_isCell {σ : St} {N : Ne} {a : Int32} {post : Int32 → Prop} (hn : σ.1 1 0 = nI (nn N)) (hW : WN N) (h1 : ixI a (nn N) = none → post 0) (h2 : ∀ j, a = nI j → j < nn N → post 1) : w_X4_isCell σ a post := by
  have := hW.1
  unfold w_X4_isCell
  cases hq : ixI a (nn N) with
  | none =>
    refine br_2 (fun _ => h1 hq) (fun g => ?_)
    rw [hn]
    rcases ixI_none (by omega) hq with q | q
    · exact absurd q g
    · exact br_1 q (h1 hq)
  | some j =>
    obtain ⟨e1, hj⟩ := ixI_some (by omega) hq
    have hp := h2 j e1 hj
    subst e1
    refine br_0 (nI_pos (by omega)) ?_
    rw [hn]
    exact br_0 (fun g => absurd ((nI_leI (by omega) (by omega)).mp g) (by omega)) hp
theorem c_isKeeper {σ : St} {N : Ne} {a : Int32} {post : Int32 → Prop} (hN : CN σ N) (hW : WN N) (h1 : (∀ j, a = nI j → j < nn N → nk N j ≠ 6) → post 0) (h2 : ∀ j, a = nI j → j < nn N → nk N j = 6 → post 1) : w_X4_isKeeper σ a post := by
  have h24 := hW.1
  unfold w_X4_isKeeper
  refine c_isCell hN.1 hW (fun g => br_1 rfl (h1 (fun j e hj => ?_))) (fun j e hj => ?_)
  · rw [e, ixI_nI (by omega) hj] at g; cases g
  · refine br_0 (by decide) ?_
    refine rd_of j e (by omega) (by decide) ?_
    rw [hN.2.2.1 j hj]
    have h6 := hW.2.1 j hj
    refine br_eq (nk N j) 6 rfl rfl (by omega) (by omega) (fun q => h2 j e hj q) (fun q => h1 (fun i ei hi => ?_))
    rw [e] at ei
    have := (nI_eq (by omega) (by omega)).mp ei
    subst this
    exact q
theorem c_isBit {σ : St} {N : Ne} {a : Int32} {post : Int32 → Prop} (hN : CN σ N) (hW : WN N) (h1 : (∀ j, a = nI j → j < nn N → nk N j ≤ 4) → post 0) (h2 : ∀ j, a = nI j → j < nn N → 4 < nk N j → post 1) : w_X4_isBit σ a post := by
  have h24 := hW.1
  unfold w_X4_isBit
  refine c_isCell hN.1 hW (fun g => br_1 rfl (h1 (fun j e hj => ?_))) (fun j e hj => ?_)
  · rw [e, ixI_nI (by omega) hj] at g; cases g
  · refine br_0 (by decide) ?_
    refine rd_of j e (by omega) (by decide) ?_
    rw [hN.2.2.1 j hj]
    have h6 := hW.2.1 j hj
    refine br_lt (nk N j) 5 rfl rfl (by omega) (by omega) (fun q => h1 (fun i ei hi => ?_)) (fun q => h2 j e hj (by omega))
    rw [e] at ei
    have := (nI_eq (by omega) (by omega)).mp ei
    subst this
    omega
theorem c_takesNoBit {σ : St} {N : Ne} {post : Int32 → Prop} (hN : CN σ N) (hW : WN N) (h1 : nn N = 24 ∨ nb N = 10 → post 1) (h0 : nn N < 24 → nb N < 10 → post 0) : w_X4_takesNoBit σ post := by
  have h24 := hW.1
  have h10 : nb N ≤ 10 := hW.2.2.2.2.2.2.2
  unfold w_X4_takesNoBit
  refine br_le 24 (nn N) rfl hN.1 (by omega) (by omega) (fun q => h1 (Or.inl (by omega))) (fun q => ?_)
  exact br_lt (nb N) 10 hN.2.1 rfl (by omega) (by omega) (fun g => h0 q g) (fun g => h1 (Or.inr (by omega)))
/-- a packed number is below 1024 -/
theorem PM_nI {N : Ne} (hW : WN N) {m : Int32} {p : Nat → Bool} (h : PM N m p) : ∃ q, q < 1024 ∧ m = nI q ∧ (∀ c, c < nn N → 4 < nk N c → q.testBit (fb_ct (isB N) c) = p c) := by
  have h10 : nb N ≤ 10 := hW.2.2.2.2.2.2.2
  have h24 := hW.1
  obtain ⟨q, hq, e⟩ := nn_of (x := m) (h.2 31 (by omega))
  subst e
  refine ⟨q, nI_small (k := 10) hq (fun i _ hi => h.2 i (by omega)), rfl, fun c hc g => ?_⟩
  have l := ix_lt g hc
  rw [← h.1 c hc g]
  exact (bt_nI _ (by show fb_ct (isB N) c < 32; have : fb_ct (isB N) (nn N) ≤ 10 := h10; omega)).symm
theorem lb_get (w : Int64) {k : Nat} (hk : k < 64) : (((w.toUInt64 >>> ((nI k).toInt64.toUInt64 &&& Int64.toUInt64 63)).toInt64 : Int64).toInt32) &&& (1 : Int32) = bI (lb w k) := by
  rw [wb_cu k hk]
  have key : ∀ i, i < 32 → bt ((w.toUInt64 >>> UInt64.ofNat k).toInt64.toInt32) i = lb w (k + i) := by
    intro i hi
    unfold bt lb
    show ((w.toUInt64 >>> UInt64.ofNat k).toBitVec.signExtend 32).getLsbD i = _
    rw [BitVec.getLsbD_signExtend, UInt64.toBitVec_shiftRight]
    have e : ((UInt64.ofNat k).toBitVec % 64).toNat = k := by
      show ((BitVec.ofNat 64 k) % 64#64).toNat = k
      rw [BitVec.toNat_umod, BitVec.toNat_ofNat, Nat.mod_eq_of_lt (show k < 2 ^ 64 by omega)]
      exact Nat.mod_eq_of_lt hk
    simp only [hi, decide_true, Bool.true_and, show i < 64 by omega, if_true]
    show (w.toBitVec >>> ((UInt64.ofNat k).toBitVec % 64).toNat).getLsbD i = _
    rw [e, BitVec.getLsbD_ushiftRight]
  apply b_ext
  intro i hi
  rw [b_and, bt_1, key i hi, bt_bI]
  by_cases h : i = 0
  · subst h; simp
  · simp [h]
theorem c_valueOf {σ : St} {N : Ne} {v : Nat → Bool} {a b : Int32} {c : Nat} {post : Int32 → Prop} (hN : CN σ N) (hW : WN N) (ha : a = nI c) (hc : c < nn N) (hb : PM N b v) (h : post (bI (EV N v c))) : w_X4_valueOf σ a b post := by
  have h24 := hW.1
  obtain ⟨q, hq, rfl, hqb⟩ := PM_nI hW hb
  unfold w_X4_valueOf
  have e1 : a * (16 : Int32) + (nI q >>> ((6 : Int32) &&& 31)) = nI (16 * c + q / 64) := by
    rw [ha, pk_shrN (by omega) _ 6 (by decide), show (16 : Int32) = nI 16 from rfl, pk_mul, nI_add, Nat.mul_comm]
  have e2 : nI q &&& (63 : Int32) = nI (q % 64) := pk_andN (by omega) 6 (by decide)
  refine rd_of (16 * c + q / 64) e1 (by omega) (by decide) ?_
  rw [e2, lb_get _ (Nat.mod_lt _ (by decide)), hN.2.2.2.2.2.2.2.2.2.2.2 c hc q hq]
  have e3 : EV N (upk N q) c = EV N v c := EV_cong hW (fun d hd g => by
    show (decide (d < nn N) && isB N d && q.testBit (fb_ct (isB N) d)) = v d
    rw [hqb d hd g, decide_eq_true hd, isB_t g]; rfl) c hc
  rw [e3]
  exact h
