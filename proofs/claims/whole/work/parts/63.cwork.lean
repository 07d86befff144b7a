/-! THE CLASS: workOut -/
theorem lb_and (a b : Int64) (j : Nat) : lb (a &&& b) j = (lb a j && lb b j) := by unfold lb; rw [Int64.toBitVec_and, BitVec.getLsbD_and]
theorem lb_or (a b : Int64) (j : Nat) : lb (a ||| b) j = (lb a j || lb b j) := by unfold lb; rw [Int64.toBitVec_or, BitVec.getLsbD_or]
theorem lb_xor (a b : Int64) (j : Nat) : lb (a ^^^ b) j = (lb a j ^^ lb b j) := by unfold lb; rw [Int64.toBitVec_xor, BitVec.getLsbD_xor]
theorem lb_not (a : Int64) {j : Nat} (hj : j < 64) : lb (a ^^^ (-1 : Int64)) j = !lb a j := by rw [lb_xor, m1_bit j hj, Bool.xor_true]
theorem c_wordOfGate {a : Int32} {k : Nat} {p q r : Int64} {post : Int64 → Prop} (ha : a = nI k) (hk : k ≤ 4) (h : ∀ w : Int64, (∀ j, j < 64 → lb w j = gv k (lb p j) (lb q j) (lb r j)) → post w) : w_X4_wordOfGate a p q r post := by
  unfold w_X4_wordOfGate
  refine br_eq k 0 ha rfl (by omega) (by omega) (fun e => h _ (fun j _ => by rw [lb_and, e]; rfl)) (fun e0 => ?_)
  refine br_eq k 1 ha rfl (by omega) (by omega) (fun e => h _ (fun j _ => by rw [lb_or, e]; rfl)) (fun e1 => ?_)
  refine br_eq k 2 ha rfl (by omega) (by omega) (fun e => h _ (fun j _ => by rw [lb_xor, e]; rfl)) (fun e2 => ?_)
  refine br_eq k 3 ha rfl (by omega) (by omega) (fun e => h _ (fun j hj => by rw [lb_not _ hj, e]; rfl)) (fun e3 => h _ (fun j hj => ?_))
  have e4 : k = 4 := by omega
  rw [lb_or, lb_and, lb_and, lb_not _ hj, e4]
  show _ = if lb p j then lb q j else lb r j
  cases lb p j <;> simp
/-- a gate's row of the table out of those of x, y, z; on what it hangs -/
theorem c_workOut {σ : St} {a : Int32} {c k x y z : Nat} {T : Nat → Nat → Bool} {post : St → Prop} (ha : a = nI c) (hc : c < 24) (hk : k ≤ 4) (h8 : σ.1 8 c = nI k) (h10 : σ.1 10 c = nI x) (h11 : σ.1 11 c = if k ≠ 3 then nI y else -2) (h12 : σ.1 12 c = if k = 4 then nI z else -2)
    (hx : x < 24 ∧ x ≠ c) (hy : k ≠ 3 → y < 24 ∧ y ≠ c) (hz : k = 4 → z < 24 ∧ z ≠ c) (hT : ∀ r, (r = x ∨ (k ≠ 3 ∧ r = y) ∨ (k = 4 ∧ r = z)) → ∀ u, u < 16 → ∀ j, j < 64 → lb (σ.2 17 (16 * r + u)) j = T r (64 * u + j))
    (h : ∀ σ', fr [16, 17] [] σ σ' → (∀ d, d ≠ c → σ'.1 16 d = σ.1 16 d) → (∀ i, bt (σ'.1 16 c) i = (bt (σ.1 16 x) i || (decide (k ≠ 3) && bt (σ.1 16 y) i) || (decide (k = 4) && bt (σ.1 16 z) i))) → (∀ j, ¬ (16 * c ≤ j ∧ j < 16 * c + 16) → σ'.2 17 j = σ.2 17 j) → (∀ u, u < 16 → ∀ j, j < 64 → lb (σ'.2 17 (16 * c + u)) j = gv k (T x (64 * u + j)) (T y (64 * u + j)) (T z (64 * u + j))) → post σ') : w_X4_workOut σ a post := by
  unfold w_X4_workOut
  refine rd_of c ha hc (by decide) (rd_of c ha hc (by decide) ?_)
  rw [h10, h11]
  refine jn_1 (fun y4 => ∃ y', y4 = nI y' ∧ y' < 24 ∧ y' ≠ c ∧ (k ≠ 3 → y' = y) ∧ (k = 3 → y' = x)) (fun J3 hJ3 => ?_) ?_
  · by_cases e3 : k = 3
    · rw [if_neg (fun n => n e3)]
      exact br_0 (by decide) (hJ3 _ ⟨x, rfl, hx.1, hx.2, fun n => absurd e3 n, fun _ => rfl⟩)
    · have := hy e3
      rw [if_pos e3]
      refine br_1 (nI_pos' (by omega)) (rd_of c ha hc (by decide) ?_)
      rw [h11, if_pos e3]
      exact hJ3 _ ⟨y, rfl, this.1, this.2, fun _ => rfl, fun n => absurd n e3⟩
  rintro y4 ⟨y', rfl, hy1, hy2, hy3, hy4⟩
  refine rd_of c ha hc (by decide) ?_
  rw [h12]
  refine jn_1 (fun y7 => ∃ z', y7 = nI z' ∧ z' < 24 ∧ z' ≠ c ∧ (k = 4 → z' = z) ∧ (k ≠ 4 → z' = x)) (fun J6 hJ6 => ?_) ?_
  · by_cases e4 : k = 4
    · have := hz e4
      rw [if_pos e4]
      refine br_1 (nI_pos' (by omega)) (rd_of c ha hc (by decide) ?_)
      rw [h12, if_pos e4]
      exact hJ6 _ ⟨z, rfl, this.1, this.2, fun _ => rfl, fun n => absurd e4 n⟩
    · rw [if_neg e4]
      exact br_0 (by decide) (hJ6 _ ⟨x, rfl, hx.1, hx.2, fun n => absurd n e4, fun _ => rfl⟩)
  rintro y7 ⟨z', rfl, hz1, hz2, hz3, hz4⟩
  refine rd_of x rfl hx.1 (by decide) (rd_of y' rfl hy1 (by decide) (rd_of z' rfl hz1 (by decide) (ck_of c ha hc (by decide) (nm_of (jn_at ?_)))))
  rw [ha, cl_nI (by omega)]
  generalize t : upI σ 16 c (σ.1 16 x ||| σ.1 16 y' ||| σ.1 16 z') = σ11
  have f11 : fr [16, 17] [] σ σ11 := by rw [← t]; exact fr_I σ _ _ _ (by simp)
  have l11 : σ11.2 = σ.2 := by rw [← t]; rfl
  have hang : ∀ i, bt (σ11.1 16 c) i = (bt (σ.1 16 x) i || (decide (k ≠ 3) && bt (σ.1 16 y) i) || (decide (k = 4) && bt (σ.1 16 z) i)) := by
    intro i
    rw [← t, upI_get, if_pos ⟨rfl, rfl⟩, b_or, b_or]
    by_cases e3 : k = 3
    · rw [hy4 e3, hz4 (by omega)]; simp [e3]
    · rw [hy3 e3]
      by_cases e4 : k = 4
      · rw [hz3 e4]; simp [e4]
      · rw [hz4 e4]
        cases bt (σ.1 16 x) i <;> simp [e3, e4]
  have oth16 : ∀ d, d ≠ c → σ11.1 16 d = σ.1 16 d := fun d hd => by rw [← t, upI_get, if_neg (fun q => hd q.2)]
  have h8' : σ11.1 8 c = nI k := by rw [← t, upI_get, if_neg (by omega)]; exact h8
  have rowT : ∀ r, (r = x ∨ r = y' ∨ r = z') → ∀ u, u < 16 → ∀ j, j < 64 → lb (σ.2 17 (16 * r + u)) j = T r (64 * u + j) := by
    intro r hr u hu j hj
    rcases hr with e | e | e
    · exact hT r (Or.inl e) u hu j hj
    · by_cases e3 : k = 3
      · exact hT r (Or.inl (by rw [e, hy4 e3])) u hu j hj
      · exact hT r (Or.inr (Or.inl ⟨e3, by rw [e, hy3 e3]⟩)) u hu j hj
    · by_cases e4 : k = 4
      · exact hT r (Or.inr (Or.inr ⟨e4, by rw [e, hz3 e4]⟩)) u hu j hj
      · exact hT r (Or.inl (by rw [e, hz4 e4])) u hu j hj
  refine lpE2_inv (I := fun y s => ∃ w, w ≤ 16 ∧ y = nI w ∧ fr [17] [] σ11 s ∧ (∀ j, ¬ (16 * c ≤ j ∧ j < 16 * c + 16) → s.2 17 j = σ.2 17 j) ∧ (∀ u, u < w → ∀ j, j < 64 → lb (s.2 17 (16 * c + u)) j = gv k (T x (64 * u + j)) (T y' (64 * u + j)) (T z' (64 * u + j)))) (μ := fun y _ => 16 - y.toNatClampNeg) ?_ 0 σ11 ⟨0, by omega, rfl, fr_rf, fun j _ => by rw [l11], fun u hu => absurd hu (Nat.not_lt_zero u)⟩
  rintro rec yv s ⟨w, hw, rfl, gS, oS, nS⟩ hrec
  have aS := fr_ag (S1 := [8, 16]) (F1 := []) gS (by decide)
  unfold w_X4_workOut_L78
  refine br_le 16 w rfl rfl (by omega) (by omega) (fun q => h s (fr_tr f11 (fr_mo gS (by decide))) (fun d hd => by rw [(aS 16 d (by simp)).1]; exact oth16 d hd) (fun i => by rw [(aS 16 c (by simp)).1]; exact hang i) oS (fun u hu j hj => ?_)) (fun q => ?_)
  · rw [nS u (by omega) j hj]
    by_cases e3 : k = 3
    · simp [gv, e3]
    · rw [hy3 e3]
      by_cases e4 : k = 4
      · rw [hz3 e4]
      · have : k = 0 ∨ k = 1 ∨ k = 2 := by omega
        rcases this with e | e | e <;> simp [gv, e]
  refine rd_of c rfl hc (by decide) ?_
  rw [(aS 8 c (by simp)).1, h8']
  have ix : ∀ r : Nat, nI r * (16 : Int32) + nI w = nI (16 * r + w) := fun r => by rw [show (16 : Int32) = nI 16 from rfl, pk_mul, nI_add, Nat.mul_comm]
  refine rd_of (16 * x + w) (ix x) (by omega) (by decide) (rd_of (16 * y' + w) (ix y') (by omega) (by decide) (rd_of (16 * z' + w) (ix z') (by omega) (by decide) ?_))
  rw [oS (16 * x + w) (by omega), oS (16 * y' + w) (by omega), oS (16 * z' + w) (by omega)]
  refine c_wordOfGate rfl hk (fun r hr => ?_)
  refine ck_of (16 * c + w) (ix c) (by omega) (by decide) (nm_of (nm_of ?_))
  rw [ix c, cl_nI (show 16 * c + w < 2 ^ 31 by omega)]
  refine hrec _ _ ⟨w + 1, q, nI_1 w, fr_stepJ gS _ _ _ (by simp), fun j hj => ?_, fun u hu j hj => ?_⟩ (by rw [nI_1, cl_nI (by omega), cl_nI (by omega)]; omega)
  · rw [upJ_get, if_neg (by omega)]; exact oS j hj
  · rw [upJ_get]
    by_cases g : u = w
    · rw [if_pos ⟨rfl, by omega⟩, g, hr j hj, rowT x (Or.inl rfl) w q j hj, rowT y' (Or.inr (Or.inl rfl)) w q j hj, rowT z' (Or.inr (Or.inr rfl)) w q j hj]
    · rw [if_neg (by omega)]; exact nS u (by omega) j hj
