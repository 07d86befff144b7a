/-! THE CLASS: a bit comes -/
theorem ev_ext {N M : Ne} {n : Nat} (h1 : ∀ i, i < n → nk M i = nk N i) (h2 : ∀ i, i < n → nk N i ≤ 4 → nx M i = nx N i ∧ ny M i = ny N i ∧ nz M i = nz N i) (v : Nat → Bool) : ∀ c, c ≤ n → ev M v c = ev N v c
  | 0, _ => rfl
  | c + 1, h => by
    have ih := ev_ext h1 h2 v c (by omega)
    funext i
    show (if i = c ∧ nk M c ≤ 4 then gv (nk M c) (ev M v c (nx M c)) (ev M v c (ny M c)) (ev M v c (nz M c)) else ev M v c i) = (if i = c ∧ nk N c ≤ 4 then gv (nk N c) (ev N v c (nx N c)) (ev N v c (ny N c)) (ev N v c (nz N c)) else ev N v c i)
    rw [h1 c (by omega), ih]
    by_cases g : i = c ∧ nk N c ≤ 4
    · obtain ⟨a, b, d⟩ := h2 c (by omega) g.2
      rw [if_pos g, if_pos g, a, b, d]
    · rw [if_neg g, if_neg g]
theorem EV_ext {N M : Ne} (hn : nn N ≤ nn M) (h1 : ∀ i, i < nn N → nk M i = nk N i) (h2 : ∀ i, i < nn N → nk N i ≤ 4 → nx M i = nx N i ∧ ny M i = ny N i ∧ nz M i = nz N i) (v : Nat → Bool) {c : Nat} (hc : c < nn N) : EV M v c = EV N v c := by
  unfold EV
  rw [ev_done M v hc hn, ev_ext h1 h2 v (nn N) (Nat.le_refl _)]
theorem hv_ext {N M : Ne} {n : Nat} (h1 : ∀ i, i < n → nk M i = nk N i) (h2 : ∀ i, i < n → nk N i ≤ 4 → nx M i = nx N i ∧ ny M i = ny N i ∧ nz M i = nz N i) (hr : ∀ i, i < n → nk N i ≤ 4 → ∀ r, looks N i r → r < n) : ∀ k, k ≤ n → ∀ c b, c < n → hv M k c b = hv N k c b
  | 0, _, c, b, hc => by
    show (decide (b = c) && isB M c) = (decide (b = c) && isB N c)
    unfold isB
    rw [h1 c hc]
  | k + 1, hk, c, b, hc => by
    have ih := hv_ext h1 h2 hr k (by omega)
    show (if c = k ∧ nk M k ≤ 4 then (hv M k (nx M k) b || (decide (nk M k ≠ 3) && hv M k (ny M k) b)) || (decide (nk M k = 4) && hv M k (nz M k) b) else hv M k c b) = (if c = k ∧ nk N k ≤ 4 then (hv N k (nx N k) b || (decide (nk N k ≠ 3) && hv N k (ny N k) b)) || (decide (nk N k = 4) && hv N k (nz N k) b) else hv N k c b)
    rw [h1 k (by omega)]
    by_cases g : c = k ∧ nk N k ≤ 4
    · obtain ⟨a, e, d⟩ := h2 k (by omega) g.2
      rw [if_pos g, if_pos g, a, e, d, ih _ b (hr k (by omega) g.2 _ (Or.inl rfl))]
      by_cases g3 : nk N k = 3
      · simp [g3]
      · rw [ih _ b (hr k (by omega) g.2 _ (Or.inr (Or.inl ⟨g3, rfl⟩)))]
        by_cases g4 : nk N k = 4
        · rw [ih _ b (hr k (by omega) g.2 _ (Or.inr (Or.inr ⟨g4, rfl⟩)))]
        · simp [g4]
    · rw [if_neg g, if_neg g]; exact ih c b hc
theorem HG_ext {N M : Ne} (hW : WN N) (hn : nn N ≤ nn M) (h1 : ∀ i, i < nn N → nk M i = nk N i) (h2 : ∀ i, i < nn N → nk N i ≤ 4 → nx M i = nx N i ∧ ny M i = ny N i ∧ nz M i = nz N i) {c : Nat} (hc : c < nn N) (b : Nat) : HG M c b = HG N c b := by
  unfold HG
  rw [hv_done M hc hn b]
  exact hv_ext h1 h2 (fun i hi g r hl => (looks_rf hW hi g hl).1) (nn N) (Nat.le_refl _) c b hc
theorem fbx (N : Ne) (k c : Nat) {d : Nat} (hd : d ≤ nn N) : fb_ct (isB (addB N k c)) d = fb_ct (isB N) d := by
  rw [isB_addB]
  exact fb_ct_cong (fun i hi => fu_n _ _ (by omega))
/-- a new bit's place in a packed number -/
theorem PM_add {N : Ne} {k c : Nat} (hk : 4 < k) {m m' : Int32} {p p' : Nat → Bool} {b : Bool} (h : PM N m p) (hm : ∀ i, bt m' i = if i = nb N then b else bt m i) (hp : ∀ d, d < nn N → 4 < nk N d → p' d = p d) (hb : p' (nn N) = b) : PM (addB N k c) m' p' := by
  refine ⟨fun d hd g => ?_, fun i hi => ?_⟩
  · have hd : d < nn N + 1 := hd
    rw [fbx N k c (by omega), hm]
    by_cases q : d = nn N
    · rw [q, if_pos (show fb_ct (isB N) (nn N) = nb N from rfl), hb]
    · have g : 4 < fu (nk N) (nn N) k d := g
      rw [fu_n _ _ q] at g
      have l : fb_ct (isB N) d < nb N := ix_lt g (by omega)
      rw [if_neg (by omega), h.1 d (by omega) g, hp d (by omega) g]
  · rw [nb_addB N c hk] at hi
    rw [hm, if_neg (by omega)]
    exact h.2 i (by omega)
theorem PM_add0 {N : Ne} {k c : Nat} (hk : 4 < k) {m : Int32} {p p' : Nat → Bool} (h : PM N m p) (hp : ∀ d, d < nn N → 4 < nk N d → p' d = p d) (hb : p' (nn N) = false) : PM (addB N k c) m p' :=
  PM_add hk (b := false) h (fun i => by by_cases q : i = nb N; rw [if_pos q, q]; exact h.2 _ (Nat.le_refl _); rw [if_neg q]) hp hb
theorem low_bit : ∀ i, i < 6 → ∀ j, j < 64 → lb (lowF i) j = j.testBit i := by decide +kernel
theorem m1_bit : ∀ j, j < 64 → lb (-1) j = true := by decide +kernel
theorem z0_bit : ∀ j, j < 64 → lb 0 j = false := by decide +kernel
theorem tb_hi {w j i : Nat} (hj : j < 64) : (64 * w + j).testBit i = if i < 6 then j.testBit i else w.testBit (i - 6) := by
  have := Nat.testBit_two_pow_mul_add (a := w) (b := j) (i := 6) (show j < 2 ^ 6 from hj) i
  rw [show (2 : Nat) ^ 6 = 64 from rfl] at this
  exact this
theorem c_wordOfBit {σ : St} {a b : Int32} {i w : Nat} {post : Int64 → Prop} (ha : a = nI i) (hi : i < 10) (hb : b = nI w) (hw : w < 16) (h : ∀ r : Int64, (∀ j, j < 64 → lb r j = (64 * w + j).testBit i) → post r) : w_X4_wordOfBit σ a b post := by
  unfold w_X4_wordOfBit
  refine br_le 6 i rfl ha (by omega) (by omega) (fun q => ?_) (fun q => ?_)
  · have e : a - 6 = nI (i - 6) := by rw [ha]; exact pk_sub q
    rw [e, hb, b_getN (by omega)]
    cases ht : w.testBit (i - 6) with
    | true => exact br_1 rfl (h _ (fun j hj => by rw [m1_bit j hj, tb_hi hj, if_neg (by omega), ht]))
    | false => exact br_0 (by decide) (h _ (fun j hj => by rw [z0_bit j hj, tb_hi hj, if_neg (by omega), ht]))
  · refine rd_of i ha q (by decide) (h _ (fun j hj => ?_))
    rw [low_bit i q j hj, tb_hi hj, if_pos q]
