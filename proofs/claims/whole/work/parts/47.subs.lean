/-! SUBSETS OF A MASK, gone through downwards -/
def ofb (w : Nat → Bool) : Nat → Nat
  | 0 => 0
  | n + 1 => ofb w n + if w n then 2 ^ n else 0
theorem ofb_lt (w : Nat → Bool) : ∀ n, ofb w n < 2 ^ n
  | 0 => Nat.one_pos
  | n + 1 => by
    have := ofb_lt w n
    show ofb w n + (if w n then 2 ^ n else 0) < 2 ^ (n + 1)
    rw [Nat.pow_succ]
    cases w n <;> simp <;> omega
theorem ofb_bit (w : Nat → Bool) : ∀ n i, (ofb w n).testBit i = (decide (i < n) && w i)
  | 0, i => by simp [ofb]
  | n + 1, i => by
    have hl := ofb_lt w n
    show (ofb w n + (if w n then 2 ^ n else 0)).testBit i = _
    by_cases h : w n = true
    · rw [if_pos h, Nat.add_comm]
      by_cases e : i = n
      · subst e
        rw [Nat.testBit_two_pow_add_eq, ofb_bit w i i]
        simp [h]
      · by_cases q : i < n
        · rw [Nat.testBit_two_pow_add_gt q, ofb_bit w n i]
          simp [q, show i < n + 1 by omega]
        · rw [Nat.testBit_lt_two_pow]
          · simp [show ¬ i < n + 1 by omega]
          · have : 2 ^ (n + 1) ≤ 2 ^ i := Nat.pow_le_pow_right (by decide) (by omega)
            rw [Nat.pow_succ] at this
            omega
    · rw [if_neg h, Nat.add_zero, ofb_bit w n i]
      by_cases e : i = n
      · subst e; simp [h]
      · by_cases q : i < n
        · simp [q, show i < n + 1 by omega]
        · simp [q, show ¬ i < n + 1 by omega]
/-- s is a part of o -/
def sbs (s o : Nat) : Prop := ∀ i, s.testBit i = true → o.testBit i = true
theorem sbs_half {s o : Nat} (h : sbs s o) : sbs (s / 2) (o / 2) := fun i hi => by
  rw [Nat.testBit_div_two] at hi ⊢
  exact h _ hi
theorem sbs_low {s o : Nat} (h : sbs s o) : s % 2 ≤ o % 2 := by
  have h0 := h 0
  rw [Nat.testBit_zero, Nat.testBit_zero] at h0
  simp only [decide_eq_true_eq] at h0
  omega
theorem sbs_and (a o : Nat) : sbs (a &&& o) o := fun i hi => by
  rw [Nat.testBit_and, Bool.and_eq_true] at hi
  exact hi.2
theorem and_half (a b : Nat) : (a &&& b) / 2 = (a / 2) &&& (b / 2) := by
  apply Nat.eq_of_testBit_eq
  intro i
  rw [Nat.testBit_div_two, Nat.testBit_and, Nat.testBit_and, Nat.testBit_div_two, Nat.testBit_div_two]
theorem and_low (a b : Nat) : (a &&& b) % 2 = if a % 2 = 1 ∧ b % 2 = 1 then 1 else 0 := by
  have h : (a &&& b).testBit 0 = (a.testBit 0 && b.testBit 0) := Nat.testBit_and _ _ _
  rw [Nat.testBit_zero, Nat.testBit_zero, Nat.testBit_zero] at h
  have h' := Bool.eq_iff_iff.mp h
  simp only [decide_eq_true_eq, Bool.and_eq_true] at h'
  by_cases g : a % 2 = 1 ∧ b % 2 = 1
  · rw [if_pos g]; exact h'.mpr g
  · rw [if_neg g]
    have : ¬ (a &&& b) % 2 = 1 := fun q => g (h'.mp q)
    omega
/-- the next part of o below w -/
theorem sub_le : ∀ (w o s : Nat), sbs w o → sbs s o → s < w → s ≤ (w - 1) &&& o := by
  intro w
  induction w using Nat.strongRecOn with
  | _ w ih =>
    intro o s hw hs hl
    have l1 := sbs_low hw
    have l2 := sbs_low hs
    have e1 := and_half (w - 1) o
    have e2 := and_low (w - 1) o
    rcases (show w % 2 = 0 ∨ w % 2 = 1 by omega) with h | h
    · have hp : (w - 1) / 2 = w / 2 - 1 := by omega
      have hp2 : (w - 1) % 2 = 1 := by omega
      have := ih (w / 2) (by omega) (o / 2) (s / 2) (sbs_half hw) (sbs_half hs) (by omega)
      rw [hp] at e1
      rcases (show o % 2 = 0 ∨ o % 2 = 1 by omega) with g | g
      · rw [if_neg (by omega)] at e2; omega
      · rw [if_pos ⟨hp2, g⟩] at e2; omega
    · have hp : (w - 1) / 2 = w / 2 := by omega
      rw [hp] at e1
      have e3 : (w / 2) &&& (o / 2) = w / 2 := by
        apply Nat.eq_of_testBit_eq
        intro i
        rw [Nat.testBit_and]
        cases q : (w / 2).testBit i with
        | false => rfl
        | true => rw [sbs_half hw i q]; rfl
      omega
theorem bt_nI {n : Nat} (i : Nat) (hi : i < 32) : bt (nI n) i = n.testBit i := by
  unfold bt nI
  show (BitVec.ofNat 32 n).getLsbD i = _
  rw [BitVec.getLsbD_ofNat]
  simp [hi]
/-- an int that isn't negative, as a number -/
theorem nn_of {x : Int32} (h : bt x 31 = false) : ∃ n : Nat, n < 2 ^ 31 ∧ x = nI n := by
  refine nI_of (fun q => ?_)
  have h1 : x.toBitVec.msb = false := by rw [BitVec.msb_eq_getLsbD_last]; exact h
  have h2 : x.toBitVec.slt 0#32 = true := by
    have := Int32.lt_iff_toBitVec_slt.mp q
    exact this
  rw [BitVec.slt_zero_iff_msb_cond] at h2
  rw [h1] at h2
  exact absurd h2 (by decide)
theorem nI_small {n k : Nat} (hn : n < 2 ^ 31) (h : ∀ i, i < 32 → k ≤ i → bt (nI n) i = false) : n < 2 ^ k := by
  apply Nat.lt_pow_two_of_testBit
  intro i hi
  rcases Nat.lt_or_ge i 32 with q | q
  · rw [← bt_nI i q]; exact h i q hi
  · exact Nat.testBit_lt_two_pow (Nat.lt_of_lt_of_le hn (Nat.pow_le_pow_right (by decide) (by omega)))
/-! A MOMENT -/
def tik (N : Ne) (set c : Nat) : Bool := decide (c < nn N) && isB N c && set.testBit (nc N c)
/-- which of the inputs that tick -/
def inI (N : Ne) (set : Nat) (c : Nat) : Nat := fb_ct (fun c => decide (nk N c = 5) && tik N set c) c
/-- the values that the bits get plainly -/
def pln (N : Ne) (v : Nat → Bool) (set inp : Nat) : Nat → Bool := fun c => if tik N set c then (if nk N c = 6 then EV N v (nx N c) else inp.testBit (inI N set c)) else v c
def chg (N : Ne) (v : Nat → Bool) (set inp : Nat) : Nat → Bool := fun c => pln N v set inp c != v c
/-- the bits that change, of other clocks than that of c -/
def oth (N : Ne) (v : Nat → Bool) (set inp c : Nat) : Nat → Bool := fun b => chg N v set inp b && decide (nc N b ≠ nc N c)
def mx (v p w : Nat → Bool) : Nat → Bool := fun b => if w b then p b else v b
/-- the source has both values -/
def Bth (N : Ne) (v p o : Nat → Bool) (r : Nat) : Prop := ∃ w : Nat → Bool, (∀ b, w b = true → o b = true) ∧ EV N (mx v p w) r ≠ EV N v r
noncomputable def eit (N : Ne) (v : Nat → Bool) (set inp : Nat) : Nat → Bool := fun c => decide (nk N c = 6) && tik N set c && @decide (Bth N v (pln N v set inp) (oth N v set inp c) (nx N c)) (Classical.propDecidable _)
/-- the values behind the moment -/
noncomputable def bhd (N : Ne) (v : Nat → Bool) (set inp ots : Nat) : Nat → Bool := fun c => pln N v set inp c ^^ (eit N v set inp c && ots.testBit (fb_ct (eit N v set inp) c))
/-- an assignment of the bits alone -/
def pas (N : Ne) (v : Nat → Bool) : Prop := ∀ c, v c = true → c < nn N ∧ 4 < nk N c
theorem chg_tik {N : Ne} {v : Nat → Bool} {set inp c : Nat} (h : chg N v set inp c = true) : tik N set c = true := by
  cases q : tik N set c with
  | true => rfl
  | false => simp [chg, pln, q] at h
theorem tik_lt {N : Ne} {set c : Nat} (h : tik N set c = true) : c < nn N ∧ 4 < nk N c ∧ set.testBit (nc N c) = true := by
  simp only [tik, isB, Bool.and_eq_true, decide_eq_true_eq] at h
  exact ⟨h.1.1, h.1.2, h.2⟩
theorem m_mixed {σ : St} {N : Ne} {a : Int32} {w v p : Nat → Bool} {post : Int32 → Prop} (hN : NM σ N) (hW : WN N) (hv : ∀ c, c < nn N → 4 < nk N c → bt (σ.1 0 21) c = v c) (hp : ∀ c, c < nn N → 4 < nk N c → bt (σ.1 0 22) c = p c) (hw : ∀ c, c < nn N → 4 < nk N c → bt a c = w c)
    (h : ∀ r : Int32, (∀ c, c < nn N → bt r c = EV N (mx v p w) c) → post r) : w_X12_mixed σ a post := by
  unfold w_X12_mixed
  refine m_settle hN hW (fun r hr => h r (fun c hc => ?_))
  rw [hr c]
  refine EV_cong hW (fun i hi g => ?_) c hc
  have h24 := hW.1
  rw [b_or, b_and, b_and, b_not _ (by omega), hv i hi g, hp i hi g, hw i hi g]
  unfold mx
  cases w i <;> simp
