/-! THE ABSTRACT NET: how many cells; kind, clock, x (or source), y, z of each -/
abbrev Ne : Type := Nat × (Nat → Nat) × (Nat → Nat) × (Nat → Nat) × (Nat → Nat) × (Nat → Nat)
abbrev nn (N : Ne) : Nat := N.1
abbrev nk (N : Ne) : Nat → Nat := N.2.1
abbrev nc (N : Ne) : Nat → Nat := N.2.2.1
abbrev nx (N : Ne) : Nat → Nat := N.2.2.2.1
abbrev ny (N : Ne) : Nat → Nat := N.2.2.2.2.1
abbrev nz (N : Ne) : Nat → Nat := N.2.2.2.2.2
/-- a bit (input or keeper) -/
def isB (N : Ne) (c : Nat) : Bool := decide (4 < nk N c)
/-- what a gate may look at: any bit, gates before it -/
def rf (N : Ne) (c r : Nat) : Prop := r < nn N ∧ (nk N r ≤ 4 → r < c)
def WN (N : Ne) : Prop := nn N ≤ 24 ∧ (∀ c, c < nn N → nk N c ≤ 6) ∧ (∀ c, c < nn N → 4 < nk N c → nc N c < 4) ∧ (∀ c, c < nn N → nk N c = 6 → nx N c < nn N) ∧ (∀ c, c < nn N → nk N c ≤ 4 → rf N c (nx N c)) ∧ (∀ c, c < nn N → nk N c ≤ 4 → nk N c ≠ 3 → rf N c (ny N c)) ∧ (∀ c, c < nn N → nk N c = 4 → rf N c (nz N c)) ∧ fb_ct (isB N) (nn N) ≤ 10
/-- a gate's value -/
def gv (k : Nat) (p q r : Bool) : Bool := if k = 0 then p && q else if k = 1 then p || q else if k = 2 then p ^^ q else if k = 3 then !p else if p then q else r
/-- the values behind the gates below c -/
def ev (N : Ne) (v : Nat → Bool) : Nat → Nat → Bool
  | 0 => v
  | c + 1 => fun i => if i = c ∧ nk N c ≤ 4 then gv (nk N c) (ev N v c (nx N c)) (ev N v c (ny N c)) (ev N v c (nz N c)) else ev N v c i
/-- all values out of the bits' -/
def EV (N : Ne) (v : Nat → Bool) : Nat → Bool := ev N v (nn N)
theorem ev_hi (N : Ne) (v : Nat → Bool) : ∀ (c i : Nat), c ≤ i → ev N v c i = v i
  | 0, _, _ => rfl
  | c + 1, i, h => by
    show (if i = c ∧ nk N c ≤ 4 then _ else ev N v c i) = _
    rw [if_neg (by omega), ev_hi N v c i (by omega)]
theorem ev_bit (N : Ne) (v : Nat → Bool) {i : Nat} (hi : 4 < nk N i) : ∀ c : Nat, ev N v c i = v i
  | 0 => rfl
  | c + 1 => by
    show (if i = c ∧ nk N c ≤ 4 then _ else ev N v c i) = _
    rw [if_neg (by rintro ⟨rfl, q⟩; omega), ev_bit N v hi c]
theorem ev_keep (N : Ne) (v : Nat → Bool) {i c : Nat} (h : i < c) : ∀ d : Nat, ev N v (c + d) i = ev N v c i
  | 0 => rfl
  | d + 1 => by
    show (if i = c + d ∧ nk N (c + d) ≤ 4 then _ else ev N v (c + d) i) = _
    rw [if_neg (by omega), ev_keep N v h d]
theorem ev_done (N : Ne) (v : Nat → Bool) {i c n : Nat} (h : i < c) (hc : c ≤ n) : ev N v n i = ev N v c i := by
  have := ev_keep N v h (n - c)
  rwa [show c + (n - c) = n by omega] at this
/-- what a gate looks at is as it will be -/
theorem ev_rf {N : Ne} (v : Nat → Bool) {c r : Nat} (hr : rf N c r) (hc : c ≤ nn N) : ev N v c r = EV N v r := by
  rcases Nat.lt_or_ge 4 (nk N r) with h | h
  · unfold EV; rw [ev_bit N v h, ev_bit N v h]
  · exact (ev_done N v (hr.2 h) hc).symm
theorem EV_bit (N : Ne) (v : Nat → Bool) {i : Nat} (hi : 4 < nk N i) : EV N v i = v i := ev_bit N v hi _
theorem EV_hi (N : Ne) (v : Nat → Bool) {i : Nat} (hi : nn N ≤ i) : EV N v i = v i := ev_hi N v _ _ hi
/-- a gate's value out of the final ones -/
theorem EV_gate {N : Ne} (hW : WN N) (v : Nat → Bool) {c : Nat} (hc : c < nn N) (hk : nk N c ≤ 4) : EV N v c = gv (nk N c) (EV N v (nx N c)) (EV N v (ny N c)) (EV N v (nz N c)) := by
  have h1 : EV N v c = ev N v (c + 1) c := ev_done N v (Nat.lt_succ_self c) (by omega)
  rw [h1]
  show (if c = c ∧ nk N c ≤ 4 then _ else ev N v c c) = _
  rw [if_pos ⟨rfl, hk⟩, ev_rf v (hW.2.2.2.2.1 c hc hk) (by omega)]
  by_cases h3 : nk N c = 3
  · simp [gv, h3]
  · rw [ev_rf v (hW.2.2.2.2.2.1 c hc hk h3) (by omega)]
    by_cases h4 : nk N c = 4
    · rw [ev_rf v (hW.2.2.2.2.2.2.1 c hc h4) (by omega)]
    · have h5 : nk N c = 0 ∨ nk N c = 1 ∨ nk N c = 2 := by omega
      rcases h5 with h | h | h <;> simp [gv, h]
/-- the bits alone say all values -/
theorem EV_cong {N : Ne} (hW : WN N) {v w : Nat → Bool} (h : ∀ c, c < nn N → 4 < nk N c → v c = w c) : ∀ c, c < nn N → EV N v c = EV N w c := by
  intro c
  induction c using Nat.strongRecOn with
  | _ c ih =>
    intro hc
    rcases Nat.lt_or_ge 4 (nk N c) with hb | hg
    · rw [EV_bit N v hb, EV_bit N w hb, h c hc hb]
    · have key : ∀ r, rf N c r → EV N v r = EV N w r := by
        intro r hr
        rcases Nat.lt_or_ge 4 (nk N r) with q | q
        · rw [EV_bit N v q, EV_bit N w q, h r hr.1 q]
        · exact ih r (hr.2 q) hr.1
      rw [EV_gate hW v hc hg, EV_gate hW w hc hg, key _ (hW.2.2.2.2.1 c hc hg)]
      by_cases h3 : nk N c = 3
      · simp [gv, h3]
      · rw [key _ (hW.2.2.2.2.2.1 c hc hg h3)]
        by_cases h4 : nk N c = 4
        · rw [key _ (hW.2.2.2.2.2.2.1 c hc h4)]
        · have h5 : nk N c = 0 ∨ nk N c = 1 ∨ nk N c = 2 := by omega
          rcases h5 with q | q | q <;> simp [gv, q]
/-! THE REFERENCE'S NET -/
def NM (σ : St) (N : Ne) : Prop := σ.1 0 1 = nI (nn N) ∧ σ.1 0 2 = nI (fb_ct (isB N) (nn N)) ∧ (∀ c, c < nn N → σ.1 1 c = nI (nk N c)) ∧ (∀ c, c < nn N → σ.1 2 c = if 4 < nk N c then nI (nc N c) else -2) ∧ (∀ c, c < nn N → σ.1 4 c = if nk N c = 5 then nI c else nI (nx N c)) ∧ (∀ c, c < nn N → σ.1 5 c = if nk N c ≤ 4 ∧ nk N c ≠ 3 then nI (ny N c) else -2) ∧ (∀ c, c < nn N → σ.1 6 c = if nk N c = 4 then nI (nz N c) else -2)
theorem w_bitOf_of {v x : Int32} {post : Int32 → Prop} (j : Nat) (hx : x = nI j) (hj : j < 32) (h : post (bI (bt v j))) : w_X12_bitOf v x post := by
  subst hx
  unfold w_X12_bitOf
  rw [b_get v hj]
  exact h
theorem bI_and (a b : Bool) : bI a &&& bI b = bI (a && b) := by cases a <;> cases b <;> decide
theorem bI_or (a b : Bool) : bI a ||| bI b = bI (a || b) := by cases a <;> cases b <;> decide
theorem bI_xor (a b : Bool) : bI a ^^^ bI b = bI (a ^^ b) := by cases a <;> cases b <;> decide
theorem bI_not (a : Bool) : (1 : Int32) - bI a = bI (!a) := by cases a <;> decide
theorem bI_one (a : Bool) : bI a = 1 ↔ a = true := by cases a <;> decide
theorem bI_zero (a : Bool) : bI a = 0 ↔ a = false := by cases a <;> decide
theorem bI_inj (a b : Bool) : bI a = bI b ↔ a = b := by cases a <;> cases b <;> decide
theorem cl_nI {n : Nat} (h : n < 2 ^ 31) : (nI n).toNatClampNeg = n := nI_clamp h
set_option maxHeartbeats 1000000 in
theorem m_settle {σ : St} {N : Ne} {v : Int32} {post : Int32 → Prop} (hN : NM σ N) (hW : WN N) (h : ∀ r : Int32, (∀ i, bt r i = EV N (bt v) i) → post r) : w_X12_settle σ v post := by
  obtain ⟨hn, -, hk, -, hx, hy, hz⟩ := hN
  have hn24 := hW.1
  unfold w_X12_settle
  refine jn_at ?_
  refine lpE2_inv (I := fun y3 y4 => ∃ c, c ≤ nn N ∧ y4 = nI c ∧ ∀ i, bt y3 i = ev N (bt v) c i) (μ := fun _ y4 => nn N - y4.toNatClampNeg) ?_ v 0 ⟨0, by omega, rfl, fun i => rfl⟩
  rintro rec y3 y4 ⟨c, hc, rfl, hb⟩ hrec
  have next : ∀ y : Int32, c < nn N → (∀ i, bt y i = ev N (bt v) (c + 1) i) → rec y (nI c + 1) := by
    intro y hlt hy
    refine hrec y _ ⟨c + 1, hlt, nI_1 c, hy⟩ ?_
    rw [nI_1, cl_nI (by omega), cl_nI (by omega)]
    omega
  unfold w_X12_settle_L4
  refine br_le (nn N) c hn rfl (by omega) (by omega) (fun q => ?_) (fun q => ?_)
  · have e : c = nn N := by omega
    subst e
    exact h y3 hb
  have hk6 := hW.2.1 c q
  refine rd_of c rfl (by omega) (by decide) ?_
  rw [hk c q]
  refine br_le (nk N c) 4 rfl rfl (by omega) (by omega) (fun g => ?_) (fun g => ?_)
  rotate_left
  · refine nm_of (next y3 q (fun i => ?_))
    rw [hb i]
    show _ = if i = c ∧ nk N c ≤ 4 then _ else ev N (bt v) c i
    rw [if_neg (by omega)]
  have rx := (hW.2.2.2.2.1 c q g).1
  refine rd_of c rfl (by omega) (by decide) ?_
  rw [hx c q, if_neg (by omega)]
  refine w_bitOf_of (nx N c) rfl (by omega) ?_
  refine rd_of c rfl (by omega) (by decide) ?_
  rw [hk c q]
  refine jn_1 (fun y14 => ∃ w : Bool, y14 = bI w ∧ (nk N c ≠ 3 → w = bt y3 (ny N c))) (fun K hK => ?_) ?_
  · refine br_eq (nk N c) 3 rfl rfl (by omega) (by omega) (fun e => hK _ ⟨false, rfl, fun n => absurd e n⟩) (fun e => ?_)
    have ry := (hW.2.2.2.2.2.1 c q g e).1
    refine rd_of c rfl (by omega) (by decide) ?_
    rw [hy c q, if_pos ⟨g, e⟩]
    refine w_bitOf_of (ny N c) rfl (by omega) ?_
    exact hK _ ⟨_, rfl, fun _ => rfl⟩
  rintro y14 ⟨w, rfl, hw⟩
  refine rd_of c rfl (by omega) (by decide) ?_
  rw [hk c q]
  refine jn_1 (fun y17 => y17 = bI (gv (nk N c) (bt y3 (nx N c)) (bt y3 (ny N c)) (bt y3 (nz N c)))) (fun K hK => ?_) ?_
  · refine br_eq (nk N c) 0 rfl rfl (by omega) (by omega) (fun e => ?_) (fun e0 => ?_)
    · refine nm_of (hK _ ?_)
      rw [bI_and, hw (by omega), e]; rfl
    refine br_eq (nk N c) 1 rfl rfl (by omega) (by omega) (fun e => ?_) (fun e1 => ?_)
    · refine nm_of (hK _ ?_)
      rw [bI_or, hw (by omega), e]; rfl
    refine br_eq (nk N c) 2 rfl rfl (by omega) (by omega) (fun e => ?_) (fun e2 => ?_)
    · refine nm_of (hK _ ?_)
      rw [bI_xor, hw (by omega), e]; rfl
    refine br_eq (nk N c) 3 rfl rfl (by omega) (by omega) (fun e => ?_) (fun e3 => ?_)
    · refine nm_of (hK _ ?_)
      rw [bI_not, e]; rfl
    have e4 : nk N c = 4 := by omega
    refine jn_at ?_
    refine br_2 (fun b1 => hK _ ?_) (fun b1 => ?_)
    · have b2 := (bI_one _).mp b1
      rw [hw (by omega), e4]
      simp [gv, b2]
    · have b2 : bt y3 (nx N c) = false := by
        cases hq : bt y3 (nx N c) with
        | false => rfl
        | true => exact absurd ((bI_one _).mpr hq) b1
      have rz := (hW.2.2.2.2.2.2.1 c q e4).1
      refine rd_of c rfl (by omega) (by decide) ?_
      rw [hz c q, if_pos e4]
      refine w_bitOf_of (nz N c) rfl (by omega) (hK _ ?_)
      rw [e4]
      simp [gv, b2]
  rintro y17 rfl
  refine nm_of (nm_of (next _ q (fun i => ?_)))
  rw [b_set y3 (by omega)]
  show _ = if i = c ∧ nk N c ≤ 4 then _ else ev N (bt v) c i
  by_cases ei : i = c
  · rw [if_pos ei, if_pos ⟨ei, g⟩, hb, hb, hb]
  · rw [if_neg ei, if_neg (fun z => ei z.1), hb]
