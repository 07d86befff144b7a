/-! THE FIRST STATE: the empty net on both sides -/
def N0 : Ne := (0, fun _ => 0, fun _ => 0, fun _ => 0, fun _ => 0, fun _ => 0)
def X0 : Nat → Sf := fun _ => (0, 0, 0, 0, fun _ => 0)
theorem no0 {c : Nat} {P : Prop} (h : c < nn N0) : P := absurd h (Nat.not_lt_zero c)
theorem WN0 : WN N0 := ⟨by decide, fun _ h => no0 h, fun _ h => no0 h, fun _ h => no0 h, fun _ h => no0 h, fun _ h => no0 h, fun _ h => no0 h, by decide⟩
theorem bt0 (i : Nat) : bt 0 i = false := by
  unfold bt
  show (0#32).getLsbD i = false
  exact BitVec.getLsbD_zero
theorem PM0 (p : Nat → Bool) : PM N0 0 p := ⟨fun _ h => no0 h, fun i _ => bt0 i⟩
theorem tN0 : ∀ n, tN (dg (fun _ => 0) (fun _ => 0)) n = 0
  | 0 => rfl
  | n + 1 => by unfold tN; rw [tN0 n, show dg (fun _ => 0) (fun _ => 0) n = 0 from rfl, Nat.zero_mul]
theorem first {post : St → Prop} (h : ∀ τ, REP Z0 τ → MSh τ X0 → post τ) : w_X12_begin Z0 post := by
  have hN : NM Z0 N0 := ⟨rfl, rfl, fun _ h => no0 h, fun _ h => no0 h, fun _ h => no0 h, fun _ h => no0 h, fun _ h => no0 h⟩
  have hF : MF Z0 N0 (fun _ => false) := fun _ h => no0 h
  refine m_begin (bd := fun _ => 0) hN WN0 hF (fun τ f hR => h τ ?_ ?_)
  · have hMU : MU τ := by
      have a : ag [] [(0, 25), (0, 26), (0, 27), (0, 28), (0, 29), (0, 38)] Z0 τ := fr_ag f (by decide)
      exact ⟨(a 0 25 (by simp)).1, (a 0 26 (by simp)).1, (a 0 27 (by simp)).1, (a 0 28 (by simp)).1, (a 0 29 (by simp)).1, (a 0 38 (by simp)).1⟩
    have hWP : WP N0 (0, fun _ => 0, fun _ => 0, fun _ => 0) := ⟨Nat.zero_le _, fun p hp => absurd hp (Nat.not_lt_zero p)⟩
    have c1 : CN Z0 N0 := ⟨rfl, rfl, fun _ h => no0 h, fun _ h => no0 h, fun _ h => no0 h, fun _ h => no0 h, fun _ h => no0 h, fun _ h => no0 h, fun k _ => PM0 _, fun _ h => no0 h, PM0 _, fun _ h => no0 h⟩
    have c6 : CRu Z0 N0 (fun _ => 0) (run0 N0 (fun _ => false)) := ⟨rfl, fun i _ => PM0 _, fun i hi => absurd hi (Nat.not_lt_zero i), by show (0 : Int64) = lN _; rw [show tN (dg (fun _ => 0) (run0 N0 (fun _ => false)).2.2.2.1) 16 = 0 from tN0 16]; rfl, PM0 _⟩
    exact (res1 (σ' := Z0) (τ := Z0) (v := 0) (sl := fun _ => false) (P := (0, fun _ => 0, fun _ => 0, fun _ => 0)) WN0 ⟨fun _ _ => Nat.zero_le _, fun _ _ => rfl⟩ hWP c1 (PM0 _) (PM0 _) (fun _ _ => rfl) ⟨rfl, fun p hp => absurd hp (Nat.not_lt_zero p)⟩ c6 ⟨rfl, rfl, rfl, rfl⟩ (NM_ag (fr_ag f (by decide)) hN) (MF_ag (fr_ag f (by decide)) hF) (MS_ag (fr_ag f (by decide)) (fun _ h => no0 h)) (MB_ag (fr_ag f (by decide)) (fun _ _ => rfl)) (MP_ag (fr_ag f (by decide)) ⟨rfl, fun p hp => absurd hp (Nat.not_lt_zero p)⟩) hR hMU (fr_ag f (by decide))).2.1
  · refine MSh_ag (fr_ag f (by decide)) ?_
    intro d _
    exact ⟨⟨Nat.zero_le _, Or.inl rfl⟩, rfl, rfl, fun j hj => absurd hj (Nat.not_lt_zero j), fun z => absurd (show (0 : Nat) = 1 from z) (by decide)⟩
theorem SHL0 (cy : Nat → ClassId) : SHL cy (fun _ => none, [], fun _ => .inr (0, []), fun _ => 0) X0 := ⟨fun d _ => ⟨⟨Nat.zero_le _, Or.inl rfl⟩, fun _ => rfl, fun z => absurd (show (0 : Nat) = 1 from z) (by decide), fun z => absurd (show 3 ≤ 0 from z) (by decide)⟩, fun d e _ _ _ z _ => absurd (show 3 ≤ 0 from z) (by decide)⟩
