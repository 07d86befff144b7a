/-! branches, joins and loops of the wp forms -/
theorem brT {c A B : Prop} (h : br c A B) (hc : c) : A := h.1 hc
theorem brF {c A B : Prop} (h : br c A B) (hc : ¬ c) : B := h.2 hc
def bl (v : Int32) (A : Prop) : Prop := narrow .boolean (.int v) = .int v ∧ A
theorem jn_use {α : Type} {J : α} {body : α → Prop} (h : jn J body) {G : Prop} (R : α → Prop) (hJ : R J) (k : ∀ K, R K → body K → G) : G := k J hJ h
def lpA1 {A1 : Type} (step : (A1 → Prop) → A1 → Prop) : Nat → A1 → Prop
  | 0 => fun _ => False
  | k + 1 => fun a1 => step (lpA1 step k) a1
def lpE1 {A1 : Type} (step : (A1 → Prop) → A1 → Prop) (a1 : A1) : Prop := ∃ k, lpA1 step k a1
theorem lpE1_use {A1 : Type} {step : (A1 → Prop) → A1 → Prop} {a1 : A1} (h : lpE1 step a1) (P : A1 → Prop) (hs : ∀ rec : A1 → Prop, (∀ (b1 : A1), rec b1 → P b1) → ∀ (b1 : A1), step rec b1 → P b1) : P a1 := by
  obtain ⟨k, h⟩ := h
  revert a1
  induction k with
  | zero => intro a1 h; exact h.elim
  | succ k ih => intro a1 h; exact hs (lpA1 step k) (fun b1 hb => ih hb) a1 h
theorem lpE1_inv {A1 : Type} {step : (A1 → Prop) → A1 → Prop} (I : A1 → Prop) (μ : A1 → Nat) (hs : ∀ rec : A1 → Prop, ∀ (a1 : A1), I a1 → (∀ (b1 : A1), I b1 → μ b1 < μ a1 → rec b1) → step rec a1) (a1 : A1) (h : I a1) : lpE1 step a1 := by
  have key : ∀ k (a1 : A1), I a1 → μ a1 < k → lpA1 step k a1 := by
    intro k
    induction k with
    | zero => intro a1 _ h; exact absurd h (Nat.not_lt_zero _)
    | succ k ih => intro a1 h hk; exact hs _ a1 h (fun b1 hb hl => ih b1 hb (Nat.lt_of_lt_of_le hl (Nat.le_of_lt_succ hk)))
  exact ⟨_, key _ a1 h (Nat.lt_succ_self _)⟩
def lpA2 {A1 A2 : Type} (step : (A1 → A2 → Prop) → A1 → A2 → Prop) : Nat → A1 → A2 → Prop
  | 0 => fun _ _ => False
  | k + 1 => fun a1 a2 => step (lpA2 step k) a1 a2
def lpE2 {A1 A2 : Type} (step : (A1 → A2 → Prop) → A1 → A2 → Prop) (a1 : A1) (a2 : A2) : Prop := ∃ k, lpA2 step k a1 a2
theorem lpE2_use {A1 A2 : Type} {step : (A1 → A2 → Prop) → A1 → A2 → Prop} {a1 : A1} {a2 : A2} (h : lpE2 step a1 a2) (P : A1 → A2 → Prop) (hs : ∀ rec : A1 → A2 → Prop, (∀ (b1 : A1) (b2 : A2), rec b1 b2 → P b1 b2) → ∀ (b1 : A1) (b2 : A2), step rec b1 b2 → P b1 b2) : P a1 a2 := by
  obtain ⟨k, h⟩ := h
  revert a1 a2
  induction k with
  | zero => intro a1 a2 h; exact h.elim
  | succ k ih => intro a1 a2 h; exact hs (lpA2 step k) (fun b1 b2 hb => ih hb) a1 a2 h
theorem lpE2_inv {A1 A2 : Type} {step : (A1 → A2 → Prop) → A1 → A2 → Prop} (I : A1 → A2 → Prop) (μ : A1 → A2 → Nat) (hs : ∀ rec : A1 → A2 → Prop, ∀ (a1 : A1) (a2 : A2), I a1 a2 → (∀ (b1 : A1) (b2 : A2), I b1 b2 → μ b1 b2 < μ a1 a2 → rec b1 b2) → step rec a1 a2) (a1 : A1) (a2 : A2) (h : I a1 a2) : lpE2 step a1 a2 := by
  have key : ∀ k (a1 : A1) (a2 : A2), I a1 a2 → μ a1 a2 < k → lpA2 step k a1 a2 := by
    intro k
    induction k with
    | zero => intro a1 a2 _ h; exact absurd h (Nat.not_lt_zero _)
    | succ k ih => intro a1 a2 h hk; exact hs _ a1 a2 h (fun b1 b2 hb hl => ih b1 b2 hb (Nat.lt_of_lt_of_le hl (Nat.le_of_lt_succ hk)))
  exact ⟨_, key _ a1 a2 h (Nat.lt_succ_self _)⟩
def lpA3 {A1 A2 A3 : Type} (step : (A1 → A2 → A3 → Prop) → A1 → A2 → A3 → Prop) : Nat → A1 → A2 → A3 → Prop
  | 0 => fun _ _ _ => False
  | k + 1 => fun a1 a2 a3 => step (lpA3 step k) a1 a2 a3
def lpE3 {A1 A2 A3 : Type} (step : (A1 → A2 → A3 → Prop) → A1 → A2 → A3 → Prop) (a1 : A1) (a2 : A2) (a3 : A3) : Prop := ∃ k, lpA3 step k a1 a2 a3
theorem lpE3_use {A1 A2 A3 : Type} {step : (A1 → A2 → A3 → Prop) → A1 → A2 → A3 → Prop} {a1 : A1} {a2 : A2} {a3 : A3} (h : lpE3 step a1 a2 a3) (P : A1 → A2 → A3 → Prop) (hs : ∀ rec : A1 → A2 → A3 → Prop, (∀ (b1 : A1) (b2 : A2) (b3 : A3), rec b1 b2 b3 → P b1 b2 b3) → ∀ (b1 : A1) (b2 : A2) (b3 : A3), step rec b1 b2 b3 → P b1 b2 b3) : P a1 a2 a3 := by
  obtain ⟨k, h⟩ := h
  revert a1 a2 a3
  induction k with
  | zero => intro a1 a2 a3 h; exact h.elim
  | succ k ih => intro a1 a2 a3 h; exact hs (lpA3 step k) (fun b1 b2 b3 hb => ih hb) a1 a2 a3 h
theorem lpE3_inv {A1 A2 A3 : Type} {step : (A1 → A2 → A3 → Prop) → A1 → A2 → A3 → Prop} (I : A1 → A2 → A3 → Prop) (μ : A1 → A2 → A3 → Nat) (hs : ∀ rec : A1 → A2 → A3 → Prop, ∀ (a1 : A1) (a2 : A2) (a3 : A3), I a1 a2 a3 → (∀ (b1 : A1) (b2 : A2) (b3 : A3), I b1 b2 b3 → μ b1 b2 b3 < μ a1 a2 a3 → rec b1 b2 b3) → step rec a1 a2 a3) (a1 : A1) (a2 : A2) (a3 : A3) (h : I a1 a2 a3) : lpE3 step a1 a2 a3 := by
  have key : ∀ k (a1 : A1) (a2 : A2) (a3 : A3), I a1 a2 a3 → μ a1 a2 a3 < k → lpA3 step k a1 a2 a3 := by
    intro k
    induction k with
    | zero => intro a1 a2 a3 _ h; exact absurd h (Nat.not_lt_zero _)
    | succ k ih => intro a1 a2 a3 h hk; exact hs _ a1 a2 a3 h (fun b1 b2 b3 hb hl => ih b1 b2 b3 hb (Nat.lt_of_lt_of_le hl (Nat.le_of_lt_succ hk)))
  exact ⟨_, key _ a1 a2 a3 h (Nat.lt_succ_self _)⟩
def lpA4 {A1 A2 A3 A4 : Type} (step : (A1 → A2 → A3 → A4 → Prop) → A1 → A2 → A3 → A4 → Prop) : Nat → A1 → A2 → A3 → A4 → Prop
  | 0 => fun _ _ _ _ => False
  | k + 1 => fun a1 a2 a3 a4 => step (lpA4 step k) a1 a2 a3 a4
def lpE4 {A1 A2 A3 A4 : Type} (step : (A1 → A2 → A3 → A4 → Prop) → A1 → A2 → A3 → A4 → Prop) (a1 : A1) (a2 : A2) (a3 : A3) (a4 : A4) : Prop := ∃ k, lpA4 step k a1 a2 a3 a4
theorem lpE4_use {A1 A2 A3 A4 : Type} {step : (A1 → A2 → A3 → A4 → Prop) → A1 → A2 → A3 → A4 → Prop} {a1 : A1} {a2 : A2} {a3 : A3} {a4 : A4} (h : lpE4 step a1 a2 a3 a4) (P : A1 → A2 → A3 → A4 → Prop) (hs : ∀ rec : A1 → A2 → A3 → A4 → Prop, (∀ (b1 : A1) (b2 : A2) (b3 : A3) (b4 : A4), rec b1 b2 b3 b4 → P b1 b2 b3 b4) → ∀ (b1 : A1) (b2 : A2) (b3 : A3) (b4 : A4), step rec b1 b2 b3 b4 → P b1 b2 b3 b4) : P a1 a2 a3 a4 := by
  obtain ⟨k, h⟩ := h
  revert a1 a2 a3 a4
  induction k with
  | zero => intro a1 a2 a3 a4 h; exact h.elim
  | succ k ih => intro a1 a2 a3 a4 h; exact hs (lpA4 step k) (fun b1 b2 b3 b4 hb => ih hb) a1 a2 a3 a4 h
theorem lpE4_inv {A1 A2 A3 A4 : Type} {step : (A1 → A2 → A3 → A4 → Prop) → A1 → A2 → A3 → A4 → Prop} (I : A1 → A2 → A3 → A4 → Prop) (μ : A1 → A2 → A3 → A4 → Nat) (hs : ∀ rec : A1 → A2 → A3 → A4 → Prop, ∀ (a1 : A1) (a2 : A2) (a3 : A3) (a4 : A4), I a1 a2 a3 a4 → (∀ (b1 : A1) (b2 : A2) (b3 : A3) (b4 : A4), I b1 b2 b3 b4 → μ b1 b2 b3 b4 < μ a1 a2 a3 a4 → rec b1 b2 b3 b4) → step rec a1 a2 a3 a4) (a1 : A1) (a2 : A2) (a3 : A3) (a4 : A4) (h : I a1 a2 a3 a4) : lpE4 step a1 a2 a3 a4 := by
  have key : ∀ k (a1 : A1) (a2 : A2) (a3 : A3) (a4 : A4), I a1 a2 a3 a4 → μ a1 a2 a3 a4 < k → lpA4 step k a1 a2 a3 a4 := by
    intro k
    induction k with
    | zero => intro a1 a2 a3 a4 _ h; exact absurd h (Nat.not_lt_zero _)
    | succ k ih => intro a1 a2 a3 a4 h hk; exact hs _ a1 a2 a3 a4 h (fun b1 b2 b3 b4 hb hl => ih b1 b2 b3 b4 hb (Nat.lt_of_lt_of_le hl (Nat.le_of_lt_succ hk)))
  exact ⟨_, key _ a1 a2 a3 a4 h (Nat.lt_succ_self _)⟩
def lpA5 {A1 A2 A3 A4 A5 : Type} (step : (A1 → A2 → A3 → A4 → A5 → Prop) → A1 → A2 → A3 → A4 → A5 → Prop) : Nat → A1 → A2 → A3 → A4 → A5 → Prop
  | 0 => fun _ _ _ _ _ => False
  | k + 1 => fun a1 a2 a3 a4 a5 => step (lpA5 step k) a1 a2 a3 a4 a5
def lpE5 {A1 A2 A3 A4 A5 : Type} (step : (A1 → A2 → A3 → A4 → A5 → Prop) → A1 → A2 → A3 → A4 → A5 → Prop) (a1 : A1) (a2 : A2) (a3 : A3) (a4 : A4) (a5 : A5) : Prop := ∃ k, lpA5 step k a1 a2 a3 a4 a5
theorem lpE5_use {A1 A2 A3 A4 A5 : Type} {step : (A1 → A2 → A3 → A4 → A5 → Prop) → A1 → A2 → A3 → A4 → A5 → Prop} {a1 : A1} {a2 : A2} {a3 : A3} {a4 : A4} {a5 : A5} (h : lpE5 step a1 a2 a3 a4 a5) (P : A1 → A2 → A3 → A4 → A5 → Prop) (hs : ∀ rec : A1 → A2 → A3 → A4 → A5 → Prop, (∀ (b1 : A1) (b2 : A2) (b3 : A3) (b4 : A4) (b5 : A5), rec b1 b2 b3 b4 b5 → P b1 b2 b3 b4 b5) → ∀ (b1 : A1) (b2 : A2) (b3 : A3) (b4 : A4) (b5 : A5), step rec b1 b2 b3 b4 b5 → P b1 b2 b3 b4 b5) : P a1 a2 a3 a4 a5 := by
  obtain ⟨k, h⟩ := h
  revert a1 a2 a3 a4 a5
  induction k with
  | zero => intro a1 a2 a3 a4 a5 h; exact h.elim
  | succ k ih => intro a1 a2 a3 a4 a5 h; exact hs (lpA5 step k) (fun b1 b2 b3 b4 b5 hb => ih hb) a1 a2 a3 a4 a5 h
theorem lpE5_inv {A1 A2 A3 A4 A5 : Type} {step : (A1 → A2 → A3 → A4 → A5 → Prop) → A1 → A2 → A3 → A4 → A5 → Prop} (I : A1 → A2 → A3 → A4 → A5 → Prop) (μ : A1 → A2 → A3 → A4 → A5 → Nat) (hs : ∀ rec : A1 → A2 → A3 → A4 → A5 → Prop, ∀ (a1 : A1) (a2 : A2) (a3 : A3) (a4 : A4) (a5 : A5), I a1 a2 a3 a4 a5 → (∀ (b1 : A1) (b2 : A2) (b3 : A3) (b4 : A4) (b5 : A5), I b1 b2 b3 b4 b5 → μ b1 b2 b3 b4 b5 < μ a1 a2 a3 a4 a5 → rec b1 b2 b3 b4 b5) → step rec a1 a2 a3 a4 a5) (a1 : A1) (a2 : A2) (a3 : A3) (a4 : A4) (a5 : A5) (h : I a1 a2 a3 a4 a5) : lpE5 step a1 a2 a3 a4 a5 := by
  have key : ∀ k (a1 : A1) (a2 : A2) (a3 : A3) (a4 : A4) (a5 : A5), I a1 a2 a3 a4 a5 → μ a1 a2 a3 a4 a5 < k → lpA5 step k a1 a2 a3 a4 a5 := by
    intro k
    induction k with
    | zero => intro a1 a2 a3 a4 a5 _ h; exact absurd h (Nat.not_lt_zero _)
    | succ k ih => intro a1 a2 a3 a4 a5 h hk; exact hs _ a1 a2 a3 a4 a5 h (fun b1 b2 b3 b4 b5 hb hl => ih b1 b2 b3 b4 b5 hb (Nat.lt_of_lt_of_le hl (Nat.le_of_lt_succ hk)))
  exact ⟨_, key _ a1 a2 a3 a4 a5 h (Nat.lt_succ_self _)⟩
def lpA6 {A1 A2 A3 A4 A5 A6 : Type} (step : (A1 → A2 → A3 → A4 → A5 → A6 → Prop) → A1 → A2 → A3 → A4 → A5 → A6 → Prop) : Nat → A1 → A2 → A3 → A4 → A5 → A6 → Prop
  | 0 => fun _ _ _ _ _ _ => False
  | k + 1 => fun a1 a2 a3 a4 a5 a6 => step (lpA6 step k) a1 a2 a3 a4 a5 a6
def lpE6 {A1 A2 A3 A4 A5 A6 : Type} (step : (A1 → A2 → A3 → A4 → A5 → A6 → Prop) → A1 → A2 → A3 → A4 → A5 → A6 → Prop) (a1 : A1) (a2 : A2) (a3 : A3) (a4 : A4) (a5 : A5) (a6 : A6) : Prop := ∃ k, lpA6 step k a1 a2 a3 a4 a5 a6
theorem lpE6_use {A1 A2 A3 A4 A5 A6 : Type} {step : (A1 → A2 → A3 → A4 → A5 → A6 → Prop) → A1 → A2 → A3 → A4 → A5 → A6 → Prop} {a1 : A1} {a2 : A2} {a3 : A3} {a4 : A4} {a5 : A5} {a6 : A6} (h : lpE6 step a1 a2 a3 a4 a5 a6) (P : A1 → A2 → A3 → A4 → A5 → A6 → Prop) (hs : ∀ rec : A1 → A2 → A3 → A4 → A5 → A6 → Prop, (∀ (b1 : A1) (b2 : A2) (b3 : A3) (b4 : A4) (b5 : A5) (b6 : A6), rec b1 b2 b3 b4 b5 b6 → P b1 b2 b3 b4 b5 b6) → ∀ (b1 : A1) (b2 : A2) (b3 : A3) (b4 : A4) (b5 : A5) (b6 : A6), step rec b1 b2 b3 b4 b5 b6 → P b1 b2 b3 b4 b5 b6) : P a1 a2 a3 a4 a5 a6 := by
  obtain ⟨k, h⟩ := h
  revert a1 a2 a3 a4 a5 a6
  induction k with
  | zero => intro a1 a2 a3 a4 a5 a6 h; exact h.elim
  | succ k ih => intro a1 a2 a3 a4 a5 a6 h; exact hs (lpA6 step k) (fun b1 b2 b3 b4 b5 b6 hb => ih hb) a1 a2 a3 a4 a5 a6 h
theorem lpE6_inv {A1 A2 A3 A4 A5 A6 : Type} {step : (A1 → A2 → A3 → A4 → A5 → A6 → Prop) → A1 → A2 → A3 → A4 → A5 → A6 → Prop} (I : A1 → A2 → A3 → A4 → A5 → A6 → Prop) (μ : A1 → A2 → A3 → A4 → A5 → A6 → Nat) (hs : ∀ rec : A1 → A2 → A3 → A4 → A5 → A6 → Prop, ∀ (a1 : A1) (a2 : A2) (a3 : A3) (a4 : A4) (a5 : A5) (a6 : A6), I a1 a2 a3 a4 a5 a6 → (∀ (b1 : A1) (b2 : A2) (b3 : A3) (b4 : A4) (b5 : A5) (b6 : A6), I b1 b2 b3 b4 b5 b6 → μ b1 b2 b3 b4 b5 b6 < μ a1 a2 a3 a4 a5 a6 → rec b1 b2 b3 b4 b5 b6) → step rec a1 a2 a3 a4 a5 a6) (a1 : A1) (a2 : A2) (a3 : A3) (a4 : A4) (a5 : A5) (a6 : A6) (h : I a1 a2 a3 a4 a5 a6) : lpE6 step a1 a2 a3 a4 a5 a6 := by
  have key : ∀ k (a1 : A1) (a2 : A2) (a3 : A3) (a4 : A4) (a5 : A5) (a6 : A6), I a1 a2 a3 a4 a5 a6 → μ a1 a2 a3 a4 a5 a6 < k → lpA6 step k a1 a2 a3 a4 a5 a6 := by
    intro k
    induction k with
    | zero => intro a1 a2 a3 a4 a5 a6 _ h; exact absurd h (Nat.not_lt_zero _)
    | succ k ih => intro a1 a2 a3 a4 a5 a6 h hk; exact hs _ a1 a2 a3 a4 a5 a6 h (fun b1 b2 b3 b4 b5 b6 hb hl => ih b1 b2 b3 b4 b5 b6 hb (Nat.lt_of_lt_of_le hl (Nat.le_of_lt_succ hk)))
  exact ⟨_, key _ a1 a2 a3 a4 a5 a6 h (Nat.lt_succ_self _)⟩
def lpA7 {A1 A2 A3 A4 A5 A6 A7 : Type} (step : (A1 → A2 → A3 → A4 → A5 → A6 → A7 → Prop) → A1 → A2 → A3 → A4 → A5 → A6 → A7 → Prop) : Nat → A1 → A2 → A3 → A4 → A5 → A6 → A7 → Prop
  | 0 => fun _ _ _ _ _ _ _ => False
  | k + 1 => fun a1 a2 a3 a4 a5 a6 a7 => step (lpA7 step k) a1 a2 a3 a4 a5 a6 a7
def lpE7 {A1 A2 A3 A4 A5 A6 A7 : Type} (step : (A1 → A2 → A3 → A4 → A5 → A6 → A7 → Prop) → A1 → A2 → A3 → A4 → A5 → A6 → A7 → Prop) (a1 : A1) (a2 : A2) (a3 : A3) (a4 : A4) (a5 : A5) (a6 : A6) (a7 : A7) : Prop := ∃ k, lpA7 step k a1 a2 a3 a4 a5 a6 a7
theorem lpE7_use {A1 A2 A3 A4 A5 A6 A7 : Type} {step : (A1 → A2 → A3 → A4 → A5 → A6 → A7 → Prop) → A1 → A2 → A3 → A4 → A5 → A6 → A7 → Prop} {a1 : A1} {a2 : A2} {a3 : A3} {a4 : A4} {a5 : A5} {a6 : A6} {a7 : A7} (h : lpE7 step a1 a2 a3 a4 a5 a6 a7) (P : A1 → A2 → A3 → A4 → A5 → A6 → A7 → Prop) (hs : ∀ rec : A1 → A2 → A3 → A4 → A5 → A6 → A7 → Prop, (∀ (b1 : A1) (b2 : A2) (b3 : A3) (b4 : A4) (b5 : A5) (b6 : A6) (b7 : A7), rec b1 b2 b3 b4 b5 b6 b7 → P b1 b2 b3 b4 b5 b6 b7) → ∀ (b1 : A1) (b2 : A2) (b3 : A3) (b4 : A4) (b5 : A5) (b6 : A6) (b7 : A7), step rec b1 b2 b3 b4 b5 b6 b7 → P b1 b2 b3 b4 b5 b6 b7) : P a1 a2 a3 a4 a5 a6 a7 := by
  obtain ⟨k, h⟩ := h
  revert a1 a2 a3 a4 a5 a6 a7
  induction k with
  | zero => intro a1 a2 a3 a4 a5 a6 a7 h; exact h.elim
  | succ k ih => intro a1 a2 a3 a4 a5 a6 a7 h; exact hs (lpA7 step k) (fun b1 b2 b3 b4 b5 b6 b7 hb => ih hb) a1 a2 a3 a4 a5 a6 a7 h
theorem lpE7_inv {A1 A2 A3 A4 A5 A6 A7 : Type} {step : (A1 → A2 → A3 → A4 → A5 → A6 → A7 → Prop) → A1 → A2 → A3 → A4 → A5 → A6 → A7 → Prop} (I : A1 → A2 → A3 → A4 → A5 → A6 → A7 → Prop) (μ : A1 → A2 → A3 → A4 → A5 → A6 → A7 → Nat) (hs : ∀ rec : A1 → A2 → A3 → A4 → A5 → A6 → A7 → Prop, ∀ (a1 : A1) (a2 : A2) (a3 : A3) (a4 : A4) (a5 : A5) (a6 : A6) (a7 : A7), I a1 a2 a3 a4 a5 a6 a7 → (∀ (b1 : A1) (b2 : A2) (b3 : A3) (b4 : A4) (b5 : A5) (b6 : A6) (b7 : A7), I b1 b2 b3 b4 b5 b6 b7 → μ b1 b2 b3 b4 b5 b6 b7 < μ a1 a2 a3 a4 a5 a6 a7 → rec b1 b2 b3 b4 b5 b6 b7) → step rec a1 a2 a3 a4 a5 a6 a7) (a1 : A1) (a2 : A2) (a3 : A3) (a4 : A4) (a5 : A5) (a6 : A6) (a7 : A7) (h : I a1 a2 a3 a4 a5 a6 a7) : lpE7 step a1 a2 a3 a4 a5 a6 a7 := by
  have key : ∀ k (a1 : A1) (a2 : A2) (a3 : A3) (a4 : A4) (a5 : A5) (a6 : A6) (a7 : A7), I a1 a2 a3 a4 a5 a6 a7 → μ a1 a2 a3 a4 a5 a6 a7 < k → lpA7 step k a1 a2 a3 a4 a5 a6 a7 := by
    intro k
    induction k with
    | zero => intro a1 a2 a3 a4 a5 a6 a7 _ h; exact absurd h (Nat.not_lt_zero _)
    | succ k ih => intro a1 a2 a3 a4 a5 a6 a7 h hk; exact hs _ a1 a2 a3 a4 a5 a6 a7 h (fun b1 b2 b3 b4 b5 b6 b7 hb hl => ih b1 b2 b3 b4 b5 b6 b7 hb (Nat.lt_of_lt_of_le hl (Nat.le_of_lt_succ hk)))
  exact ⟨_, key _ a1 a2 a3 a4 a5 a6 a7 h (Nat.lt_succ_self _)⟩
def lpA8 {A1 A2 A3 A4 A5 A6 A7 A8 : Type} (step : (A1 → A2 → A3 → A4 → A5 → A6 → A7 → A8 → Prop) → A1 → A2 → A3 → A4 → A5 → A6 → A7 → A8 → Prop) : Nat → A1 → A2 → A3 → A4 → A5 → A6 → A7 → A8 → Prop
  | 0 => fun _ _ _ _ _ _ _ _ => False
  | k + 1 => fun a1 a2 a3 a4 a5 a6 a7 a8 => step (lpA8 step k) a1 a2 a3 a4 a5 a6 a7 a8
def lpE8 {A1 A2 A3 A4 A5 A6 A7 A8 : Type} (step : (A1 → A2 → A3 → A4 → A5 → A6 → A7 → A8 → Prop) → A1 → A2 → A3 → A4 → A5 → A6 → A7 → A8 → Prop) (a1 : A1) (a2 : A2) (a3 : A3) (a4 : A4) (a5 : A5) (a6 : A6) (a7 : A7) (a8 : A8) : Prop := ∃ k, lpA8 step k a1 a2 a3 a4 a5 a6 a7 a8
theorem lpE8_use {A1 A2 A3 A4 A5 A6 A7 A8 : Type} {step : (A1 → A2 → A3 → A4 → A5 → A6 → A7 → A8 → Prop) → A1 → A2 → A3 → A4 → A5 → A6 → A7 → A8 → Prop} {a1 : A1} {a2 : A2} {a3 : A3} {a4 : A4} {a5 : A5} {a6 : A6} {a7 : A7} {a8 : A8} (h : lpE8 step a1 a2 a3 a4 a5 a6 a7 a8) (P : A1 → A2 → A3 → A4 → A5 → A6 → A7 → A8 → Prop) (hs : ∀ rec : A1 → A2 → A3 → A4 → A5 → A6 → A7 → A8 → Prop, (∀ (b1 : A1) (b2 : A2) (b3 : A3) (b4 : A4) (b5 : A5) (b6 : A6) (b7 : A7) (b8 : A8), rec b1 b2 b3 b4 b5 b6 b7 b8 → P b1 b2 b3 b4 b5 b6 b7 b8) → ∀ (b1 : A1) (b2 : A2) (b3 : A3) (b4 : A4) (b5 : A5) (b6 : A6) (b7 : A7) (b8 : A8), step rec b1 b2 b3 b4 b5 b6 b7 b8 → P b1 b2 b3 b4 b5 b6 b7 b8) : P a1 a2 a3 a4 a5 a6 a7 a8 := by
  obtain ⟨k, h⟩ := h
  revert a1 a2 a3 a4 a5 a6 a7 a8
  induction k with
  | zero => intro a1 a2 a3 a4 a5 a6 a7 a8 h; exact h.elim
  | succ k ih => intro a1 a2 a3 a4 a5 a6 a7 a8 h; exact hs (lpA8 step k) (fun b1 b2 b3 b4 b5 b6 b7 b8 hb => ih hb) a1 a2 a3 a4 a5 a6 a7 a8 h
theorem lpE8_inv {A1 A2 A3 A4 A5 A6 A7 A8 : Type} {step : (A1 → A2 → A3 → A4 → A5 → A6 → A7 → A8 → Prop) → A1 → A2 → A3 → A4 → A5 → A6 → A7 → A8 → Prop} (I : A1 → A2 → A3 → A4 → A5 → A6 → A7 → A8 → Prop) (μ : A1 → A2 → A3 → A4 → A5 → A6 → A7 → A8 → Nat) (hs : ∀ rec : A1 → A2 → A3 → A4 → A5 → A6 → A7 → A8 → Prop, ∀ (a1 : A1) (a2 : A2) (a3 : A3) (a4 : A4) (a5 : A5) (a6 : A6) (a7 : A7) (a8 : A8), I a1 a2 a3 a4 a5 a6 a7 a8 → (∀ (b1 : A1) (b2 : A2) (b3 : A3) (b4 : A4) (b5 : A5) (b6 : A6) (b7 : A7) (b8 : A8), I b1 b2 b3 b4 b5 b6 b7 b8 → μ b1 b2 b3 b4 b5 b6 b7 b8 < μ a1 a2 a3 a4 a5 a6 a7 a8 → rec b1 b2 b3 b4 b5 b6 b7 b8) → step rec a1 a2 a3 a4 a5 a6 a7 a8) (a1 : A1) (a2 : A2) (a3 : A3) (a4 : A4) (a5 : A5) (a6 : A6) (a7 : A7) (a8 : A8) (h : I a1 a2 a3 a4 a5 a6 a7 a8) : lpE8 step a1 a2 a3 a4 a5 a6 a7 a8 := by
  have key : ∀ k (a1 : A1) (a2 : A2) (a3 : A3) (a4 : A4) (a5 : A5) (a6 : A6) (a7 : A7) (a8 : A8), I a1 a2 a3 a4 a5 a6 a7 a8 → μ a1 a2 a3 a4 a5 a6 a7 a8 < k → lpA8 step k a1 a2 a3 a4 a5 a6 a7 a8 := by
    intro k
    induction k with
    | zero => intro a1 a2 a3 a4 a5 a6 a7 a8 _ h; exact absurd h (Nat.not_lt_zero _)
    | succ k ih => intro a1 a2 a3 a4 a5 a6 a7 a8 h hk; exact hs _ a1 a2 a3 a4 a5 a6 a7 a8 h (fun b1 b2 b3 b4 b5 b6 b7 b8 hb hl => ih b1 b2 b3 b4 b5 b6 b7 b8 hb (Nat.lt_of_lt_of_le hl (Nat.le_of_lt_succ hk)))
  exact ⟨_, key _ a1 a2 a3 a4 a5 a6 a7 a8 h (Nat.lt_succ_self _)⟩
