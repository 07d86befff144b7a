/-! the uniform world, row by row -/
def slG (ad : Nat → Nat) (σ : St) (k : Nat) : Nat → List Nat → List Value
  | _, [] => []
  | j, t :: r => sl_V ad σ k j t :: slG ad σ k (j + 1) r
theorem slG_eq (ad : Nat → Nat) (σ : St) (k : Nat) : ∀ (ss : List Nat) (j0 : Nat), ss.mapIdx (fun j t => sl_V ad σ k (j0 + j) t) = slG ad σ k j0 ss
  | [], _ => rfl
  | t :: r, j0 => by
    rw [List.mapIdx_cons, slG, ← slG_eq ad σ k r (j0 + 1)]
    exact congrArg (List.cons _) (congrArg (fun f => List.mapIdx f r) (funext fun i => funext fun t => by show sl_V ad σ k (j0 + (i + 1)) t = _; rw [show j0 + (i + 1) = j0 + 1 + i by omega]))
def ceG (cy : Nat → ClassId) (ad : Nat → Nat) (σ : St) (k : Nat) (d : Dsc) : va_E := match d with
  | .inl (ci, ss) => .inr (ci, slG ad σ k 0 ss)
  | .inr (t, n) => match t with
    | 0 => .inl (cy 0, n, .inl (σ.1 k))
    | 1 => .inl (cy 1, n, .inr (.inl (σ.2 k)))
    | _ + 2 => .inl (cy 2, n, .inl (σ.1 k))
theorem ceG_eq (cy : Nat → ClassId) (ad : Nat → Nat) (σ : St) (k : Nat) (d : Dsc) : ce_E cy ad σ k d = ceG cy ad σ k d := by
  match d with
  | .inl (ci, ss) =>
    have h := slG_eq ad σ k ss 0
    simp only [Nat.zero_add] at h
    simp only [ce_E, ceG, h]
  | .inr (0, n) => rfl
  | .inr (1, n) => rfl
  | .inr (t + 2, n) => rfl
def wldG (cy : Nat → ClassId) (ad : Nat → Nat) (σ : St) : Nat → List Dsc → va_W
  | _, [] => []
  | k, d :: r => (ad k, ceG cy ad σ k d) :: wldG cy ad σ (k + 1) r
theorem wldG_eq' (cy : Nat → ClassId) (ad : Nat → Nat) (σ : St) : ∀ (ds : List Dsc) (k0 : Nat), ds.mapIdx (fun k d => (ad (k0 + k), ce_E cy ad σ (k0 + k) d)) = wldG cy ad σ k0 ds
  | [], _ => rfl
  | d :: r, k0 => by
    rw [List.mapIdx_cons, wldG, ← wldG_eq' cy ad σ r (k0 + 1)]
    rw [← ceG_eq]
    exact congrArg (List.cons _) (congrArg (fun f => List.mapIdx f r) (funext fun i => funext fun d => by show (ad (k0 + (i + 1)), ce_E cy ad σ (k0 + (i + 1)) d) = _; rw [show k0 + (i + 1) = k0 + 1 + i by omega]))
theorem wldG_eq (cy : Nat → ClassId) (ad : Nat → Nat) (ds : List Dsc) (σ : St) : wld cy ad ds σ = wldG cy ad σ 0 ds := by
  have h := wldG_eq' cy ad σ ds 0
  simp only [Nat.zero_add] at h
  exact h
