/-! rules for PURE proofs over the wp forms -/
theorem rd_of {α : Type} {f : Nat → α} {n : Nat} {i : Int32} {k : α → Prop} (j : Nat) (hi : i = nI j) (hj : j < n) (hn : n < 2 ^ 31) (h : k (f j)) : rd f n i k := by
  subst hi
  refine ⟨vp_in_nI hj hn, fun v hv => ?_⟩
  rw [nI_clamp (by omega)] at hv
  subst hv
  exact h
theorem ck_of {n : Nat} {i : Int32} {A : Prop} (j : Nat) (hi : i = nI j) (hj : j < n) (hn : n < 2 ^ 31) (h : A) : ck i n A := by
  subst hi
  exact ⟨vp_in_nI hj hn, h⟩
theorem nm_of {α : Type} {e : α} {k : α → Prop} (h : k e) : nm e k := fun x hx => by subst hx; exact h
theorem nm_as {α : Type} {e : α} {k : α → Prop} (e' : α) (he : e = e') (h : k e') : nm e k := fun x hx => by rw [hx, he]; exact h
theorem br_1 {c A B : Prop} (hc : c) (h : A) : br c A B := ⟨fun _ => h, fun n => absurd hc n⟩
theorem br_0 {c A B : Prop} (hc : ¬ c) (h : B) : br c A B := ⟨fun n => absurd n hc, fun _ => h⟩
theorem br_2 {c A B : Prop} (f : c → A) (g : ¬ c → B) : br c A B := ⟨f, g⟩
theorem br_le {x y : Int32} {A B : Prop} (a b : Nat) (hx : x = nI a) (hy : y = nI b) (ha : a < 2 ^ 31) (hb : b < 2 ^ 31) (f : a ≤ b → A) (g : b < a → B) : br (x ≤ y) A B := by
  subst hx; subst hy
  exact ⟨fun h => f ((nI_leI ha hb).mp h), fun h => g (Nat.lt_of_not_le (fun q => h ((nI_leI ha hb).mpr q)))⟩
theorem br_lt {x y : Int32} {A B : Prop} (a b : Nat) (hx : x = nI a) (hy : y = nI b) (ha : a < 2 ^ 31) (hb : b < 2 ^ 31) (f : a < b → A) (g : b ≤ a → B) : br (x < y) A B := by
  subst hx; subst hy
  exact ⟨fun h => f ((nI_ltI ha hb).mp h), fun h => g (Nat.le_of_not_lt (fun q => h ((nI_ltI ha hb).mpr q)))⟩
theorem br_eq {x y : Int32} {A B : Prop} (a b : Nat) (hx : x = nI a) (hy : y = nI b) (ha : a < 2 ^ 31) (hb : b < 2 ^ 31) (f : a = b → A) (g : a ≠ b → B) : br (x = y) A B := by
  subst hx; subst hy
  exact ⟨fun h => f ((nI_eq ha hb).mp h), fun h => g (fun q => h ((nI_eq ha hb).mpr q))⟩
theorem jn_0 {J : Prop} {body : Prop → Prop} (P : Prop) (hb : ∀ K : Prop, (P → K) → body K) (hJ : P → J) : jn J body := hb J hJ
theorem jn_1 {A1 : Type} {J : A1 → Prop} {body : (A1 → Prop) → Prop} (P : A1 → Prop) (hb : ∀ K : A1 → Prop, (∀ v, P v → K v) → body K) (hJ : ∀ v, P v → J v) : jn J body := hb J hJ
theorem jn_2 {A1 A2 : Type} {J : A1 → A2 → Prop} {body : (A1 → A2 → Prop) → Prop} (P : A1 → A2 → Prop) (hb : ∀ K : A1 → A2 → Prop, (∀ v w, P v w → K v w) → body K) (hJ : ∀ v w, P v w → J v w) : jn J body := hb J hJ
theorem jn_3 {A1 A2 A3 : Type} {J : A1 → A2 → A3 → Prop} {body : (A1 → A2 → A3 → Prop) → Prop} (P : A1 → A2 → A3 → Prop) (hb : ∀ K : A1 → A2 → A3 → Prop, (∀ v w x, P v w x → K v w x) → body K) (hJ : ∀ v w x, P v w x → J v w x) : jn J body := hb J hJ
theorem jn_at {α : Type} {J : α} {body : α → Prop} (h : body J) : jn J body := h
/-- a bit as an int -/
def bI (b : Bool) : Int32 := if b then 1 else 0
theorem bI_t : bI true = 1 := rfl
theorem bI_f : bI false = 0 := rfl
theorem bI_nI (b : Bool) : bI b = nI (if b then 1 else 0) := by cases b <;> rfl
theorem bt_bI (b : Bool) (i : Nat) : bt (bI b) i = (b && decide (i = 0)) := by
  rcases Nat.lt_or_ge i 32 with h | h
  · cases b
    · rw [bI_f, b_0]; rfl
    · exact (by decide +kernel : ∀ i, i < 32 → bt (bI true) i = (true && decide (i = 0))) i h
  · rw [b_big h, decide_eq_false (by omega), Bool.and_false]
theorem bt_1 (i : Nat) : bt 1 i = decide (i = 0) := by have h := bt_bI true i; rwa [Bool.true_and] at h
/-- one bit of a mask -/
theorem b_get (v : Int32) {c : Nat} (hc : c < 32) : (v >>> (nI c &&& 31)) &&& 1 = bI (bt v c) := by
  apply b_ext
  intro i hi
  rw [b_and, bt_1, b_sshr c hc v hi, bt_bI]
  by_cases h : i = 0
  · subst h; simp [hc]
  · simp [h]
theorem b_put1 {c : Nat} (hc : c < 32) (b : Bool) (i : Nat) : bt (bI b <<< (nI c &&& 31)) i = (b && decide (i = c)) := by
  rcases Nat.lt_or_ge i 32 with h | h
  · rw [b_shl c hc _ h, bt_bI]
    by_cases e : i = c
    · subst e; simp
    · by_cases q : c ≤ i
      · have : ¬ i - c = 0 := by omega
        simp [e, this]
      · simp [e, q]
  · rw [b_big h, decide_eq_false (by omega), Bool.and_false]
theorem b_one {c : Nat} (hc : c < 32) (i : Nat) : bt ((1 : Int32) <<< (nI c &&& 31)) i = decide (i = c) := by
  have h := b_put1 hc true i
  rwa [bI_t, Bool.true_and] at h
theorem b_not (v : Int32) {i : Nat} (hi : i < 32) : bt (v ^^^ (-1 : Int32)) i = !bt v i := by rw [b_xor, b_m1 i hi, Bool.xor_true]
/-- a bit of a mask is set to a value -/
theorem b_set (v : Int32) {c : Nat} (hc : c < 32) (b : Bool) (i : Nat) : bt ((v &&& (((1 : Int32) <<< (nI c &&& 31)) ^^^ (-1 : Int32))) ||| (bI b <<< (nI c &&& 31))) i = if i = c then b else bt v i := by
  rcases Nat.lt_or_ge i 32 with h | h
  · rw [b_or, b_and, b_not _ h, b_one hc, b_put1 hc]
    by_cases e : i = c <;> simp [e]
  · rw [b_big h, if_neg (by omega), b_big h]
/-- x in lo .. hi, as the reference asks it -/
theorem w_isIn_of {a : Int32} {lo hi : Int64} {post : Int32 → Prop} (h1 : a.toInt64 < lo → post 0) (h2 : hi < a.toInt64 → post 0) (h3 : ¬ a.toInt64 < lo → ¬ hi < a.toInt64 → post 1) : w_X12_isIn a.toInt64 lo hi post := by
  unfold w_X12_isIn
  refine br_2 (fun h => h1 ((lg_cmp_lt _ _).mp h)) (fun h => ?_)
  have h' : ¬ a.toInt64 < lo := fun q => h ((lg_cmp_lt _ _).mpr q)
  exact br_2 (fun g => h2 ((lg_cmp_gt _ _).mp g)) (fun g => h3 h' (fun q => g ((lg_cmp_gt _ _).mpr q)))
