/-! WAYS THROUGH THE WALK -/
def EX (w : Wk) : Prop := (∀ j, j < wk_s w → 0 < j → sq_f (wk_i w j) ≤ wk_l w) ∧ (∀ m, m < wk_m w → 0 < (wk_w w m).2.1 → sq_f (wk_i w (wk_w w m).2.1) ≤ (wk_w w m).1) ∧ (∀ j, j < wk_s w → 0 < j → ∃ m, m < wk_m w ∧ (wk_w w m).1 = sq_f (wk_i w j) ∧ (wk_w w m).2.1 = j)
theorem EX_S {N : Ne} {bd : Nat → Nat} {fs : Nat → Bool} {P : Pr} {k : Nat} {s : SI} {w : Wk} {set inp ots : Nat} (h : at_k N bd fs k s w) (hE : EX w) : EX (mvS N bd P k s set inp ots w) := by
  obtain ⟨e1, e2, e3⟩ := hE
  have ll : wk_l w = k := h.2.1.1
  have f := h.1.2.2.2.2.2.1
  have s0 := h.1.1.1
  unfold mvS
  split
  · exact ⟨e1, e2, e3⟩
  · split
    · rename_i q1 q2
      refine ⟨e1, fun m hm h0 => ?_, fun j hj h0 => ?_⟩
      · have hm : m < wk_m w + 1 := hm
        have h0 : 0 < (fu (wk_w w) (wk_m w) _ m).2.1 := h0
        show sq_f (wk_i w (fu (wk_w w) (wk_m w) _ m).2.1) ≤ (fu (wk_w w) (wk_m w) _ m).1
        by_cases z : m = wk_m w
        · rw [z, fu_s] at h0 ⊢
          have := e1 _ q2 h0
          show sq_f (wk_i w (whr N w (nxS N bd k s set inp ots))) ≤ k
          omega
        · rw [fu_n _ _ z] at h0 ⊢
          exact e2 m (by omega) h0
      · obtain ⟨m, m1, m2, m3⟩ := e3 j hj h0
        refine ⟨m, Nat.lt_succ_of_lt m1, ?_, ?_⟩
        · show (fu (wk_w w) (wk_m w) _ m).1 = _
          rw [fu_n _ _ (by omega)]; exact m2
        · show (fu (wk_w w) (wk_m w) _ m).2.1 = _
          rw [fu_n _ _ (by omega)]; exact m3
    · split
      · exact ⟨e1, e2, e3⟩
      · have old : ∀ j, j < wk_s w → fu (wk_i w) (wk_s w) (nxS N bd k s set inp ots) j = wk_i w j := fun j hj => fu_n _ _ (by omega)
        have new : fu (wk_i w) (wk_s w) (nxS N bd k s set inp ots) (wk_s w) = nxS N bd k s set inp ots := fu_s _ _ _
        refine ⟨fun j hj h0 => ?_, fun m hm h0 => ?_, fun j hj h0 => ?_⟩
        · have hj : j < wk_s w + 1 := hj
          show sq_f (fu (wk_i w) (wk_s w) (nxS N bd k s set inp ots) j) ≤ wk_l w
          by_cases z : j = wk_s w
          · rw [z, new]; show k ≤ wk_l w; omega
          · rw [old j (by omega)]; exact e1 j (by omega) h0
        · have hm : m < wk_m w + 1 := hm
          have h0 : 0 < (fu (wk_w w) (wk_m w) _ m).2.1 := h0
          show sq_f (fu (wk_i w) (wk_s w) (nxS N bd k s set inp ots) (fu (wk_w w) (wk_m w) _ m).2.1) ≤ (fu (wk_w w) (wk_m w) _ m).1
          by_cases z : m = wk_m w
          · rw [z, fu_s]
            show sq_f (fu (wk_i w) (wk_s w) (nxS N bd k s set inp ots) (wk_s w)) ≤ k
            rw [new]; exact Nat.le_refl _
          · rw [fu_n _ _ z] at h0 ⊢
            rw [old _ (f m (by omega)).2.1]
            exact e2 m (by omega) h0
        · have hj : j < wk_s w + 1 := hj
          show ∃ m, m < wk_m w + 1 ∧ (fu (wk_w w) (wk_m w) _ m).1 = sq_f (fu (wk_i w) (wk_s w) (nxS N bd k s set inp ots) j) ∧ (fu (wk_w w) (wk_m w) _ m).2.1 = j
          by_cases z : j = wk_s w
          · refine ⟨wk_m w, Nat.lt_succ_self _, ?_, ?_⟩
            · rw [fu_s, z, new]; rfl
            · rw [fu_s, z]
          · obtain ⟨m, m1, m2, m3⟩ := e3 j (by omega) h0
            refine ⟨m, Nat.lt_succ_of_lt m1, ?_, ?_⟩
            · rw [fu_n _ _ (by omega), old j (by omega)]; exact m2
            · rw [fu_n _ _ (by omega)]; exact m3
theorem EX_O {N : Ne} {bd : Nat → Nat} {fs : Nat → Bool} {P : Pr} {k : Nat} {s : SI} {w : Wk} {set inp : Nat} (hW : WN N) (h : at_k N bd fs k s w) (h0 : 0 < set) (h16 : set < 16) (hi : inp < 1024) (hc : canB bd set (sq_t s)) (hE : EX w) : ∀ n, n ≤ 1024 → EX (wO N bd P k s set inp w n)
  | 0, _ => hE
  | n + 1, hn => by
    have ih := EX_O (P := P) hW h h0 h16 hi hc hE n (by omega)
    have ia := at_O (P := P) hW h h0 h16 hi hc n (by omega)
    unfold wO
    by_cases q : wk_x (wO N bd P k s set inp w n) = true
    · rw [if_pos q]; exact ih
    · rw [if_neg q]; exact EX_S ia ih
theorem EX_I {N : Ne} {bd : Nat → Nat} {fs : Nat → Bool} {P : Pr} {k : Nat} {s : SI} {w : Wk} {set : Nat} (hW : WN N) (h : at_k N bd fs k s w) (h0 : 0 < set) (h16 : set < 16) (hc : canB bd set (sq_t s)) (hE : EX w) : ∀ n, n ≤ 1024 → EX (wI N bd P k s set w n)
  | 0, _ => hE
  | n + 1, hn => by
    have ih := EX_I (P := P) hW h h0 h16 hc hE n (by omega)
    have ia := at_I (P := P) hW h h0 h16 hc n (by omega)
    unfold wI
    by_cases q : wk_x (wI N bd P k s set w n) = true
    · rw [if_pos q]; exact ih
    · rw [if_neg q]; exact EX_O hW ia h0 h16 (by omega) hc ih _ (ne_1024 hW _ _ _)
theorem EX_Z {N : Ne} {bd : Nat → Nat} {fs : Nat → Bool} {P : Pr} {k : Nat} {s : SI} {w : Wk} (hW : WN N) (h : at_k N bd fs k s w) (hE : EX w) : ∀ n, n ≤ 16 → EX (wS N bd P k s w n)
  | 0, _ => hE
  | n + 1, hn => by
    have ih := EX_Z (P := P) hW h hE n (by omega)
    have ia := at_Z (P := P) hW h n (by omega)
    unfold wS
    by_cases q : wk_x (wS N bd P k s w n) = true ∨ ¬ okS N bd s n
    · rw [if_pos q]; exact ih
    · rw [if_neg q]
      have ok : okS N bd s n := Classical.byContradiction (fun z => q (Or.inr z))
      exact EX_I hW ia ok.1 (by omega) ok.2.2 ih _ (in_1024 hW n)
theorem EX_W {N : Ne} {bd : Nat → Nat} {P : Pr} {fs : Nat → Bool} (hW : WN N) : ∀ k, EX (wK N bd P fs k)
  | 0 => ⟨fun j hj h0 => by have hj : j < 1 := hj; omega, fun m hm => absurd hm (Nat.not_lt_zero m), fun j hj h0 => by have hj : j < 1 := hj; omega⟩
  | k + 1 => by
    have ih := EX_W (bd := bd) (P := P) (fs := fs) hW k
    have ia := at_W (bd := bd) (P := P) (fs := fs) hW k
    unfold wK
    by_cases q : wk_x (wK N bd P fs k) = true ∨ wk_s (wK N bd P fs k) ≤ k
    · rw [if_pos q]; exact ih
    · rw [if_neg q]
      have hx : wk_x (wK N bd P fs k) = false := by
        cases z : wk_x (wK N bd P fs k) with
        | false => rfl
        | true => exact absurd (Or.inl z) q
      have hk : k < wk_s (wK N bd P fs k) := Nat.lt_of_not_le (fun z => q (Or.inr z))
      have h1 := EX_Z (P := P) hW (at_of ia hx hk) ih 16 (Nat.le_refl _)
      by_cases q2 : wk_x (wS N bd P k (wk_i (wK N bd P fs k) k) (wK N bd P fs k) 16) = true
      · rw [if_pos q2]; exact h1
      · rw [if_neg q2]
        exact ⟨fun j hj h0 => Nat.le_succ_of_le (h1.1 j hj h0), h1.2.1, h1.2.2⟩
theorem EX_all {N : Ne} {bd : Nat → Nat} {P : Pr} {fs : Nat → Bool} (hW : WN N) : EX (wAll N bd P fs) := by
  unfold wAll
  generalize 250 = n
  exact EX_W hW n
/-- a way of n moments, by states looked at, to state k; it costs c -/
def wy (w : Wk) : Nat → Nat → Nat → Prop
  | 0, k, c => k = 0 ∧ c = 0
  | n + 1, k, c => ∃ m, m < wk_m w ∧ (wk_w w m).1 < wk_l w ∧ (wk_w w m).2.1 = k ∧ ∃ d, wy w n (wk_w w m).1 d ∧ c = d + (wk_w w m).2.2
/-- no moment can shorten it -/
def clos (w : Wk) (C : Nat → Nat) : Prop := C 0 = 0 ∧ ∀ m, m < wk_m w → (wk_w w m).1 < wk_l w → C (wk_w w m).2.1 ≤ C (wk_w w m).1 + (wk_w w m).2.2
theorem wy_le {w : Wk} {C : Nat → Nat} (h : clos w C) : ∀ n k c, wy w n k c → C k ≤ c
  | 0, k, c, hw => by obtain ⟨rfl, rfl⟩ := hw; rw [h.1]; exact Nat.le_refl _
  | n + 1, k, c, hw => by
    obtain ⟨m, m1, m2, rfl, d, m4, rfl⟩ := hw
    have := wy_le h n _ _ m4
    have := h.2 m m1 m2
    omega
/-- what can be reached can be reached cheaply -/
theorem wy_tree {N : Ne} {bd : Nat → Nat} {fs : Nat → Bool} {w : Wk} (hWW : WW N bd fs w) (hE : EX w) : ∀ k, k < wk_s w → (k = 0 ∨ sq_f (wk_i w k) < wk_l w) → ∃ n c, wy w n k c ∧ c ≤ 10 * k := by
  intro k
  induction k using Nat.strongRecOn with
  | _ k ih =>
    intro hk hf
    rcases Nat.eq_zero_or_pos k with z | z
    · exact ⟨0, 0, ⟨z, rfl⟩, by omega⟩
    · have hf : sq_f (wk_i w k) < wk_l w := hf.resolve_left (by omega)
      have o := (hWW.2.2.1 k hk z).1
      obtain ⟨m, m1, m2, m3⟩ := hE.2.2 k hk z
      have t10 := (hWW.2.2.2.2.2.1 m m1).2.2
      obtain ⟨n, c, w1, w2⟩ := ih (sq_f (wk_i w k)) o (by omega) (by
        rcases Nat.eq_zero_or_pos (sq_f (wk_i w k)) with y | y
        · exact Or.inl y
        · right
          have := (hWW.2.2.1 _ (by omega) y).1
          omega)
      refine ⟨n + 1, c + (wk_w w m).2.2, ⟨m, m1, by rw [m2]; exact hf, m3, c, by rw [m2]; exact w1, rfl⟩, by omega⟩
theorem wy_short {N : Ne} {bd : Nat → Nat} {fs : Nat → Bool} {w : Wk} (hWW : WW N bd fs w) (hE : EX w) {n k c : Nat} (h : wy w n k c) : ∃ n' c', wy w n' k c' ∧ c' ≤ 2490 := by
  have h250 := hWW.1.2.1
  have s0 := hWW.1.1
  cases n with
  | zero => obtain ⟨rfl, rfl⟩ := h; exact ⟨0, 0, ⟨rfl, rfl⟩, by omega⟩
  | succ n =>
    obtain ⟨m, m1, m2, rfl, d, m4, rfl⟩ := h
    have tl := (hWW.2.2.2.2.2.1 m m1).2.1
    obtain ⟨n', c', w1, w2⟩ := wy_tree hWW hE _ tl (by
      rcases Nat.eq_zero_or_pos (wk_w w m).2.1 with y | y
      · exact Or.inl y
      · right
        have := hE.2.1 m m1 y
        omega)
    exact ⟨n', c', w1, by omega⟩
/-- v is the answer for state k -/
def isL (w : Wk) (k : Nat) (v : Int32) : Prop := (v = -2 ∧ ∀ n c, ¬ wy w n k c) ∨ (∃ c n, v = nI c ∧ wy w n k c ∧ ∀ n' c', wy w n' k c' → c ≤ c')
theorem isL_one {w : Wk} {k : Nat} {v u : Int32} (h : isL w k v) (h' : isL w k u) : v = u := by
  rcases h with ⟨e, hn⟩ | ⟨c, n, e, hw, hm⟩
  · rcases h' with ⟨e', -⟩ | ⟨c', n', -, hw', -⟩
    · rw [e, e']
    · exact absurd hw' (hn _ _)
  · rcases h' with ⟨-, hn'⟩ | ⟨c', n', e', hw', hm'⟩
    · exact absurd hw (hn' _ _)
    · rw [e, e', Nat.le_antisymm (hm _ _ hw') (hm' _ _ hw)]
theorem isL_of {N : Ne} {bd : Nat → Nat} {fs : Nat → Bool} {w : Wk} (hWW : WW N bd fs w) (hE : EX w) {C : Nat → Nat} {B k : Nat} (hB : 2490 < B) (hC : clos w C) (hw : C k < B → ∃ n, wy w n k (C k)) : isL w k (if C k < B then nI (C k) else -2) := by
  by_cases z : C k < B
  · rw [if_pos z]
    obtain ⟨n, hn⟩ := hw z
    exact Or.inr ⟨C k, n, rfl, hn, fun n' c' h => wy_le hC n' k c' h⟩
  · rw [if_neg z]
    refine Or.inl ⟨rfl, fun n c h => ?_⟩
    obtain ⟨n', c', w1, w2⟩ := wy_short hWW hE h
    have := wy_le hC n' k c' w1
    omega
/-- a moment makes a way longer -/
theorem wy_s {w : Wk} {n k d m : Nat} (hm : m < wk_m w) (hl : (wk_w w m).1 < wk_l w) (h : wy w n (wk_w w m).1 d) (hk : (wk_w w m).2.1 = k) : wy w (n + 1) k (d + (wk_w w m).2.2) := ⟨m, hm, hl, hk, d, h, rfl⟩
/-! the reference's -/
def MCo (σ : St) (w : Wk) (C : Nat → Nat) : Prop := ∀ s, s < wk_s w → σ.1 30 s = nI (C s)
def okC (w : Wk) (B : Nat) (C : Nat → Nat) : Prop := C 0 = 0 ∧ ∀ s, s < wk_s w → C s ≤ B ∧ (C s < B → ∃ n, wy w n s (C s))
theorem sm_fu {C : Nat → Nat} {t v n : Nat} (ht : t < n) (hv : v < C t) : fb_sm (fu C t v) n < fb_sm C n := by
  have := fb_sm_upd C v (i := t) (n := n) ht
  have e : (fun k => if k = t then v else C k) = fu C t v := rfl
  rw [e] at this
  omega
set_option maxHeartbeats 1000000 in
theorem m_fewest {σ : St} {N : Ne} {bd : Nat → Nat} {fs : Nat → Bool} {w : Wk} {v : Bool} {a : Int32} {post : Int32 → St → Prop} (hX : MX σ N w v) (h250 : wk_s w ≤ 250) (hWW : 0 < wk_s w → WW N bd fs w ∧ EX w ∧ WL w (wk_l w) ∧ wk_l w ≤ wk_s w) (h1 : ixI a (wk_s w) = none → ∀ σ', fr0 σ σ' → post (-1) σ') (h2 : ∀ k u, a = nI k → k < wk_s w → isL w k u → ∀ σ', fr [30] [(0, 0)] σ σ' → post u σ') : w_X12_fewest σ a post := by
  unfold w_X12_fewest
  refine nm_of ?_
  have f0 := fr0_up σ
  generalize upI σ 0 0 0 = σ1 at f0
  have hX1 := MX_ag (fr_ag f0 (by decide)) hX
  refine m_isState hX1.2.1 h250 (fun g => br_1 rfl (h1 g σ1 f0)) (fun k ek hk => br_0 (by decide) ?_)
  obtain ⟨WWw, hE, hL, lw⟩ := hWW (by omega)
  have m20 := WWw.1.2.2
  have s0 := WWw.1.1
  refine jn_1 (fun σ6 => fr [30] [(0, 0)] σ σ6 ∧ ∃ C, MCo σ6 w C ∧ okC w 1000000 C) (fun J hJ => ?_) ?_
  · refine lpE2_inv (I := fun y39 σ40 => ∃ s, s ≤ wk_s w ∧ y39 = nI s ∧ fr [30] [(0, 0)] σ σ40 ∧ ∀ t, t < s → σ40.1 30 t = nI (if t = 0 then 0 else 1000000)) (μ := fun y39 _ => wk_s w - y39.toNatClampNeg) ?_ 0 σ1 ⟨0, Nat.zero_le _, rfl, fr_mo f0 (by decide), fun t ht => absurd ht (Nat.not_lt_zero t)⟩
    rintro rec y39 σ40 ⟨s, hs, rfl, f40, n40⟩ hrec
    have hX40 := MX_ag (fr_ag f40 (by decide)) hX
    unfold w_X12_fewest_L17
    refine br_le (wk_s w) s hX40.2.1.1 rfl (by omega) (by omega) (fun q => hJ _ ⟨f40, fun t => if t = 0 then 0 else 1000000, fun t ht => n40 t (by omega), rfl, fun t ht => ?_⟩) (fun q => ?_)
    · show (if t = 0 then 0 else 1000000) ≤ 1000000 ∧ ((if t = 0 then 0 else 1000000) < 1000000 → ∃ n, wy w n t (if t = 0 then 0 else 1000000))
      by_cases z : t = 0
      · rw [if_pos z]; exact ⟨by omega, fun _ => ⟨0, z, rfl⟩⟩
      · rw [if_neg z]; exact ⟨Nat.le_refl _, fun y => absurd y (Nat.lt_irrefl _)⟩
    refine jn_1 (fun y44 => y44 = nI (if s = 0 then 0 else 1000000)) (fun J2 hJ2 => ?_) ?_
    · exact br_eq s 0 rfl rfl (by omega) (by omega) (fun e => hJ2 _ (by rw [if_pos e]; rfl)) (fun e => hJ2 _ (by rw [if_neg e]; rfl))
    rintro y44 rfl
    refine wr_at s rfl (by omega) (by decide) (fun σ45 t45 => nm_of (hrec _ _ ⟨s + 1, q, nI_1 s, by rw [t45]; exact fr_stepI f40 _ _ _ (by simp), fun t ht => ?_⟩ (by rw [nI_1, cl_nI (by omega), cl_nI (by omega)]; omega)))
    rw [t45, upI_get]
    by_cases y : t = s
    · rw [if_pos ⟨rfl, y⟩, y]
    · rw [if_neg (fun u => y u.2)]; exact n40 t (by omega)
  rintro σ6 ⟨f6, C6, M6, K6⟩
  refine jn_at ?_
  refine lpE2_inv (I := fun y12 σ13 => fr [30] [(0, 0)] σ σ13 ∧ ∃ C, MCo σ13 w C ∧ okC w 1000000 C ∧ ∃ b : Bool, y12 = bI b ∧ (b = false → clos w C)) (μ := fun y12 σ13 => if y12 = 0 then 0 else 1 + fb_sm (fun s => (σ13.1 30 s).toNatClampNeg) (wk_s w)) ?_ 1 σ6 ⟨f6, C6, M6, K6, true, rfl, fun z => Bool.noConfusion z⟩
  clear M6 K6 C6 f6 σ6
  rintro rec y12 σ13 ⟨f13, C, MC, KC, b, rfl, hb⟩ hrec
  have cl30 : ∀ {σx : St} {Cx : Nat → Nat}, MCo σx w Cx → okC w 1000000 Cx → fb_sm (fun s => (σx.1 30 s).toNatClampNeg) (wk_s w) = fb_sm Cx (wk_s w) := fun {σx Cx} hx kx => fb_sm_cong (fun s hs => by rw [hx s hs, cl_nI (by have := (kx.2 s hs).1; omega)])
  unfold w_X12_fewest_L50
  cases b with
  | false =>
    refine br_1 rfl ?_
    have hl := isL_of WWw hE (B := 1000000) (k := k) (by decide) (hb rfl) (KC.2 k hk).2
    have ck := (KC.2 k hk).1
    refine rd_of k ek (by omega) (by decide) ?_
    rw [MC k hk]
    refine br_eq (C k) 1000000 rfl rfl (by omega) (by omega) (fun e => h2 k _ ek hk (by rw [if_neg (by omega)] at hl; exact hl) σ13 f13) (fun e => rd_of k ek (by omega) (by decide) ?_)
    rw [MC k hk]
    exact h2 k _ ek hk (by rw [if_pos (by omega)] at hl; exact hl) σ13 f13
  | true =>
    refine br_0 (by decide) (jn_2 (fun y17 σ18 => fr [30] [(0, 0)] σ σ18 ∧ ∃ C', MCo σ18 w C' ∧ okC w 1000000 C' ∧ ∃ b : Bool, y17 = bI b ∧ (b = false → clos w C') ∧ (b = true → fb_sm C' (wk_s w) < fb_sm C (wk_s w))) (fun J hJ => ?_) ?_)
    rotate_left
    · rintro y17 σ18 ⟨f18, C', M', K', b', rfl, hb1, hb2⟩
      refine hrec _ _ ⟨f18, C', M', K', b', rfl, hb1⟩ ?_
      rw [cl30 M' K', cl30 MC KC]
      cases b' with
      | false => show (if (0 : Int32) = 0 then 0 else _) < (if (1 : Int32) = 0 then 0 else _); rw [if_pos rfl, if_neg (by decide)]; omega
      | true => show (if (1 : Int32) = 0 then 0 else _) < (if (1 : Int32) = 0 then 0 else _); rw [if_neg (by decide), if_neg (by decide)]; have := hb2 rfl; omega
    refine lpE3_inv (I := fun y19 y20 σ21 => ∃ m, m ≤ wk_m w ∧ y20 = nI m ∧ fr [30] [(0, 0)] σ σ21 ∧ ∃ C', MCo σ21 w C' ∧ okC w 1000000 C' ∧ ∃ b : Bool, y19 = bI b ∧ (b = false → C' = C ∧ ∀ i, i < m → (wk_w w i).1 < wk_l w → C (wk_w w i).2.1 ≤ C (wk_w w i).1 + (wk_w w i).2.2) ∧ (b = true → fb_sm C' (wk_s w) < fb_sm C (wk_s w))) (μ := fun _ y20 _ => wk_m w - y20.toNatClampNeg) ?_ 0 0 σ13 ⟨0, Nat.zero_le _, rfl, f13, C, MC, KC, false, rfl, fun _ => ⟨rfl, fun i hi => absurd hi (Nat.not_lt_zero i)⟩, fun z => Bool.noConfusion z⟩
    rintro rec2 y19 y20 σ21 ⟨m, hm, rfl, f21, C', M', K', b', rfl, hb1, hb2⟩ hrec2
    have hX21 := MX_ag (fr_ag f21 (by decide)) hX
    unfold w_X12_fewest_L58
    refine br_le (wk_m w) m hX21.1.2.2.2.2 rfl (by omega) (by omega) (fun q => hJ _ _ ⟨f21, C', M', K', b', rfl, fun e => ?_, hb2⟩) (fun q => ?_)
    · obtain ⟨e1, e2⟩ := hb1 e
      rw [e1]
      exact ⟨KC.1, fun i hi => e2 i (by omega)⟩
    obtain ⟨w1, w2, w3⟩ := hX21.2.2.2.1 m q
    obtain ⟨t1, t2, t3⟩ := WWw.2.2.2.2.2.1 m q
    have kf := (K'.2 _ t1).1
    have kt := (K'.2 _ t2).1
    have dec : wk_m w - (nI m + 1).toNatClampNeg < wk_m w - (nI m).toNatClampNeg := by rw [nI_1, cl_nI (by omega), cl_nI (by omega)]; omega
    refine rd_of m rfl (by omega) (by decide) ?_
    rw [w1]
    refine rd_of (wk_w w m).1 rfl (by omega) (by decide) ?_
    rw [M' _ t1]
    refine rd_of m rfl (by omega) (by decide) ?_
    rw [w3, nI_add]
    refine nm_of (rd_of m rfl (by omega) (by decide) ?_)
    rw [w1]
    refine rd_of (wk_w w m).1 rfl (by omega) (by decide) ?_
    rw [hX21.2.2.1 _ t1]
    have skip : ((wk_w w m).1 < wk_l w → C' (wk_w w m).2.1 ≤ C' (wk_w w m).1 + (wk_w w m).2.2) → rec2 (bI b') (nI m + 1) σ21 := fun hsk => hrec2 _ _ _ ⟨m + 1, q, nI_1 m, f21, C', M', K', b', rfl, fun e => ⟨(hb1 e).1, fun i hi hl => by
      rcases (show i < m ∨ i = m by omega) with y | y
      · exact (hb1 e).2 i y hl
      · rw [y] at hl ⊢
        rw [← (hb1 e).1]; exact hsk hl⟩, hb2⟩ dec
    by_cases z : (wk_w w m).1 < wk_l w
    · rw [if_pos z]
      have cm := (hL.2.1 _ z).2
      refine br_0 (nI_pos (by omega)) ?_
      refine rd_of m rfl (by omega) (by decide) ?_
      rw [w2]
      refine rd_of (wk_w w m).2.1 rfl (by omega) (by decide) ?_
      rw [M' _ t2]
      refine br_le (C' (wk_w w m).2.1) (C' (wk_w w m).1 + (wk_w w m).2.2) rfl rfl (by omega) (by omega) (fun y => nm_of (skip (fun _ => y))) (fun y => ?_)
      refine rd_of m rfl (by omega) (by decide) ?_
      rw [w2]
      refine wr_at (wk_w w m).2.1 rfl (by omega) (by decide) (fun σ37 t37 => nm_of (hrec2 _ _ _ ⟨m + 1, q, nI_1 m, by rw [t37]; exact fr_stepI f21 _ _ _ (by simp), fu C' (wk_w w m).2.1 (C' (wk_w w m).1 + (wk_w w m).2.2), fun s hs => ?_, ⟨?_, fun s hs => ?_⟩, true, rfl, fun e => Bool.noConfusion e, fun _ => ?_⟩ dec))
      · rw [t37, upI_get]
        by_cases u : s = (wk_w w m).2.1
        · rw [if_pos ⟨rfl, u⟩, u, fu_s]
        · rw [if_neg (fun x => u x.2), fu_n _ _ u]; exact M' s hs
      · by_cases u : (wk_w w m).2.1 = 0
        · rw [u, K'.1] at y; omega
        · rw [fu_n _ _ (fun x => u x.symm)]; exact K'.1
      · by_cases u : s = (wk_w w m).2.1
        · rw [u, fu_s]
          refine ⟨by omega, fun _ => ?_⟩
          obtain ⟨n, hn⟩ := (K'.2 _ t1).2 (by omega)
          exact ⟨n + 1, wy_s q z hn rfl⟩
        · rw [fu_n _ _ u]; exact K'.2 s hs
      · have l1 := sm_fu (C := C') t2 y
        cases b' with
        | false => rw [(hb1 rfl).1] at l1 ⊢; exact l1
        | true => have := hb2 rfl; omega
    · rw [if_neg z]
      exact br_1 (by decide) (nm_of (skip (fun y => absurd y z)))
