/-! THE ABSTRACT WALK -/
/-- a state: the bits' values, ticks, the state before, clocks, inputs, others, depth -/
abbrev SI : Type := (Nat → Bool) × (Nat → Nat) × Nat × Nat × Nat × Nat × Nat
abbrev sq_v (s : SI) : Nat → Bool := s.1
abbrev sq_t (s : SI) : Nat → Nat := s.2.1
abbrev sq_f (s : SI) : Nat := s.2.2.1
abbrev sq_c (s : SI) : Nat := s.2.2.2.1
abbrev sq_i (s : SI) : Nat := s.2.2.2.2.1
abbrev sq_o (s : SI) : Nat := s.2.2.2.2.2.1
abbrev sq_d (s : SI) : Nat := s.2.2.2.2.2.2
/-- a broken promise: whether it is, the state before (or -2), clocks, inputs, others, the state that came -/
abbrev NV : Type := Bool × Int32 × Nat × Nat × Nat × Nat
/-- states, moments, looked at, spent; each state; moments behind each looked at; each moment: from, to, turned; promises -/
abbrev Wk : Type := Nat × Nat × Nat × Bool × (Nat → SI) × (Nat → Nat) × (Nat → Nat × Nat × Nat) × (Nat → NV)
abbrev wk_s (w : Wk) : Nat := w.1
abbrev wk_m (w : Wk) : Nat := w.2.1
abbrev wk_l (w : Wk) : Nat := w.2.2.1
abbrev wk_x (w : Wk) : Bool := w.2.2.2.1
abbrev wk_i (w : Wk) : Nat → SI := w.2.2.2.2.1
abbrev wk_c (w : Wk) : Nat → Nat := w.2.2.2.2.2.1
abbrev wk_w (w : Wk) : Nat → Nat × Nat × Nat := w.2.2.2.2.2.2.1
abbrev wk_n (w : Wk) : Nat → NV := w.2.2.2.2.2.2.2
noncomputable def smS (N : Ne) (s : SI) (v : Nat → Bool) (t : Nat → Nat) : Bool := @decide ((∀ c, c < nn N → 4 < nk N c → sq_v s c = v c) ∧ ∀ i, i < 16 → sq_t s i = t i) (Classical.propDecidable _)
theorem smS_iff {N : Ne} {s : SI} {v : Nat → Bool} {t : Nat → Nat} : smS N s v t = true ↔ (∀ c, c < nn N → 4 < nk N c → sq_v s c = v c) ∧ ∀ i, i < 16 → sq_t s i = t i := @decide_eq_true_iff _ (Classical.propDecidable _)
def jdg (N : Ne) (P : Pr) (nv : Nat → NV) (vb vn : Nat → Bool) (first : Bool) (f : Int32) (set inp ots to : Nat) : Nat → NV := fun p => if p < P.1 ∧ (nv p).1 = false ∧ kep N (P.2.1 p) (P.2.2.1 p) (P.2.2.2 p) vb vn first = false then (true, f, set, inp, ots, to) else nv p
def spX (w : Wk) : Wk := (wk_s w, wk_m w, wk_l w, true, wk_i w, wk_c w, wk_w w, wk_n w)
def adS (w : Wk) (s : SI) : Wk := (wk_s w + 1, wk_m w, wk_l w, wk_x w, fu (wk_i w) (wk_s w) s, wk_c w, wk_w w, wk_n w)
/-- the state that comes -/
noncomputable def nxS (N : Ne) (bd : Nat → Nat) (k : Nat) (s : SI) (set inp ots : Nat) : SI := (bhd N (sq_v s) set inp ots, dg bd (thn set (sq_t s)), k, set, inp, ots, sq_d s + 1)
noncomputable def mvA (N : Ne) (P : Pr) (k : Nat) (s n : SI) (set inp ots to : Nat) (w : Wk) : Wk := (wk_s w, wk_m w + 1, wk_l w, wk_x w, wk_i w, wk_c w, fu (wk_w w) (wk_m w) (k, to, fb_ct ots.testBit (ne_ N (sq_v s) set inp)), jdg N P (wk_n w) (sq_v s) (sq_v n) false (nI k) set inp ots to)
/-- where a state stands, or would stand -/
noncomputable def whr (N : Ne) (w : Wk) (n : SI) : Nat := fa_first (fun j => smS N (wk_i w j) (sq_v n) (sq_t n)) (wk_s w)
noncomputable def mvS (N : Ne) (bd : Nat → Nat) (P : Pr) (k : Nat) (s : SI) (set inp ots : Nat) (w : Wk) : Wk :=
  if wk_m w = 20000 then spX w
  else if whr N w (nxS N bd k s set inp ots) < wk_s w then mvA N P k s (nxS N bd k s set inp ots) set inp ots (whr N w (nxS N bd k s set inp ots)) w
  else if wk_s w = 250 then spX w
  else mvA N P k s (nxS N bd k s set inp ots) set inp ots (wk_s w) (adS w (nxS N bd k s set inp ots))
noncomputable def wO (N : Ne) (bd : Nat → Nat) (P : Pr) (k : Nat) (s : SI) (set inp : Nat) (w : Wk) : Nat → Wk
  | 0 => w
  | n + 1 => if wk_x (wO N bd P k s set inp w n) = true then wO N bd P k s set inp w n else mvS N bd P k s set inp n (wO N bd P k s set inp w n)
noncomputable def wI (N : Ne) (bd : Nat → Nat) (P : Pr) (k : Nat) (s : SI) (set : Nat) (w : Wk) : Nat → Wk
  | 0 => w
  | n + 1 => if wk_x (wI N bd P k s set w n) = true then wI N bd P k s set w n else wO N bd P k s set n (wI N bd P k s set w n) (2 ^ ne_ N (sq_v s) set n)
/-- sets that are gone through -/
def okS (N : Ne) (bd : Nat → Nat) (s : SI) (set : Nat) : Prop := 0 < set ∧ (∀ i, set.testBit i = true → cth N i = true) ∧ canB bd set (sq_t s)
noncomputable def wS (N : Ne) (bd : Nat → Nat) (P : Pr) (k : Nat) (s : SI) (w : Wk) : Nat → Wk
  | 0 => w
  | n + 1 => @ite _ (wk_x (wS N bd P k s w n) = true ∨ ¬ okS N bd s n) (Classical.propDecidable _) (wS N bd P k s w n) (wI N bd P k s n (wS N bd P k s w n) (2 ^ inI N n (nn N)))
def clo (w : Wk) (k : Nat) : Wk := (wk_s w, wk_m w, wk_l w + 1, wk_x w, wk_i w, fu (wk_c w) k (wk_m w), wk_w w, wk_n w)
noncomputable def wk0 (N : Ne) (P : Pr) (fs : Nat → Bool) : Wk := (1, 0, 0, false, fun _ => (fz N fs, fun _ => 0, 0, 0, 0, 0, 0), fun _ => 0, fun _ => (0, 0, 0), jdg N P (fun _ => (false, 0, 0, 0, 0, 0)) (fz N fs) (fz N fs) true (-2) 0 0 0 0)
noncomputable def wK (N : Ne) (bd : Nat → Nat) (P : Pr) (fs : Nat → Bool) : Nat → Wk
  | 0 => wk0 N P fs
  | k + 1 =>
    if wk_x (wK N bd P fs k) = true ∨ wk_s (wK N bd P fs k) ≤ k then wK N bd P fs k
    else if wk_x (wS N bd P k (wk_i (wK N bd P fs k) k) (wK N bd P fs k) 16) = true then wS N bd P k (wk_i (wK N bd P fs k) k) (wK N bd P fs k) 16
    else clo (wS N bd P k (wk_i (wK N bd P fs k) k) (wK N bd P fs k) 16) k
/-! what holds of it -/
theorem first_none {p : Nat → Bool} {n : Nat} (h : ∀ j, j < n → p j = false) : fa_first p n = n := by
  have l := fa_first_le p n
  rcases Nat.lt_or_ge (fa_first p n) n with q | q
  · have := fa_first_yes p n q
    rw [h _ q] at this; cases this
  · omega
theorem first_some {p : Nat → Bool} {n k : Nat} (hk : k < n) (hp : p k = true) (h : ∀ j, j < k → p j = false) : fa_first p n = k := by
  rcases Nat.lt_trichotomy (fa_first p n) k with q | q | q
  · have := fa_first_yes p n (by omega)
    rw [h _ q] at this; cases this
  · exact q
  · have := fa_first_no p n k q
    rw [hp] at this; cases this
theorem first_in {p : Nat → Bool} {n k : Nat} (hk : k < n) (hp : p k = true) : fa_first p n < n := by
  rcases Nat.lt_or_ge (fa_first p n) n with q | q
  · exact q
  · have := fa_first_no p n k (by omega)
    rw [hp] at this; cases this
/-- where a state came from -/
def ori (N : Ne) (bd : Nat → Nat) (w : Wk) (k : Nat) : Prop := sq_f (wk_i w k) < k ∧ 0 < sq_c (wk_i w k) ∧ sq_c (wk_i w k) < 16 ∧ sq_i (wk_i w k) < 1024 ∧ sq_o (wk_i w k) < 1024 ∧ sq_d (wk_i w k) = sq_d (wk_i w (sq_f (wk_i w k))) + 1 ∧ sq_v (wk_i w k) = bhd N (sq_v (wk_i w (sq_f (wk_i w k)))) (sq_c (wk_i w k)) (sq_i (wk_i w k)) (sq_o (wk_i w k)) ∧ sq_t (wk_i w k) = dg bd (thn (sq_c (wk_i w k)) (sq_t (wk_i w (sq_f (wk_i w k))))) ∧ canB bd (sq_c (wk_i w k)) (sq_t (wk_i w (sq_f (wk_i w k))))
def sok (N : Ne) (bd : Nat → Nat) (s : SI) : Prop := pas N (sq_v s) ∧ (∀ i, i < 16 → bd i = 0 → sq_t s i = 0) ∧ TB bd (sq_t s)
def WW (N : Ne) (bd : Nat → Nat) (fs : Nat → Bool) (w : Wk) : Prop := (0 < wk_s w ∧ wk_s w ≤ 250 ∧ wk_m w ≤ 20000) ∧ (∀ k, k < wk_s w → sok N bd (wk_i w k) ∧ sq_d (wk_i w k) ≤ k) ∧ (∀ k, k < wk_s w → 0 < k → ori N bd w k) ∧ wk_i w 0 = (fz N fs, fun _ => 0, 0, 0, 0, 0, 0) ∧ (∀ j k, j < k → k < wk_s w → smS N (wk_i w j) (sq_v (wk_i w k)) (sq_t (wk_i w k)) = false) ∧ (∀ m, m < wk_m w → (wk_w w m).1 < wk_s w ∧ (wk_w w m).2.1 < wk_s w ∧ (wk_w w m).2.2 ≤ 10) ∧ (∀ p, (wk_n w p).1 = true → (wk_n w p).2.2.2.2.2 < wk_s w)
/-- the first moment of a state -/
def opn (w : Wk) (j : Nat) : Nat := if j = 0 then 0 else wk_c w (j - 1)
def WL (w : Wk) (k : Nat) : Prop := wk_l w = k ∧ (∀ j, j < k → opn w j ≤ wk_c w j ∧ wk_c w j ≤ wk_m w) ∧ (∀ j, j < k → ∀ m, opn w j ≤ m → m < wk_c w j → (wk_w w m).1 = j) ∧ (∀ m, opn w k ≤ m → m < wk_m w → (wk_w w m).1 = k)
theorem pas_bhd {N : Ne} {v : Nat → Bool} (h : pas N v) (set inp ots : Nat) : pas N (bhd N v set inp ots) := by
  intro c hc
  refine Classical.byContradiction (fun n => ?_)
  have t : tik N set c = false := by
    cases q : tik N set c with
    | false => rfl
    | true => exact absurd ⟨(tik_lt q).1, (tik_lt q).2.1⟩ n
  have e : eit N v set inp c = false := by
    cases q : eit N v set inp c with
    | false => rfl
    | true => exact absurd ⟨(eit_lt q).1, by have := (eit_lt q).2; omega⟩ n
  have z : v c = false := by
    cases q : v c with
    | false => rfl
    | true => exact absurd (h c q) n
  unfold bhd at hc
  rw [pln_bit t, e, z] at hc
  simp at hc
theorem pas_fz (N : Ne) (fs : Nat → Bool) : pas N (fz N fs) := fun c hc => ⟨(fz_lt hc).1, by have := (fz_lt hc).2; omega⟩
theorem sok_nx {N : Ne} {bd : Nat → Nat} {k : Nat} {s : SI} {set inp ots : Nat} (h : sok N bd s) (hc : canB bd set (sq_t s)) : sok N bd (nxS N bd k s set inp ots) := by
  refine ⟨pas_bhd h.1 _ _ _, fun i _ hb => if_pos hb, fun i hi => ?_⟩
  show bd i = 0 ∨ (if bd i = 0 then 0 else thn set (sq_t s) i) ≤ bd i
  by_cases e : bd i = 0
  · exact Or.inl e
  · rw [if_neg e]
    exact hc i hi
theorem WW_sp {N : Ne} {bd : Nat → Nat} {fs : Nat → Bool} {w : Wk} (h : WW N bd fs w) : WW N bd fs (spX w) := h
theorem ori_cong {N : Ne} {bd : Nat → Nat} {w w' : Wk} {k : Nat} (h : ori N bd w k) (e : ∀ j, j ≤ k → wk_i w' j = wk_i w j) : ori N bd w' k := by
  have e1 := e k (Nat.le_refl k)
  have l : sq_f (wk_i w k) < k := h.1
  have e2 := e (sq_f (wk_i w k)) (by omega)
  unfold ori at h ⊢
  rw [e1, e2]
  exact h
theorem WW_ad {N : Ne} {bd : Nat → Nat} {fs : Nat → Bool} {w : Wk} {k set inp ots : Nat} (h : WW N bd fs w) (hk : k < wk_s w) (hn : whr N w (nxS N bd k (wk_i w k) set inp ots) = wk_s w) (hs : wk_s w < 250) (h0 : 0 < set) (h16 : set < 16) (hi : inp < 1024) (ho : ots < 1024) (hc : canB bd set (sq_t (wk_i w k))) : WW N bd fs (adS w (nxS N bd k (wk_i w k) set inp ots)) := by
  obtain ⟨⟨a1, a2, a3⟩, b, c, d, e, f, g⟩ := h
  have old : ∀ j, j < wk_s w → wk_i (adS w (nxS N bd k (wk_i w k) set inp ots)) j = wk_i w j := fun j hj => fu_n _ _ (by omega)
  have new : wk_i (adS w (nxS N bd k (wk_i w k) set inp ots)) (wk_s w) = nxS N bd k (wk_i w k) set inp ots := fu_s _ _ _
  refine ⟨⟨Nat.succ_pos _, hs, a3⟩, fun j hj => ?_, fun j hj h0j => ?_, ?_, fun i j hij hj => ?_, fun m hm => ?_, fun p hp => ?_⟩
  · have hj : j < wk_s w + 1 := hj
    by_cases q : j = wk_s w
    · rw [q, new]
      exact ⟨sok_nx (b k hk).1 hc, by show sq_d (wk_i w k) + 1 ≤ wk_s w; have := (b k hk).2; omega⟩
    · rw [old j (by omega)]; exact b j (by omega)
  · have hj : j < wk_s w + 1 := hj
    by_cases q : j = wk_s w
    · have of : wk_i (adS w (nxS N bd k (wk_i w k) set inp ots)) k = wk_i w k := old k hk
      unfold ori
      rw [q, new]
      show k < wk_s w ∧ 0 < set ∧ set < 16 ∧ inp < 1024 ∧ ots < 1024 ∧ sq_d (wk_i w k) + 1 = sq_d (wk_i (adS w (nxS N bd k (wk_i w k) set inp ots)) k) + 1 ∧ bhd N (sq_v (wk_i w k)) set inp ots = bhd N (sq_v (wk_i (adS w (nxS N bd k (wk_i w k) set inp ots)) k)) set inp ots ∧ dg bd (thn set (sq_t (wk_i w k))) = dg bd (thn set (sq_t (wk_i (adS w (nxS N bd k (wk_i w k) set inp ots)) k))) ∧ canB bd set (sq_t (wk_i (adS w (nxS N bd k (wk_i w k) set inp ots)) k))
      rw [of]
      exact ⟨hk, h0, h16, hi, ho, rfl, rfl, rfl, hc⟩
    · exact ori_cong (c j (by omega) h0j) (fun i hi => old i (by omega))
  · rw [old 0 a1]; exact d
  · have hj : j < wk_s w + 1 := hj
    rw [old i (by omega)]
    by_cases q : j = wk_s w
    · rw [q, new]
      exact fa_first_no (fun j => smS N (wk_i w j) (sq_v (nxS N bd k (wk_i w k) set inp ots)) (sq_t (nxS N bd k (wk_i w k) set inp ots))) (wk_s w) i (by unfold whr at hn; omega)
    · rw [old j (by omega)]; exact e i j hij (by omega)
  · obtain ⟨f1, f2, f3⟩ := f m hm
    exact ⟨Nat.lt_succ_of_lt f1, Nat.lt_succ_of_lt f2, f3⟩
  · exact Nat.lt_succ_of_lt (g p hp)
theorem WW_mv {N : Ne} {bd : Nat → Nat} {fs : Nat → Bool} {P : Pr} {w : Wk} {k set inp ots to : Nat} {s n : SI} (h : WW N bd fs w) (hW : WN N) (hk : k < wk_s w) (ht : to < wk_s w) (hm : wk_m w < 20000) : WW N bd fs (mvA N P k s n set inp ots to w) := by
  obtain ⟨⟨a1, a2, a3⟩, b, c, d, e, f, g⟩ := h
  refine ⟨⟨a1, a2, hm⟩, b, c, d, e, fun m hm' => ?_, fun p hp => ?_⟩
  · have hm' : m < wk_m w + 1 := hm'
    show (fu (wk_w w) (wk_m w) _ m).1 < wk_s w ∧ (fu (wk_w w) (wk_m w) _ m).2.1 < wk_s w ∧ (fu (wk_w w) (wk_m w) _ m).2.2 ≤ 10
    by_cases q : m = wk_m w
    · rw [q, fu_s]
      exact ⟨hk, ht, Nat.le_trans (fb_ct_le _ _) (ne_le N hW _ _ _)⟩
    · rw [fu_n _ _ q]; exact f m (by omega)
  · have hp : (jdg N P (wk_n w) (sq_v s) (sq_v n) false (nI k) set inp ots to p).1 = true := hp
    show (jdg N P (wk_n w) (sq_v s) (sq_v n) false (nI k) set inp ots to p).2.2.2.2.2 < wk_s w
    unfold jdg at hp ⊢
    by_cases q : p < P.1 ∧ (wk_n w p).1 = false ∧ kep N (P.2.1 p) (P.2.2.1 p) (P.2.2.2 p) (sq_v s) (sq_v n) false = false
    · rw [if_pos q]; exact ht
    · rw [if_neg q] at hp ⊢; exact g p hp
/-- one try: what stays as it was -/
def ext (w w' : Wk) : Prop := wk_s w ≤ wk_s w' ∧ (∀ j, j < wk_s w → wk_i w' j = wk_i w j) ∧ wk_l w' = wk_l w ∧ wk_c w' = wk_c w
theorem ext_rf (w : Wk) : ext w w := ⟨Nat.le_refl _, fun _ _ => rfl, rfl, rfl⟩
theorem ext_tr {w w1 w2 : Wk} (h1 : ext w w1) (h2 : ext w1 w2) : ext w w2 := ⟨Nat.le_trans h1.1 h2.1, fun j hj => (h2.2.1 j (Nat.lt_of_lt_of_le hj h1.1)).trans (h1.2.1 j hj), h2.2.2.1.trans h1.2.2.1, h2.2.2.2.trans h1.2.2.2⟩
/-- all that holds while state k is looked at, whose contents are s -/
def at_k (N : Ne) (bd : Nat → Nat) (fs : Nat → Bool) (k : Nat) (s : SI) (w : Wk) : Prop := WW N bd fs w ∧ WL w k ∧ k < wk_s w ∧ wk_i w k = s
theorem at_sp {N : Ne} {bd : Nat → Nat} {fs : Nat → Bool} {k : Nat} {s : SI} {w : Wk} (h : at_k N bd fs k s w) : at_k N bd fs k s (spX w) := h
theorem at_ad {N : Ne} {bd : Nat → Nat} {fs : Nat → Bool} {k : Nat} {s : SI} {w : Wk} {set inp ots : Nat} (h : at_k N bd fs k s w) (hn : whr N w (nxS N bd k s set inp ots) = wk_s w) (hs : wk_s w < 250) (h0 : 0 < set) (h16 : set < 16) (hi : inp < 1024) (ho : ots < 1024) (hc : canB bd set (sq_t s)) : at_k N bd fs k s (adS w (nxS N bd k s set inp ots)) := by
  obtain ⟨h1, h2, h3, rfl⟩ := h
  exact ⟨WW_ad h1 h3 hn hs h0 h16 hi ho hc, h2, Nat.lt_succ_of_lt h3, fu_n _ _ (by omega)⟩
theorem at_mv {N : Ne} {bd : Nat → Nat} {fs : Nat → Bool} {P : Pr} {k : Nat} {s n : SI} {w : Wk} {set inp ots to : Nat} (hW : WN N) (h : at_k N bd fs k s w) (ht : to < wk_s w) (hm : wk_m w < 20000) : at_k N bd fs k s (mvA N P k s n set inp ots to w) := by
  obtain ⟨h1, ⟨l1, l2, l3, l4⟩, h3, h4⟩ := h
  refine ⟨WW_mv h1 hW h3 ht hm, ⟨l1, fun j hj => ⟨(l2 j hj).1, Nat.le_succ_of_le (l2 j hj).2⟩, fun j hj m hm1 hm2 => ?_, fun m hm1 hm2 => ?_⟩, h3, h4⟩
  · show (fu (wk_w w) (wk_m w) _ m).1 = j
    have hm2 : m < wk_c w j := hm2
    have := (l2 j hj).2
    rw [fu_n _ _ (by omega)]
    exact l3 j hj m hm1 hm2
  · show (fu (wk_w w) (wk_m w) _ m).1 = k
    have hm2 : m < wk_m w + 1 := hm2
    by_cases q : m = wk_m w
    · rw [q, fu_s]
    · rw [fu_n _ _ q]; exact l4 m hm1 (by omega)
theorem whr_le (N : Ne) (w : Wk) (n : SI) : whr N w n ≤ wk_s w := fa_first_le _ _
theorem at_S {N : Ne} {bd : Nat → Nat} {fs : Nat → Bool} {P : Pr} {k : Nat} {s : SI} {w : Wk} {set inp ots : Nat} (hW : WN N) (h : at_k N bd fs k s w) (h0 : 0 < set) (h16 : set < 16) (hi : inp < 1024) (ho : ots < 1024) (hc : canB bd set (sq_t s)) : at_k N bd fs k s (mvS N bd P k s set inp ots w) := by
  have l := whr_le N w (nxS N bd k s set inp ots)
  have hm := h.1.1.2.2
  have hs := h.1.1.2.1
  unfold mvS
  by_cases q : wk_m w = 20000
  · rw [if_pos q]; exact at_sp h
  · rw [if_neg q]
    by_cases q1 : whr N w (nxS N bd k s set inp ots) < wk_s w
    · rw [if_pos q1]; exact at_mv hW h q1 (by omega)
    · rw [if_neg q1]
      by_cases q2 : wk_s w = 250
      · rw [if_pos q2]; exact at_sp h
      · rw [if_neg q2]
        exact at_mv hW (at_ad h (by omega) (by omega) h0 h16 hi ho hc) (Nat.lt_succ_self _) (by show wk_m w < 20000; omega)
theorem ne_1024 {N : Ne} (hW : WN N) (v : Nat → Bool) (set inp : Nat) : 2 ^ ne_ N v set inp ≤ 1024 := Nat.le_trans (Nat.pow_le_pow_right (by decide) (ne_le N hW v set inp)) (by decide : 2 ^ 10 ≤ 1024)
theorem in_10 {N : Ne} (hW : WN N) (set : Nat) : inI N set (nn N) ≤ 10 := by
  have h10 : fb_ct (isB N) (nn N) ≤ 10 := hW.2.2.2.2.2.2.2
  refine Nat.le_trans (fb_ct_sub (fun k _ hk => ?_)) h10
  have := ((Bool.and_eq_true _ _).mp hk).1
  have : nk N k = 5 := by simpa using this
  exact isB_t (by omega)
theorem in_1024 {N : Ne} (hW : WN N) (set : Nat) : 2 ^ inI N set (nn N) ≤ 1024 := Nat.le_trans (Nat.pow_le_pow_right (by decide) (in_10 hW set)) (by decide : 2 ^ 10 ≤ 1024)
theorem at_O {N : Ne} {bd : Nat → Nat} {fs : Nat → Bool} {P : Pr} {k : Nat} {s : SI} {w : Wk} {set inp : Nat} (hW : WN N) (h : at_k N bd fs k s w) (h0 : 0 < set) (h16 : set < 16) (hi : inp < 1024) (hc : canB bd set (sq_t s)) : ∀ n, n ≤ 1024 → at_k N bd fs k s (wO N bd P k s set inp w n)
  | 0, _ => h
  | n + 1, hn => by
    have ih := at_O (P := P) hW h h0 h16 hi hc n (by omega)
    unfold wO
    by_cases q : wk_x (wO N bd P k s set inp w n) = true
    · rw [if_pos q]; exact ih
    · rw [if_neg q]; exact at_S hW ih h0 h16 hi (by omega) hc
theorem at_I {N : Ne} {bd : Nat → Nat} {fs : Nat → Bool} {P : Pr} {k : Nat} {s : SI} {w : Wk} {set : Nat} (hW : WN N) (h : at_k N bd fs k s w) (h0 : 0 < set) (h16 : set < 16) (hc : canB bd set (sq_t s)) : ∀ n, n ≤ 1024 → at_k N bd fs k s (wI N bd P k s set w n)
  | 0, _ => h
  | n + 1, hn => by
    have ih := at_I (P := P) hW h h0 h16 hc n (by omega)
    unfold wI
    by_cases q : wk_x (wI N bd P k s set w n) = true
    · rw [if_pos q]; exact ih
    · rw [if_neg q]; exact at_O hW ih h0 h16 (by omega) hc _ (ne_1024 hW _ _ _)
theorem at_Z {N : Ne} {bd : Nat → Nat} {fs : Nat → Bool} {P : Pr} {k : Nat} {s : SI} {w : Wk} (hW : WN N) (h : at_k N bd fs k s w) : ∀ n, n ≤ 16 → at_k N bd fs k s (wS N bd P k s w n)
  | 0, _ => h
  | n + 1, hn => by
    have ih := at_Z (P := P) hW h n (by omega)
    unfold wS
    by_cases q : wk_x (wS N bd P k s w n) = true ∨ ¬ okS N bd s n
    · rw [if_pos q]; exact ih
    · rw [if_neg q]
      have ok : okS N bd s n := Classical.byContradiction (fun z => q (Or.inr z))
      exact at_I hW ih ok.1 (by omega) ok.2.2 _ (in_1024 hW n)
/-- behind k states -/
def at_K (N : Ne) (bd : Nat → Nat) (fs : Nat → Bool) (k : Nat) (w : Wk) : Prop := WW N bd fs w ∧ WL w (wk_l w) ∧ wk_l w ≤ wk_s w ∧ (wk_x w = false → k ≤ wk_s w → wk_l w = k) ∧ (wk_x w = false → wk_s w < k → wk_l w = wk_s w) ∧ (wk_x w = true → wk_l w < wk_s w)
theorem at_K0 {N : Ne} {bd : Nat → Nat} {P : Pr} {fs : Nat → Bool} : at_K N bd fs 0 (wk0 N P fs) := by
  refine ⟨⟨⟨Nat.zero_lt_one, by show 1 ≤ 250; decide, by show 0 ≤ 20000; decide⟩, fun k hk => ?_, fun k hk h0 => ?_, rfl, fun j k hj hk => ?_, fun m hm => absurd hm (Nat.not_lt_zero m), fun p hp => ?_⟩, ⟨rfl, fun j hj => absurd hj (Nat.not_lt_zero j), fun j hj => absurd hj (Nat.not_lt_zero j), fun m _ hm => absurd hm (Nat.not_lt_zero m)⟩, Nat.zero_le _, fun _ _ => rfl, fun _ h => absurd h (Nat.not_lt_zero _), fun h => absurd h (by show ¬ false = true; decide)⟩
  · exact ⟨⟨pas_fz N fs, fun _ _ _ => rfl, fun i _ => Or.inr (Nat.zero_le _)⟩, Nat.zero_le _⟩
  · have hk : k < 1 := hk
    omega
  · have hk : k < 1 := hk
    omega
  · show (jdg N P _ _ _ true (-2) 0 0 0 0 p).2.2.2.2.2 < 1
    unfold jdg
    split <;> exact Nat.zero_lt_one
theorem at_of {N : Ne} {bd : Nat → Nat} {fs : Nat → Bool} {k : Nat} {w : Wk} (h : at_K N bd fs k w) (hx : wk_x w = false) (hk : k < wk_s w) : at_k N bd fs k (wk_i w k) w := by
  have e := h.2.2.2.1 hx (by omega)
  refine ⟨h.1, ?_, hk, rfl⟩
  have := h.2.1
  rw [e] at this; exact this
theorem at_clo {N : Ne} {bd : Nat → Nat} {fs : Nat → Bool} {k : Nat} {s : SI} {w : Wk} (h : at_k N bd fs k s w) (hx : wk_x w = false) : at_K N bd fs (k + 1) (clo w k) := by
  obtain ⟨h1, ⟨l1, l2, l3, l4⟩, h3, h4⟩ := h
  have oe : ∀ j, j ≤ k → opn (clo w k) j = opn w j := by
    intro j hj
    unfold opn
    by_cases q : j = 0
    · rw [if_pos q, if_pos q]
    · rw [if_neg q, if_neg q]; exact fu_n _ _ (by omega)
  have le : wk_l (clo w k) = k + 1 := by show wk_l w + 1 = k + 1; rw [l1]
  have ol : opn w k ≤ wk_m w := by
    unfold opn
    by_cases q : k = 0
    · rw [if_pos q]; omega
    · rw [if_neg q]; exact (l2 (k - 1) (by omega)).2
  refine ⟨h1, ?_, by rw [le]; exact h3, fun _ _ => le, fun _ q => absurd h3 (by have : wk_s w < k + 1 := q; omega), fun q => by have : wk_x w = true := q; rw [hx] at this; cases this⟩
  rw [le]
  refine ⟨le, fun j hj => ?_, fun j hj m hm1 hm2 => ?_, fun m hm1 hm2 => ?_⟩
  · rw [oe j (by omega)]
    by_cases q : j = k
    · rw [q]
      show opn w k ≤ fu (wk_c w) k (wk_m w) k ∧ fu (wk_c w) k (wk_m w) k ≤ wk_m w
      rw [fu_s]; exact ⟨ol, Nat.le_refl _⟩
    · show opn w j ≤ fu (wk_c w) k (wk_m w) j ∧ fu (wk_c w) k (wk_m w) j ≤ wk_m w
      rw [fu_n _ _ q]; exact l2 j (by omega)
  · rw [oe j (by omega)] at hm1
    have hm2 : m < fu (wk_c w) k (wk_m w) j := hm2
    by_cases q : j = k
    · rw [q, fu_s] at hm2
      rw [q] at hm1
      rw [q]; exact l4 m hm1 hm2
    · rw [fu_n _ _ q] at hm2
      exact l3 j (by omega) m hm1 hm2
  · have e : opn (clo w k) (k + 1) = wk_m w := by
      unfold opn
      rw [if_neg (by omega)]; exact fu_s _ _ _
    rw [e] at hm1
    have hm2 : m < wk_m w := hm2
    omega
theorem at_W {N : Ne} {bd : Nat → Nat} {P : Pr} {fs : Nat → Bool} (hW : WN N) : ∀ k, at_K N bd fs k (wK N bd P fs k)
  | 0 => at_K0
  | k + 1 => by
    have ih := at_W (P := P) (bd := bd) (fs := fs) hW k
    unfold wK
    by_cases q : wk_x (wK N bd P fs k) = true ∨ wk_s (wK N bd P fs k) ≤ k
    · rw [if_pos q]
      refine ⟨ih.1, ih.2.1, ih.2.2.1, fun hx hk => ?_, fun hx hk => ?_, ih.2.2.2.2.2⟩
      · rcases q with z | z
        · rw [z] at hx; cases hx
        · omega
      · rcases q with z | z
        · rw [z] at hx; cases hx
        · rcases (show wk_s (wK N bd P fs k) < k ∨ wk_s (wK N bd P fs k) = k by omega) with y | y
          · exact ih.2.2.2.2.1 hx y
          · rw [ih.2.2.2.1 hx (by omega), y]
    · rw [if_neg q]
      have hx : wk_x (wK N bd P fs k) = false := by
        cases z : wk_x (wK N bd P fs k) with
        | false => rfl
        | true => exact absurd (Or.inl z) q
      have hk : k < wk_s (wK N bd P fs k) := Nat.lt_of_not_le (fun z => q (Or.inr z))
      have h1 := at_Z (P := P) hW (at_of ih hx hk) 16 (Nat.le_refl _)
      by_cases q2 : wk_x (wS N bd P k (wk_i (wK N bd P fs k) k) (wK N bd P fs k) 16) = true
      · rw [if_pos q2]
        have e := h1.2.1.1
        refine ⟨h1.1, by rw [e]; exact h1.2.1, by rw [e]; have := h1.2.2.1; omega, fun z => (by rw [q2] at z; cases z), fun z => (by rw [q2] at z; cases z), fun _ => (by rw [e]; exact h1.2.2.1)⟩
      · rw [if_neg q2]
        exact at_clo h1 (by cases z : wk_x (wS N bd P k (wk_i (wK N bd P fs k) k) (wK N bd P fs k) 16) with | false => rfl | true => exact absurd z q2)
/-- all of the walk -/
noncomputable def wAll (N : Ne) (bd : Nat → Nat) (P : Pr) (fs : Nat → Bool) : Wk := wK N bd P fs 250
theorem all_W {N : Ne} {bd : Nat → Nat} {P : Pr} {fs : Nat → Bool} (hW : WN N) : WW N bd fs (wAll N bd P fs) ∧ WL (wAll N bd P fs) (wk_l (wAll N bd P fs)) ∧ wk_l (wAll N bd P fs) ≤ wk_s (wAll N bd P fs) := by
  unfold wAll
  generalize 250 = n
  have h := at_W (bd := bd) (P := P) (fs := fs) hW n
  exact ⟨h.1, h.2.1, h.2.2.1⟩
/-- once it has ended it stays so -/
theorem wO_end {N : Ne} {bd : Nat → Nat} {P : Pr} {k : Nat} {s : SI} {set inp : Nat} {w : Wk} {n : Nat} (h : wk_x (wO N bd P k s set inp w n) = true) : ∀ d, wO N bd P k s set inp w (n + d) = wO N bd P k s set inp w n
  | 0 => rfl
  | d + 1 => by
    have ih := wO_end h d
    rw [← Nat.add_assoc, wO, ih, if_pos h]
theorem wI_end {N : Ne} {bd : Nat → Nat} {P : Pr} {k : Nat} {s : SI} {set : Nat} {w : Wk} {n : Nat} (h : wk_x (wI N bd P k s set w n) = true) : ∀ d, wI N bd P k s set w (n + d) = wI N bd P k s set w n
  | 0 => rfl
  | d + 1 => by
    have ih := wI_end h d
    rw [← Nat.add_assoc, wI, ih, if_pos h]
theorem wS_end {N : Ne} {bd : Nat → Nat} {P : Pr} {k : Nat} {s : SI} {w : Wk} {n : Nat} (h : wk_x (wS N bd P k s w n) = true) : ∀ d, wS N bd P k s w (n + d) = wS N bd P k s w n
  | 0 => rfl
  | d + 1 => by
    have ih := wS_end h d
    rw [← Nat.add_assoc, wS, ih, if_pos (Or.inl h)]
theorem wK_end {N : Ne} {bd : Nat → Nat} {P : Pr} {fs : Nat → Bool} {n : Nat} (h : wk_x (wK N bd P fs n) = true ∨ wk_s (wK N bd P fs n) ≤ n) : ∀ d, wK N bd P fs (n + d) = wK N bd P fs n
  | 0 => rfl
  | d + 1 => by
    have ih := wK_end h d
    rw [← Nat.add_assoc, wK, ih, if_pos (h.imp id (fun z => by omega))]
theorem okS_0 {N : Ne} {bd : Nat → Nat} {s : SI} : ¬ okS N bd s 0 := fun h => absurd h.1 (Nat.lt_irrefl 0)
theorem wS_1 {N : Ne} {bd : Nat → Nat} {P : Pr} {k : Nat} {s : SI} {w : Wk} : wS N bd P k s w 1 = w := by
  rw [wS, if_pos (Or.inr okS_0), wS]
