/-! THE CLASS'S SHELVES: a world beside the fixed cells -/
abbrev SU : Type := (Nat → Option Nat) × List Nat × (Nat → va_E) × (Nat → Nat)
def shC (ad : Nat → Nat) (cH : ClassId) (f : Nat → Option Nat) : Nat × va_E := (ad 37, .inl (cH, 8, .inr (.inr (.inr (.inr f)))))
def shW (cy : Nat → ClassId) (ad : Nat → Nat) (cH : ClassId) (σ : St) (u : SU) : va_W := wld cy ad dsC σ ++ (shC ad cH u.1 :: va_pl u.2.1 u.2.2.1)
theorem shW_eq {cy : Nat → ClassId} {ad : Nat → Nat} {cH : ClassId} {σ : St} {u : SU} : shW cy ad cH σ u = (wld cy ad dsC σ ++ [shC ad cH u.1]) ++ va_pl u.2.1 u.2.2.1 := by
  unfold shW; rw [List.append_assoc]; rfl
theorem sh_get {cy : Nat → ClassId} {ad : Nat → Nat} {cH : ClassId} {σ : St} {u : SU} {a : Nat} (h : a ∈ u.2.1) : ∃ k : Nat, (shW cy ad cH σ u)[k]? = some (a, u.2.2.1 a) := by rw [shW_eq]; exact va_pl_get h
theorem sh_set {cy : Nat → ClassId} {ad : Nat → Nat} {cH : ClassId} {σ : St} {u : SU} (f : Nat → Option Nat) : (shW cy ad cH σ u).set ((wld cy ad dsC σ).length + 0) (shC ad cH f) = shW cy ad cH σ (f, u.2) := ax_set 0 _
theorem sh_setp {cy : Nat → ClassId} {ad : Nat → Nat} {cH : ClassId} {σ : St} {u : SU} {A : Nat → Prop} {a k : Nat} {e : va_E} (hD : va_D A (shW cy ad cH σ u)) (h : a ∈ u.2.1) (hk : (shW cy ad cH σ u)[k]? = some (a, u.2.2.1 a)) : (shW cy ad cH σ u).set k (a, e) = shW cy ad cH σ (u.1, u.2.1, va_up u.2.2.1 a e, u.2.2.2) := by
  rw [shW_eq] at hD hk ⊢
  rw [shW_eq]
  exact va_pl_set hD h hk
theorem sh_push {cy : Nat → ClassId} {ad : Nat → Nat} {cH : ClassId} {σ : St} {u : SU} {A : Nat → Prop} {q : Nat} {e : va_E} (hD : va_D A (shW cy ad cH σ u ++ [(q, e)])) : q ∉ u.2.1 ∧ shW cy ad cH σ u ++ [(q, e)] = shW cy ad cH σ (u.1, u.2.1 ++ [q], va_up u.2.2.1 q e, u.2.2.2) := by
  have h : q ∉ u.2.1 := by rw [shW_eq] at hD; exact va_pl_fresh2 hD
  refine ⟨h, ?_⟩
  rw [shW_eq, shW_eq, List.append_assoc, va_pl_push h]
/-- what fails: the clock of a held bit -/
def hfl (ki kl : Int32) : Int32 := if ki < 5 then -15 else kl
def SHd (cy : Nat → ClassId) (u : SU) (x : Sf) (d : Nat) : Prop :=
  (x.1 = 0 → u.1 d = none) ∧
  (x.1 = 1 → ∃ a nu ki kl so, u.1 d = some a ∧ a ∈ u.2.1 ∧ u.2.2.1 a = heC nu ki kl so ∧ hwg nu ki so = x.2.1 ∧ hfl ki kl = x.2.2.1) ∧
  (3 ≤ x.1 → ∃ a g, u.1 d = some a ∧ a ∈ u.2.1 ∧ u.2.2.2 d ∈ u.2.1 ∧ u.2.2.1 a = roC (nI x.1) (u.2.2.2 d) ∧ u.2.2.1 (u.2.2.2 d) = arC cy x.2.2.2.1 g ∧ ∀ j, j < x.2.2.2.1 → g j = x.2.2.2.2 j)
def SHL (cy : Nat → ClassId) (u : SU) (H : Nat → Sf) : Prop := (∀ d, d < 8 → shk (H d) ∧ SHd cy u (H d) d) ∧ ∀ d e, d < 8 → e < 8 → d ≠ e → 3 ≤ (H d).1 → 3 ≤ (H e).1 → u.2.2.2 d ≠ u.2.2.2 e
theorem SHd_mono {cy : Nat → ClassId} {u u' : SU} {x : Sf} {d : Nat} (hL : ∀ a, a ∈ u.2.1 → a ∈ u'.2.1 ∧ u'.2.2.1 a = u.2.2.1 a) (hf : u'.1 d = u.1 d) (hb : u'.2.2.2 d = u.2.2.2 d) (h : SHd cy u x d) : SHd cy u' x d := by
  refine ⟨fun z => by rw [hf]; exact h.1 z, fun z => ?_, fun z => ?_⟩
  · obtain ⟨a, nu, ki, kl, so, h1, h2, h3, h4⟩ := h.2.1 z
    exact ⟨a, nu, ki, kl, so, by rw [hf]; exact h1, (hL a h2).1, by rw [(hL a h2).2]; exact h3, h4⟩
  · obtain ⟨a, g, h1, h2, h3, h4, h5, h6⟩ := h.2.2 z
    exact ⟨a, g, by rw [hf]; exact h1, (hL a h2).1, by rw [hb]; exact (hL _ h3).1, by rw [hb, (hL a h2).2]; exact h4, by rw [hb, (hL _ h3).2]; exact h5, h6⟩
theorem SHL_up {cy : Nat → ClassId} {u u' : SU} {H : Nat → Sf} {d : Nat} {x : Sf} (hS : SHL cy u H) (hk : shk x) (hL : ∀ a, a ∈ u.2.1 → a ∈ u'.2.1 ∧ u'.2.2.1 a = u.2.2.1 a) (hf : ∀ e, e ≠ d → u'.1 e = u.1 e) (hb : ∀ e, e ≠ d → u'.2.2.2 e = u.2.2.2 e) (new : SHd cy u' x d) (apart : 3 ≤ x.1 → u'.2.2.2 d ∉ u.2.1) : SHL cy u' (fu H d x) := by
  have inL : ∀ e, e < 8 → 3 ≤ (H e).1 → u.2.2.2 e ∈ u.2.1 := fun e he z => by
    obtain ⟨a, g, h1, h2, h3, -⟩ := (hS.1 e he).2.2.2 z
    exact h3
  refine ⟨fun e he => ?_, fun e1 e2 h1 h2 hne z1 z2 => ?_⟩
  · by_cases z : e = d
    · subst z; rw [fu_s]; exact ⟨hk, new⟩
    · rw [fu_n _ _ z]
      exact ⟨(hS.1 e he).1, SHd_mono hL (hf e z) (hb e z) (hS.1 e he).2⟩
  · by_cases y1 : e1 = d
    · subst y1
      have y2 : e2 ≠ e1 := fun y => hne y.symm
      rw [fu_s] at z1
      rw [fu_n _ _ y2] at z2
      intro e
      apply apart z1
      rw [e, hb e2 y2]; exact inL e2 h2 z2
    · rw [fu_n _ _ y1] at z1
      by_cases y2 : e2 = d
      · subst y2
        rw [fu_s] at z2
        intro e
        apply apart z2
        rw [← e, hb e1 y1]; exact inL e1 h1 z1
      · rw [fu_n _ _ y2] at z2
        rw [hb e1 y1, hb e2 y2]
        exact hS.2 e1 e2 h1 h2 hne z1 z2
theorem c_isShelf {a : Int32} {post : Int32 → Prop} (h1 : ixI a 8 = none → post 0) (h2 : ∀ d, a = nI d → d < 8 → post 1) : w_X11_isShelf a post := by
  unfold w_X11_isShelf
  rcases ix1 (a := a) (n := 8) (by decide) with z | ⟨d, ed, hd, -⟩
  · refine br_2 (fun _ => h1 z) (fun g => ?_)
    rcases ixI_none (by decide) z with y | y
    · exact absurd y g
    · exact br_1 y (h1 z)
  · refine br_0 (by rw [ed]; exact nI_pos (by omega)) (br_0 (by rw [ed]; exact fun y => absurd ((nI_leI (a := 8) (by decide) (by omega)).mp y) (by omega)) (h2 d ed hd))
theorem sw_RX11_252 : SWd RX11 252 yX11_isShelf cX11_isShelf 1 (some .boolean) 1 := ⟨kw_521, kw_522, kw_390, kw_505, by decide, by decide, by decide +kernel⟩
def ShPre (D : va_G) (cy : Nat → ClassId) (ad : Nat → Nat) (tL : Nat) (cH : ClassId) (σ : St) (u : SU) (sz : Nat) : State → Prop := fun U => va_P D vwCl (shW cy ad cH σ u) U.heap ∧ va_K D vwCl (tyH cy cH) U ∧ va_D (fun _ => True) (shW cy ad cH σ u) ∧ lowB tL (va_A (shW cy ad cH σ u) sz) U U.heap ∧ yPre U
def ShBk (D : va_G) (cy : Nat → ClassId) (ad : Nat → Nat) (cH : ClassId) (σ : St) (A : Nat → Prop) : SU → State → Prop := fun u t => va_P D vwCl (shW cy ad cH σ u) t.heap ∧ va_K D vwCl (tyH cy cH) t ∧ va_D A (shW cy ad cH σ u)
section SHW
variable {p : Program} {l : Launch} {e : Env} {R : Room} {s : State} {m : MethodId} {args : Array Value} {below : List Frame} {meth : Method} {c : Code} {H : Heap} {locs : List Loc} {cells slots : Nat} {Q : State → Prop}
variable {cc : ByteArray} {pc nL : Nat} {ls : Array Slot} {rest : List Value} {D : va_G} {cy : Nat → ClassId} {ad : Nat → Nat} {tL : Nat} {cH : ClassId} {σ : St} {u : SU} {A : Nat → Prop} {w2 : va_W}
theorem w_isShelf {a : Int32} (hx : p.tables.exec = Jvm.exec) (hb : c.code = cc) (hml : c.maxLocals = nL) (hown : s.vm.findClass RX11 = some m.cls) (hg : ∀ w ∈ gAll, w.before args s = true) (hK : va_K D vwCl (tyH cy cH) s) (hP : va_P D vwCl (shW cy ad cH σ u) H) (hD : va_D A (shW cy ad cH σ u)) (hS : va_S A s.heap H locs) (hA : ∀ q : Nat, s.heap.size ≤ q → A q) (hLB : lowB tL A s s.heap) (hR : 1 ≤ R.frames ∧ 20 ≤ R.locals) (hf : cells ≤ R.cells ∧ slots ≤ R.slots) (hls : ls.size = nL) (hr : (rest.map fun v => v.category).sum ≤ 8) (hd : decode cc pc = .ok (.invokestatic 252, 3))
    (k0 : ixI a 8 = none → ∀ (H1 : Heap) (locs1 : List Loc), va_P D vwCl (shW cy ad cH σ u) H1 → va_S A s.heap H1 locs1 → W p l e R s m args below meth c H1 locs1 cells slots Q (F0 m (pc + 3) ls (.int 0 :: rest)))
    (k1 : ∀ d, a = nI d → d < 8 → ∀ (H1 : Heap) (locs1 : List Loc), va_P D vwCl (shW cy ad cH σ u) H1 → va_S A s.heap H1 locs1 → W p l e R s m args below meth c H1 locs1 cells slots Q (F0 m (pc + 3) ls (.int 1 :: rest))) : W p l e R s m args below meth c H locs cells slots Q (F0 m pc ls (.int a :: rest)) := by
  have hF := gcall_free hD hS hA
  refine va_calli (va_runS (As := [.int a]) (rest := rest) ⟨hx, hb, hml, hown, hg⟩ (c_X11_isShelf l D cy ad tL σ a (fun v => (v = 0 ∧ ixI a 8 = none) ∨ (v = 1 ∧ ∃ d, a = nI d ∧ d < 8)) (c_isShelf (fun z => Or.inl ⟨rfl, z⟩) (fun d h1 h2 => Or.inr ⟨rfl, d, h1, h2⟩)) H.size) (va_cwS 1 hg (goodS sw_RX11_252) rfl rfl rfl sw_RX11_252.2.2.2.2 hR) ⟨pre_blind, fun U hU hW => pre_ok (K_tyl hK) (vaP_l hP) (vaD_l hD) hS hA hLB U hU hW⟩ rfl rfl hls rfl (lv_room hr) hd hf) hS (fun q _ h => hF q h) hF (fun r u1 t H1 locs1 ht hvm hw hB hz1 hk1 hS1 => ?_)
  obtain ⟨hP1, hK1, hD1⟩ := hB
  obtain ⟨hw, rfl⟩ := hw
  rw [ht] at hP1
  have hP' : va_P D vwCl (shW cy ad cH σ u) H1 := va_P.app hP1 (w_join (vaP_r hP) hD hk1 hF hD1).1
  rcases hw with ⟨rfl, z⟩ | ⟨rfl, d, h1, h2⟩
  · exact k0 z H1 locs1 hP' hS1
  · exact k1 d h1 h2 H1 locs1 hP' hS1
theorem sh_iret {post : Int32 → SU → Prop} {v : Int32} {mc ms : Nat} (hx : p.tables.exec = Jvm.exec) (hb : c.code = cc) (hr : meth.sig.returnType = some .int) (hlk : meth.locks = false) (hK : va_K D vwCl (tyH cy cH) s) (hP : va_P D vwCl (shW cy ad cH σ u) H) (hD : va_D A (shW cy ad cH σ u)) (hS : va_S A s.heap H locs) (hc : cells ≤ mc ∧ slots ≤ ms) (hd : decode cc pc = .ok (.ireturn, 1)) (h : post v u) : W p l e R s m args below meth c H locs cells slots (MQ below (va_Qi post (ShBk D cy ad cH σ A) A) args s mc ms A) (F0 m pc ls [.int v]) :=
  W.widen (k := mc) (n := ms) hc.1 hc.2 (W.iret (v := v) hx hb hr (fun t ht hW => ⟨⟨v, u, rfl, h, by rw [ht]; exact hP, va_K.moved hW.alike hK, hD⟩, hS.F ht⟩) hS.2.2 hd hlk)
/-- a row comes to a shelf -/
theorem w_rowStore {o : Int32} {n q b d : Nat} {g : Nat → Int32} (hd8 : d < 8) (hx : p.tables.exec = Jvm.exec) (hb : c.code = cc) (hK : va_K D vwCl (tyH cy cH) s) (hY : yPre s) (hP : va_P D vwCl (shW cy ad cH σ u ++ [(q, roC o b), (b, arC cy n g)]) H) (hD : va_D A (shW cy ad cH σ u ++ [(q, roC o b), (b, arC cy n g)])) (hS : va_S A s.heap H locs) (hd : decode cc pc = .ok (.aastore, 1))
    (kk : ∀ (u1 : SU) (H1 : Heap) (locs1 : List Loc), (∀ (X : Nat → Sf) (x : Sf), SHL cy u X → shk x → 3 ≤ x.1 → o = nI x.1 → n = x.2.2.2.1 → (∀ j, j < n → g j = x.2.2.2.2 j) → SHL cy u1 (fu X d x)) → va_P D vwCl (shW cy ad cH σ u1) H1 → va_D A (shW cy ad cH σ u1) → va_S A s.heap H1 locs1 → W p l e R s m args below meth c H1 locs1 cells slots Q (F0 m (pc + 1) ls rest)) : W p l e R s m args below meth c H locs cells slots Q (F0 m pc ls (.ref q :: .int (nI d) :: .ref (ad 37) :: rest)) := by
  have e2 : shW cy ad cH σ u ++ [(q, roC o b), (b, arC cy n g)] = (shW cy ad cH σ u ++ [(q, roC o b)]) ++ [(b, arC cy n g)] := by rw [List.append_assoc]; rfl
  rw [e2] at hP hD
  have p1 := sh_push (vaD_l hD)
  rw [p1.2] at hP hD
  have p2 := sh_push hD
  rw [p2.2] at hP hD
  have nq : q ∉ u.2.1 := p1.1
  have nb : b ∉ u.2.1 ∧ b ≠ q := ⟨fun z => p2.1 (List.mem_append_left _ z), fun z => p2.1 (by rw [z]; exact List.mem_append_right _ (List.mem_singleton.mpr rfl))⟩
  obtain ⟨k, hk⟩ := sh_get (cy := cy) (ad := ad) (cH := cH) (σ := σ) (u := (u.1, (u.2.1 ++ [q]) ++ [b], va_up (va_up u.2.2.1 q (roC o b)) b (arC cy n g), u.2.2.2)) (a := q) (List.mem_append_left _ (List.mem_append_right _ (List.mem_singleton.mpr rfl)))
  have hq : va_up (va_up u.2.2.1 q (roC o b)) b (arC cy n g) q = roC o b := by rw [va_up_ne _ _ (fun z => nb.2 z.symm), va_up_self]
  refine va_astqO (E := "ClockCourt$Held") (ci := 4) (r := (RX6, TX6, 2)) hx hb hK hP hD hS ((wld cy ad dsC σ).length + 0) 3 k (ax_at 0) rfl hY.2.2.2.1 (by rw [hk]; exact congrArg (fun z => some (q, z)) hq) rfl (in_nI hd8 (by decide)) hd (fun H1 locs1 hP hD hS => ?_)
  rw [cl_nI (by omega)] at hP hD
  have es := sh_set (cy := cy) (ad := ad) (cH := cH) (σ := σ) (u := (u.1, (u.2.1 ++ [q]) ++ [b], va_up (va_up u.2.2.1 q (roC o b)) b (arC cy n g), u.2.2.2)) (va_up u.1 d (some q))
  refine kk (va_up u.1 d (some q), (u.2.1 ++ [q]) ++ [b], va_up (va_up u.2.2.1 q (roC o b)) b (arC cy n g), va_up u.2.2.2 d b) H1 locs1 (fun X x hX hk h3 ho hn hg => ?_) (by
    have h := hP
    rw [show ((ad 37, (.inl (cH, 8, .inr (.inr (.inr (.inr (va_up u.1 d (some q)))))) : va_E)) : Nat × va_E) = shC ad cH (va_up u.1 d (some q)) from rfl, es] at h
    exact h) (by
    have h := hD
    rw [show ((ad 37, (.inl (cH, 8, .inr (.inr (.inr (.inr (va_up u.1 d (some q)))))) : va_E)) : Nat × va_E) = shC ad cH (va_up u.1 d (some q)) from rfl, es] at h
    exact h) hS
  have ub : va_up u.2.2.2 d b d = b := va_up_self _ _ _
  refine SHL_up hX hk (fun a ha => ⟨List.mem_append_left _ (List.mem_append_left _ ha), ?_⟩) (fun e he => va_up_ne _ _ he) (fun e he => va_up_ne _ _ he) ⟨fun z => by omega, fun z => by omega, fun _ => ⟨q, g, va_up_self _ _ _, List.mem_append_left _ (List.mem_append_right _ (List.mem_singleton.mpr rfl)), ?_, ?_, ?_, ?_⟩⟩ (fun _ => ?_)
  · show va_up (va_up u.2.2.1 q (roC o b)) b (arC cy n g) a = u.2.2.1 a
    rw [va_up_ne _ _ (fun z => nb.1 (by rw [← z]; exact ha)), va_up_ne _ _ (fun z => nq (by rw [← z]; exact ha))]
  · show va_up u.2.2.2 d b d ∈ (u.2.1 ++ [q]) ++ [b]
    rw [ub]; exact List.mem_append_right _ (List.mem_singleton.mpr rfl)
  · show va_up (va_up u.2.2.1 q (roC o b)) b (arC cy n g) q = roC (nI x.1) (va_up u.2.2.2 d b d)
    rw [ub, hq, ho]
  · show va_up (va_up u.2.2.1 q (roC o b)) b (arC cy n g) (va_up u.2.2.2 d b d) = arC cy x.2.2.2.1 g
    rw [ub, va_up_self, hn]
  · intro j hj; exact hg j (by omega)
  · show va_up u.2.2.2 d b d ∉ u.2.1
    rw [ub]; exact nb.1
end SHW
