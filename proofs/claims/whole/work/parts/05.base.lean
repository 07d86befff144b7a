/-- what the static row LOW_BITS holds -/
def lowF : Nat → Int64 := fun j => match j with
  | 0 => (-6148914691236517206 : Int64)
  | 1 => (-3689348814741910324 : Int64)
  | 2 => (-1085102592571150096 : Int64)
  | 3 => (-71777214294589696 : Int64)
  | 4 => (-281470681808896 : Int64)
  | _ => (-4294967296 : Int64)
/-! THE UNIFORM WORLD: a list of descriptors says what each cell is; a state is what their places hold -/
abbrev St : Type := (Nat → Nat → Int32) × (Nat → Nat → Int64)
abbrev Dsc : Type := (Nat × List Nat) ⊕ (Nat × Nat)
def upI (σ : St) (k j : Nat) (v : Int32) : St := (fun a => if a = k then upd (σ.1 k) j v else σ.1 a, σ.2)
def upJ (σ : St) (k j : Nat) (v : Int64) : St := (σ.1, fun a => if a = k then vp_updL (σ.2 k) j v else σ.2 a)
/-- a slot of an object: 0 an int, 1 a long, r + 2 the cell r -/
def sl_V (ad : Nat → Nat) (σ : St) (k j t : Nat) : Value := match t with
  | 0 => .int (σ.1 k j)
  | 1 => .long (σ.2 k j)
  | r + 2 => .ref (ad r)
/-- a cell: an object of kind ci with its slots, or an array (0 ints, 1 longs, else booleans) of n places -/
def ce_E (cy : Nat → ClassId) (ad : Nat → Nat) (σ : St) (k : Nat) (d : Dsc) : va_E := match d with
  | .inl (ci, ss) => .inr (ci, ss.mapIdx (fun j t => sl_V ad σ k j t))
  | .inr (t, n) => match t with
    | 0 => .inl (cy 0, n, .inl (σ.1 k))
    | 1 => .inl (cy 1, n, .inr (.inl (σ.2 k)))
    | _ + 2 => .inl (cy 2, n, .inl (σ.1 k))
def wld (cy : Nat → ClassId) (ad : Nat → Nat) (ds : List Dsc) (σ : St) : va_W := ds.mapIdx (fun k d => (ad k, ce_E cy ad σ k d))
abbrev tyl (cy : Nat → ClassId) : List (ClassId × FieldType) := [(cy 0, .int), (cy 1, .long), (cy 2, .boolean)]
theorem wld_at {cy : Nat → ClassId} {ad : Nat → Nat} {ds : List Dsc} {σ : St} {k : Nat} {d : Dsc} (h : ds[k]? = some d) : (wld cy ad ds σ)[k]? = some (ad k, ce_E cy ad σ k d) := by
  unfold wld
  rw [List.getElem?_mapIdx, h]
  rfl
theorem ce_off {cy : Nat → ClassId} {ad : Nat → Nat} {σ σ' : St} {k : Nat} (d : Dsc) (h1 : σ'.1 k = σ.1 k) (h2 : σ'.2 k = σ.2 k) : ce_E cy ad σ' k d = ce_E cy ad σ k d := by
  have hs : ∀ j t, sl_V ad σ' k j t = sl_V ad σ k j t := by
    intro j t
    match t with
    | 0 => simp only [sl_V, h1]
    | 1 => simp only [sl_V, h2]
    | r + 2 => rfl
  match d with
  | .inl (ci, ss) => simp only [ce_E, hs]
  | .inr (0, n) => simp only [ce_E, h1]
  | .inr (1, n) => simp only [ce_E, h2]
  | .inr (t + 2, n) => simp only [ce_E, h1]
theorem wld_set {cy : Nat → ClassId} {ad : Nat → Nat} {ds : List Dsc} {σ σ' : St} {k : Nat} {d : Dsc} (h : ds[k]? = some d) (h1 : ∀ a, a ≠ k → σ'.1 a = σ.1 a) (h2 : ∀ a, a ≠ k → σ'.2 a = σ.2 a) : (wld cy ad ds σ).set k (ad k, ce_E cy ad σ' k d) = wld cy ad ds σ' := by
  have hk : k < ds.length := (List.getElem?_eq_some_iff.mp h).1
  apply List.ext_getElem?
  intro i
  by_cases hi : i = k
  · subst hi
    rw [List.getElem?_set_self (by simp [wld]; exact hk), wld_at h]
  · rw [List.getElem?_set_ne (Ne.symm hi)]
    unfold wld
    rw [List.getElem?_mapIdx, List.getElem?_mapIdx]
    cases hd : ds[i]? with
    | none => rfl
    | some e => simp only [Option.map_some, ce_off (σ := σ) (σ' := σ') e (h1 i hi) (h2 i hi)]
theorem upI_off {σ : St} {k j : Nat} {v : Int32} : ∀ a, a ≠ k → (upI σ k j v).1 a = σ.1 a := fun a h => by simp only [upI, if_neg h]
theorem upI_at {σ : St} {k j : Nat} {v : Int32} : (upI σ k j v).1 k = upd (σ.1 k) j v := by simp only [upI, if_true]
theorem upJ_off {σ : St} {k j : Nat} {v : Int64} : ∀ a, a ≠ k → (upJ σ k j v).2 a = σ.2 a := fun a h => by simp only [upJ, if_neg h]
theorem upJ_at {σ : St} {k j : Nat} {v : Int64} : (upJ σ k j v).2 k = vp_updL (σ.2 k) j v := by simp only [upJ, if_true]
theorem sl_set {ad : Nat → Nat} {σ : St} {k j : Nat} {ss : List Nat} {v : Int32} (ht : ss[j]? = some 0) : (ss.mapIdx (fun i t => sl_V ad σ k i t)).set j (.int v) = ss.mapIdx (fun i t => sl_V ad (upI σ k j v) k i t) := by
  have hj : j < ss.length := (List.getElem?_eq_some_iff.mp ht).1
  apply List.ext_getElem?
  intro i
  by_cases hi : i = j
  · subst hi
    rw [List.getElem?_set_self (by simpa using hj), List.getElem?_mapIdx, ht]
    simp only [Option.map_some, sl_V, upI_at]
    simp [upd]
  · rw [List.getElem?_set_ne (Ne.symm hi), List.getElem?_mapIdx, List.getElem?_mapIdx]
    cases hd : ss[i]? with
    | none => rfl
    | some t =>
      match t with
      | 0 => simp only [Option.map_some, sl_V, upI_at]; simp [upd, hi]
      | 1 => rfl
      | r + 2 => rfl
theorem sl_setL {ad : Nat → Nat} {σ : St} {k j : Nat} {ss : List Nat} {v : Int64} (ht : ss[j]? = some 1) : (ss.mapIdx (fun i t => sl_V ad σ k i t)).set j (.long v) = ss.mapIdx (fun i t => sl_V ad (upJ σ k j v) k i t) := by
  have hj : j < ss.length := (List.getElem?_eq_some_iff.mp ht).1
  apply List.ext_getElem?
  intro i
  by_cases hi : i = j
  · subst hi
    rw [List.getElem?_set_self (by simpa using hj), List.getElem?_mapIdx, ht]
    simp only [Option.map_some, sl_V, upJ_at]
    simp [vp_updL]
  · rw [List.getElem?_set_ne (Ne.symm hi), List.getElem?_mapIdx, List.getElem?_mapIdx]
    cases hd : ss[i]? with
    | none => rfl
    | some t =>
      match t with
      | 0 => rfl
      | 1 => simp only [Option.map_some, sl_V, upJ_at]; simp [vp_updL, hi]
      | r + 2 => rfl
/-- what is known of a class: its place among vwCl, its words, its fields' types -/
def CBd (ci : Nat) (C : String) (T : u_T) (N : Nat) (ty : Nat → FieldType) : Prop := vwCl[ci]? = some (C, T, N) ∧ (∀ w ∈ u_ws C T N, w ∈ gAll) ∧ (∀ k, k < N → parseFieldDescriptor (T k).2.2.1 = some (ty k)) ∧ (∀ a, a < N → ∀ b, b < N → a ≠ b → (T a).2.1 ≠ (T b).2.1)
/-- the static row that nobody writes -/
def lowB (tL : Nat) (A : Nat → Prop) (U : State) (H : Heap) : Prop := va_Z "ClockCourt$Net" "LOW_BITS" "[J" (.ref tL) A U H ∧ va_T .long tL 6 (fun j => .long (lowF j)) A U H
/-! the words of the wp forms -/
def br (c A B : Prop) : Prop := (c → A) ∧ (¬ c → B)
def nm {α : Type} (e : α) (k : α → Prop) : Prop := ∀ x, x = e → k x
def jn {α : Type} (J : α) (body : α → Prop) : Prop := body J
def rd {α : Type} (f : Nat → α) (n : Nat) (i : Int32) (k : α → Prop) : Prop := vp_in i n ∧ ∀ v, v = f i.toNatClampNeg → k v
def ck (i : Int32) (n : Nat) (A : Prop) : Prop := vp_in i n ∧ A
section WI
variable {p : Program} {l : Launch} {e : Env} {R : Room} {s : State} {m : MethodId} {args : Array Value} {below : List Frame} {meth : Method} {c : Code} {H : Heap} {locs : List Loc} {cells slots : Nat} {Q : State → Prop}
variable {cc : ByteArray} {pc : Nat} {ls : Array Slot} {rest : List Value} {D : va_G} {cy : Nat → ClassId} {ad : Nat → Nat} {ds : List Dsc} {σ : St} {A : Nat → Prop} {H0 : Heap}
theorem wi_geti (hx : p.tables.exec = Jvm.exec) (hb : c.code = cc) (hg : ∀ w ∈ gAll, w.before args s = true) {own : String} (hown : s.vm.findClass own = some m.cls) (hK : va_K D vwCl (tyl cy) s) (hP : va_P D vwCl (wld cy ad ds σ) H) (k j : Nat) {ci : Nat} {ss : List Nat} (hk : ds[k]? = some (.inl (ci, ss))) (ht : ss[j]? = some 0) {C : String} {T : u_T} {N : Nat} {ty : Nat → FieldType} (hC : CBd ci C T N ty) (hj : j < N) {index : Nat} (hl : Cond.fieldLink own index (T j).1 (T j).2.1 (T j).2.2.1 ∈ gAll) (hd : decode cc pc = .ok (.getfield index, 3))
    (kk : W p l e R s m args below meth c H locs cells slots Q (F0 m (pc + 3) ls (.int (σ.1 k j) :: rest))) : W p l e R s m args below meth c H locs cells slots Q (F0 m pc ls (.ref (ad k) :: rest)) :=
  va_get hx hb hg hC.2.1 hown hK hP k (wld_at hk) hC.1 j hj (hg _ hl) (fun _ h => h) (by rw [List.getElem?_mapIdx, ht]; rfl) hd kk
theorem wi_getl (hx : p.tables.exec = Jvm.exec) (hb : c.code = cc) (hg : ∀ w ∈ gAll, w.before args s = true) {own : String} (hown : s.vm.findClass own = some m.cls) (hK : va_K D vwCl (tyl cy) s) (hP : va_P D vwCl (wld cy ad ds σ) H) (k j : Nat) {ci : Nat} {ss : List Nat} (hk : ds[k]? = some (.inl (ci, ss))) (ht : ss[j]? = some 1) {C : String} {T : u_T} {N : Nat} {ty : Nat → FieldType} (hC : CBd ci C T N ty) (hj : j < N) {index : Nat} (hl : Cond.fieldLink own index (T j).1 (T j).2.1 (T j).2.2.1 ∈ gAll) (hd : decode cc pc = .ok (.getfield index, 3))
    (kk : W p l e R s m args below meth c H locs cells slots Q (F0 m (pc + 3) ls (.long (σ.2 k j) :: rest))) : W p l e R s m args below meth c H locs cells slots Q (F0 m pc ls (.ref (ad k) :: rest)) :=
  va_get hx hb hg hC.2.1 hown hK hP k (wld_at hk) hC.1 j hj (hg _ hl) (fun _ h => h) (by rw [List.getElem?_mapIdx, ht]; rfl) hd kk
theorem wi_getr (hx : p.tables.exec = Jvm.exec) (hb : c.code = cc) (hg : ∀ w ∈ gAll, w.before args s = true) {own : String} (hown : s.vm.findClass own = some m.cls) (hK : va_K D vwCl (tyl cy) s) (hP : va_P D vwCl (wld cy ad ds σ) H) (k j r : Nat) {ci : Nat} {ss : List Nat} (hk : ds[k]? = some (.inl (ci, ss))) (ht : ss[j]? = some (r + 2)) {C : String} {T : u_T} {N : Nat} {ty : Nat → FieldType} (hC : CBd ci C T N ty) (hj : j < N) {index : Nat} (hl : Cond.fieldLink own index (T j).1 (T j).2.1 (T j).2.2.1 ∈ gAll) (hd : decode cc pc = .ok (.getfield index, 3))
    (kk : W p l e R s m args below meth c H locs cells slots Q (F0 m (pc + 3) ls (.ref (ad r) :: rest))) : W p l e R s m args below meth c H locs cells slots Q (F0 m pc ls (.ref (ad k) :: rest)) :=
  va_get hx hb hg hC.2.1 hown hK hP k (wld_at hk) hC.1 j hj (hg _ hl) (fun _ h => h) (by rw [List.getElem?_mapIdx, ht]; rfl) hd kk
theorem wi_puti (hx : p.tables.exec = Jvm.exec) (hb : c.code = cc) (hg : ∀ w ∈ gAll, w.before args s = true) {own : String} (hown : s.vm.findClass own = some m.cls) (hK : va_K D vwCl (tyl cy) s) (hP : va_P D vwCl (wld cy ad ds σ) H) (hD : va_D A (wld cy ad ds σ)) (hS : va_S A H0 H locs) (k j : Nat) {ci : Nat} {ss : List Nat} (hk : ds[k]? = some (.inl (ci, ss))) (ht : ss[j]? = some 0) {C : String} {T : u_T} {N : Nat} {ty : Nat → FieldType} (hC : CBd ci C T N ty) (hj : j < N) {index : Nat} (hl : Cond.fieldLink own index (T j).1 (T j).2.1 (T j).2.2.1 ∈ gAll) (hfin : (T j).2.2.2 = false) {v : Int32} (hn : narrow (ty j) (.int v) = .int v) (hf : fits (ty j) (.int v) = true) (hd : decode cc pc = .ok (.putfield index, 3))
    (kk : ∀ (σ1 : St), σ1 = upI σ k j v → ∀ (H1 : Heap) (locs1 : List Loc), va_P D vwCl (wld cy ad ds σ1) H1 → va_D A (wld cy ad ds σ1) → va_S A H0 H1 locs1 → W p l e R s m args below meth c H1 locs1 cells slots Q (F0 m (pc + 3) ls rest)) : W p l e R s m args below meth c H locs cells slots Q (F0 m pc ls (.int v :: .ref (ad k) :: rest)) := by
  have he : (wld cy ad ds σ).set k (ad k, .inr (ci, (ss.mapIdx (fun i t => sl_V ad σ k i t)).set j (.int v))) = wld cy ad ds (upI σ k j v) := by
    rw [sl_set ht]
    exact wld_set (σ' := upI σ k j v) hk upI_off (fun _ _ => rfl)
  refine va_put hx hb hg hC.2.1 ty hC.2.2.1 hC.2.2.2 hown hK hP hD hS k (wld_at hk) hC.1 j hj (hg _ hl) (fun _ h => h) hfin (hC.2.2.1 j hj) hn hf (by simpa using (List.getElem?_eq_some_iff.mp ht).1) hd (fun H1 locs1 h1 h2 h3 => ?_)
  rw [he] at h1 h2
  exact kk _ rfl H1 locs1 h1 h2 h3
theorem wi_putl (hx : p.tables.exec = Jvm.exec) (hb : c.code = cc) (hg : ∀ w ∈ gAll, w.before args s = true) {own : String} (hown : s.vm.findClass own = some m.cls) (hK : va_K D vwCl (tyl cy) s) (hP : va_P D vwCl (wld cy ad ds σ) H) (hD : va_D A (wld cy ad ds σ)) (hS : va_S A H0 H locs) (k j : Nat) {ci : Nat} {ss : List Nat} (hk : ds[k]? = some (.inl (ci, ss))) (ht : ss[j]? = some 1) {C : String} {T : u_T} {N : Nat} {ty : Nat → FieldType} (hC : CBd ci C T N ty) (hj : j < N) {index : Nat} (hl : Cond.fieldLink own index (T j).1 (T j).2.1 (T j).2.2.1 ∈ gAll) (hfin : (T j).2.2.2 = false) {v : Int64} (hn : narrow (ty j) (.long v) = .long v) (hf : fits (ty j) (.long v) = true) (hd : decode cc pc = .ok (.putfield index, 3))
    (kk : ∀ (σ1 : St), σ1 = upJ σ k j v → ∀ (H1 : Heap) (locs1 : List Loc), va_P D vwCl (wld cy ad ds σ1) H1 → va_D A (wld cy ad ds σ1) → va_S A H0 H1 locs1 → W p l e R s m args below meth c H1 locs1 cells slots Q (F0 m (pc + 3) ls rest)) : W p l e R s m args below meth c H locs cells slots Q (F0 m pc ls (.long v :: .ref (ad k) :: rest)) := by
  have he : (wld cy ad ds σ).set k (ad k, .inr (ci, (ss.mapIdx (fun i t => sl_V ad σ k i t)).set j (.long v))) = wld cy ad ds (upJ σ k j v) := by
    rw [sl_setL ht]
    exact wld_set (σ' := upJ σ k j v) hk (fun _ _ => rfl) upJ_off
  refine va_put hx hb hg hC.2.1 ty hC.2.2.1 hC.2.2.2 hown hK hP hD hS k (wld_at hk) hC.1 j hj (hg _ hl) (fun _ h => h) hfin (hC.2.2.1 j hj) hn hf (by simpa using (List.getElem?_eq_some_iff.mp ht).1) hd (fun H1 locs1 h1 h2 h3 => ?_)
  rw [he] at h1 h2
  exact kk _ rfl H1 locs1 h1 h2 h3
theorem wi_iald (hx : p.tables.exec = Jvm.exec) (hb : c.code = cc) (hK : va_K D vwCl (tyl cy) s) (hP : va_P D vwCl (wld cy ad ds σ) H) (k : Nat) {n : Nat} (hk : ds[k]? = some (.inr (0, n))) {i : Int32} (hin : vp_in i n) (hd : decode cc pc = .ok (.iaload, 1))
    (kk : ∀ v : Int32, v = σ.1 k i.toNatClampNeg → W p l e R s m args below meth c H locs cells slots Q (F0 m (pc + 1) ls (.int v :: rest))) : W p l e R s m args below meth c H locs cells slots Q (F0 m pc ls (.int i :: .ref (ad k) :: rest)) :=
  va_iald hx hb hK hP k 0 (wld_at hk) rfl hin hd (kk _ rfl)
theorem wi_zald (hx : p.tables.exec = Jvm.exec) (hb : c.code = cc) (hK : va_K D vwCl (tyl cy) s) (hP : va_P D vwCl (wld cy ad ds σ) H) (k : Nat) {n : Nat} (hk : ds[k]? = some (.inr (2, n))) {i : Int32} (hin : vp_in i n) (hd : decode cc pc = .ok (.baload, 1))
    (kk : ∀ v : Int32, v = σ.1 k i.toNatClampNeg → W p l e R s m args below meth c H locs cells slots Q (F0 m (pc + 1) ls (.int v :: rest))) : W p l e R s m args below meth c H locs cells slots Q (F0 m pc ls (.int i :: .ref (ad k) :: rest)) :=
  va_zald hx hb hK hP k 2 (wld_at hk) rfl hin hd (kk _ rfl)
theorem wi_lald (hx : p.tables.exec = Jvm.exec) (hb : c.code = cc) (hK : va_K D vwCl (tyl cy) s) (hP : va_P D vwCl (wld cy ad ds σ) H) (k : Nat) {n : Nat} (hk : ds[k]? = some (.inr (1, n))) {i : Int32} (hin : vp_in i n) (hd : decode cc pc = .ok (.laload, 1))
    (kk : ∀ v : Int64, v = σ.2 k i.toNatClampNeg → W p l e R s m args below meth c H locs cells slots Q (F0 m (pc + 1) ls (.long v :: rest))) : W p l e R s m args below meth c H locs cells slots Q (F0 m pc ls (.int i :: .ref (ad k) :: rest)) :=
  va_lald hx hb hK hP k 1 (wld_at hk) rfl hin hd (kk _ rfl)
theorem wi_iast (hx : p.tables.exec = Jvm.exec) (hb : c.code = cc) (hK : va_K D vwCl (tyl cy) s) (hP : va_P D vwCl (wld cy ad ds σ) H) (hD : va_D A (wld cy ad ds σ)) (hS : va_S A H0 H locs) (k : Nat) {n : Nat} (hk : ds[k]? = some (.inr (0, n))) {i v : Int32} (hin : vp_in i n) (hd : decode cc pc = .ok (.iastore, 1))
    (kk : ∀ (σ1 : St), σ1 = upI σ k i.toNatClampNeg v → ∀ (H1 : Heap) (locs1 : List Loc), va_P D vwCl (wld cy ad ds σ1) H1 → va_D A (wld cy ad ds σ1) → va_S A H0 H1 locs1 → W p l e R s m args below meth c H1 locs1 cells slots Q (F0 m (pc + 1) ls rest)) : W p l e R s m args below meth c H locs cells slots Q (F0 m pc ls (.int v :: .int i :: .ref (ad k) :: rest)) := by
  have he : (wld cy ad ds σ).set k (ad k, .inl (cy 0, n, .inl (upd (σ.1 k) i.toNatClampNeg v))) = wld cy ad ds (upI σ k i.toNatClampNeg v) := by
    rw [← upI_at (σ := σ)]
    exact wld_set (σ' := upI σ k i.toNatClampNeg v) hk upI_off (fun _ _ => rfl)
  refine va_iast hx hb hK hP hD hS k 0 (wld_at hk) rfl hin hd (fun H1 locs1 h1 h2 h3 => ?_)
  rw [he] at h1 h2
  exact kk _ rfl H1 locs1 h1 h2 h3
theorem wi_zast (hx : p.tables.exec = Jvm.exec) (hb : c.code = cc) (hK : va_K D vwCl (tyl cy) s) (hP : va_P D vwCl (wld cy ad ds σ) H) (hD : va_D A (wld cy ad ds σ)) (hS : va_S A H0 H locs) (k : Nat) {n : Nat} (hk : ds[k]? = some (.inr (2, n))) {i v : Int32} (hin : vp_in i n) (hd : decode cc pc = .ok (.bastore, 1))
    (kk : ∀ (σ1 : St), σ1 = upI σ k i.toNatClampNeg (vp_nar .boolean v) → ∀ (H1 : Heap) (locs1 : List Loc), va_P D vwCl (wld cy ad ds σ1) H1 → va_D A (wld cy ad ds σ1) → va_S A H0 H1 locs1 → W p l e R s m args below meth c H1 locs1 cells slots Q (F0 m (pc + 1) ls rest)) : W p l e R s m args below meth c H locs cells slots Q (F0 m pc ls (.int v :: .int i :: .ref (ad k) :: rest)) := by
  have he : (wld cy ad ds σ).set k (ad k, .inl (cy 2, n, .inl (upd (σ.1 k) i.toNatClampNeg (vp_nar .boolean v)))) = wld cy ad ds (upI σ k i.toNatClampNeg (vp_nar .boolean v)) := by
    rw [← upI_at (σ := σ)]
    exact wld_set (σ' := upI σ k i.toNatClampNeg (vp_nar .boolean v)) hk upI_off (fun _ _ => rfl)
  refine va_zast hx hb hK hP hD hS k 2 (wld_at hk) rfl hin hd (fun H1 locs1 h1 h2 h3 => ?_)
  rw [he] at h1 h2
  exact kk _ rfl H1 locs1 h1 h2 h3
theorem wi_last (hx : p.tables.exec = Jvm.exec) (hb : c.code = cc) (hK : va_K D vwCl (tyl cy) s) (hP : va_P D vwCl (wld cy ad ds σ) H) (hD : va_D A (wld cy ad ds σ)) (hS : va_S A H0 H locs) (k : Nat) {n : Nat} (hk : ds[k]? = some (.inr (1, n))) {i : Int32} {v : Int64} (hin : vp_in i n) (hd : decode cc pc = .ok (.lastore, 1))
    (kk : ∀ (σ1 : St), σ1 = upJ σ k i.toNatClampNeg v → ∀ (H1 : Heap) (locs1 : List Loc), va_P D vwCl (wld cy ad ds σ1) H1 → va_D A (wld cy ad ds σ1) → va_S A H0 H1 locs1 → W p l e R s m args below meth c H1 locs1 cells slots Q (F0 m (pc + 1) ls rest)) : W p l e R s m args below meth c H locs cells slots Q (F0 m pc ls (.long v :: .int i :: .ref (ad k) :: rest)) := by
  have he : (wld cy ad ds σ).set k (ad k, .inl (cy 1, n, .inr (.inl (vp_updL (σ.2 k) i.toNatClampNeg v)))) = wld cy ad ds (upJ σ k i.toNatClampNeg v) := by
    rw [← upJ_at (σ := σ)]
    exact wld_set (σ' := upJ σ k i.toNatClampNeg v) hk (fun _ _ => rfl) upJ_off
  refine va_last hx hb hK hP hD hS k 1 (wld_at hk) rfl hin hd (fun H1 locs1 h1 h2 h3 => ?_)
  rw [he] at h1 h2
  exact kk _ rfl H1 locs1 h1 h2 h3
theorem wi_alen0 (hx : p.tables.exec = Jvm.exec) (hb : c.code = cc) (hK : va_K D vwCl (tyl cy) s) (hP : va_P D vwCl (wld cy ad ds σ) H) (k : Nat) {n : Nat} (hk : ds[k]? = some (.inr (0, n))) {v : Int32} (hv : Int32.ofNat n = v) (hd : decode cc pc = .ok (.arraylength, 1))
    (kk : W p l e R s m args below meth c H locs cells slots Q (F0 m (pc + 1) ls (.int v :: rest))) : W p l e R s m args below meth c H locs cells slots Q (F0 m pc ls (.ref (ad k) :: rest)) :=
  va_alen hx hb hK hP k 0 (wld_at hk) rfl hv hd kk
theorem wi_alen1 (hx : p.tables.exec = Jvm.exec) (hb : c.code = cc) (hK : va_K D vwCl (tyl cy) s) (hP : va_P D vwCl (wld cy ad ds σ) H) (k : Nat) {n : Nat} (hk : ds[k]? = some (.inr (1, n))) {v : Int32} (hv : Int32.ofNat n = v) (hd : decode cc pc = .ok (.arraylength, 1))
    (kk : W p l e R s m args below meth c H locs cells slots Q (F0 m (pc + 1) ls (.int v :: rest))) : W p l e R s m args below meth c H locs cells slots Q (F0 m pc ls (.ref (ad k) :: rest)) :=
  va_alen hx hb hK hP k 1 (wld_at hk) rfl hv hd kk
end WI
