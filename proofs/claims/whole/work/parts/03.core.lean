/-! THE LAYER: a method's world is a state of ints (by cell and place) and longs over a fixed layout of cells; references are numbers of cells -/
abbrev zSt : Type := (Nat → Nat → Int32) × (Nat → Nat → Int64)
/-- a cell's shape: an object (its class's number; a field: .inl its kind (0 int, 1 boolean), .inr the cell that it refers to) or an array (kind 0 int, 1 long, 2 references; length; the first cell that it refers to) -/
abbrev zD : Type := (Nat × List (Nat ⊕ Nat)) ⊕ (Nat × Nat × Nat)
def zV (ad : Nat → Nat) : Value → Value
  | .ref k => .ref (ad k)
  | .int x => .int x
  | .long x => .long x
  | v => v
def zF (ad : Nat → Nat) (s : zSt) (k j : Nat) : Nat ⊕ Nat → Value
  | .inl _ => .int (s.1 k j)
  | .inr r => .ref (ad r)
def zC (ad : Nat → Nat) (cA : Nat → ClassId) (s : zSt) (k : Nat) : zD → va_E
  | .inl o => .inr (o.1, o.2.mapIdx (fun j f => zF ad s k j f))
  | .inr (0, n, _) => .inl (cA 0, n, .inl (s.1 k))
  | .inr (1, n, _) => .inl (cA 1, n, .inr (.inl (s.2 k)))
  | .inr (_ + 2, n, b) => .inl (cA 2, n, .inr (.inr (.inr (.inr (fun j => some (ad (b + 2 * j)))))))
def zW (ad : Nat → Nat) (cA : Nat → ClassId) (Λ : List zD) (s : zSt) : va_W := Λ.mapIdx (fun k d => (ad k, zC ad cA s k d))
def zTy (cA : Nat → ClassId) : List (ClassId × FieldType) := [(cA 0, .int), (cA 1, .long), (cA 2, .object "LemonGate$Shelf")]
theorem zW_get {ad : Nat → Nat} {cA : Nat → ClassId} {Λ : List zD} {s : zSt} {k : Nat} {d : zD} (h : Λ[k]? = some d) : (zW ad cA Λ s)[k]? = some (ad k, zC ad cA s k d) := by
  simp [zW, List.getElem?_mapIdx, h]
theorem zW_at {ad : Nat → Nat} {cA : Nat → ClassId} {Λ : List zD} {s : zSt} {k : Nat} {q : Nat × va_E} (h : (zW ad cA Λ s)[k]? = some q) : q.1 = ad k ∧ k < Λ.length := by
  simp only [zW, List.getElem?_mapIdx, Option.map_eq_some_iff] at h
  obtain ⟨d, h1, h2⟩ := h
  exact ⟨by rw [← h2], (List.getElem?_eq_some_iff.mp h1).1⟩
theorem zW_at2 {ad : Nat → Nat} {cA : Nat → ClassId} {Λ : List zD} {s : zSt} {k : Nat} (h : k < Λ.length) : ∃ e, (zW ad cA Λ s)[k]? = some (ad k, e) := ⟨_, zW_get (List.getElem?_eq_getElem h)⟩
theorem zD_to {ad : Nat → Nat} {cA : Nat → ClassId} {Λ : List zD} {s t : zSt} {A : Nat → Prop} (h : va_D A (zW ad cA Λ s)) : va_D A (zW ad cA Λ t) := by
  refine ⟨fun i j p q hi hj e => ?_, fun k q hk => ?_⟩
  · obtain ⟨a1, b1⟩ := zW_at hi
    obtain ⟨a2, b2⟩ := zW_at hj
    obtain ⟨e1, c1⟩ := zW_at2 (ad := ad) (cA := cA) (s := s) b1
    obtain ⟨e2, c2⟩ := zW_at2 (ad := ad) (cA := cA) (s := s) b2
    exact h.1 i j _ _ c1 c2 (by show ad i = ad j; rw [← a1, ← a2]; exact e)
  · obtain ⟨a1, b1⟩ := zW_at hk
    obtain ⟨e1, c1⟩ := zW_at2 (ad := ad) (cA := cA) (s := s) b1
    rw [a1]
    exact h.2 k _ c1
theorem zA_to {ad : Nat → Nat} {cA : Nat → ClassId} {Λ : List zD} {s t : zSt} {sz q : Nat} (h : va_A (zW ad cA Λ s) sz q) : va_A (zW ad cA Λ t) sz q := by
  rcases h with ⟨k, e, h⟩ | h
  · obtain ⟨a1, b1⟩ := zW_at h
    obtain ⟨e1, c1⟩ := zW_at2 (ad := ad) (cA := cA) (s := t) b1
    exact Or.inl ⟨k, e1, by rw [c1, ← a1]⟩
  · exact Or.inr h
theorem zA_in {ad : Nat → Nat} {cA : Nat → ClassId} {Λ : List zD} {s : zSt} {sz q : Nat} {A : Nat → Prop} (hD : va_D A (zW ad cA Λ s)) (hA : ∀ q : Nat, sz ≤ q → A q) (h : va_A (zW ad cA Λ s) sz q) : A q := by
  rcases h with ⟨k, e, h⟩ | h
  · exact hD.2 k _ h
  · exact hA q h
/-- a place of a cell becomes v -/
def zw (s : zSt) (k j : Nat) (v : Int32) : zSt := (fun a => if a = k then upd (s.1 k) j v else s.1 a, s.2)
def zwl (s : zSt) (k j : Nat) (v : Int64) : zSt := (s.1, fun a => if a = k then vp_updL (s.2 k) j v else s.2 a)
theorem zW_set {ad : Nat → Nat} {cA : Nat → ClassId} {Λ : List zD} {s t : zSt} {k : Nat} {d : zD} (h : Λ[k]? = some d) (h1 : ∀ j : Nat, j ≠ k → t.1 j = s.1 j ∧ t.2 j = s.2 j) : (zW ad cA Λ s).set k (ad k, zC ad cA t k d) = zW ad cA Λ t := by
  apply List.ext_getElem?
  intro i
  by_cases hi : i = k
  · subst hi
    have hl : i < (zW ad cA Λ s).length := by
      simp only [zW, List.length_mapIdx]
      exact (List.getElem?_eq_some_iff.mp h).1
    rw [List.getElem?_set_self hl, zW_get h]
  · rw [List.getElem?_set_ne (Ne.symm hi)]
    simp only [zW, List.getElem?_mapIdx]
    cases hd : Λ[i]? with
    | none => rfl
    | some x =>
      obtain ⟨e1, e2⟩ := h1 i hi
      simp only [Option.map_some]
      congr 2
      rcases x with o | ⟨_ | _ | n, m, b⟩ <;> simp only [zC, e1, e2]
      have hz : ∀ (j : Nat) (f : Nat ⊕ Nat), zF ad s i j f = zF ad t i j f := fun j f => by cases f <;> simp only [zF, e1]
      simp only [hz]
theorem zw_same (s : zSt) (k j : Nat) (v : Int32) : (zw s k j v).1 k = upd (s.1 k) j v := if_pos rfl
theorem zw_ne (s : zSt) (k j : Nat) (v : Int32) : ∀ a : Nat, a ≠ k → (zw s k j v).1 a = s.1 a ∧ (zw s k j v).2 a = s.2 a := fun a h => ⟨if_neg h, rfl⟩
theorem zwl_same (s : zSt) (k j : Nat) (v : Int64) : (zwl s k j v).2 k = vp_updL (s.2 k) j v := if_pos rfl
theorem zwl_ne (s : zSt) (k j : Nat) (v : Int64) : ∀ a : Nat, a ≠ k → (zwl s k j v).1 a = s.1 a ∧ (zwl s k j v).2 a = s.2 a := fun a h => ⟨rfl, if_neg h⟩
/-- a field of an object is written -/
theorem zC_put {ad : Nat → Nat} {cA : Nat → ClassId} {s : zSt} {k j : Nat} {o : Nat × List (Nat ⊕ Nat)} {kd : Nat} (h : o.2[j]? = some (.inl kd)) (v : Int32) : zC ad cA (zw s k j v) k (.inl o) = .inr (o.1, (o.2.mapIdx (fun j f => zF ad s k j f)).set j (.int v)) := by
  show Sum.inr (o.1, _) = Sum.inr (o.1, _)
  congr 2
  apply List.ext_getElem?
  intro i
  have hl : j < o.2.length := (List.getElem?_eq_some_iff.mp h).1
  by_cases hi : i = j
  · subst hi
    rw [List.getElem?_set_self (by simp only [List.length_mapIdx]; exact hl), List.getElem?_mapIdx, h]
    simp [zF, zw_same, upd]
  · rw [List.getElem?_set_ne (Ne.symm hi)]
    simp only [List.getElem?_mapIdx]
    cases o.2[i]? with
    | none => rfl
    | some f => cases f <;> simp [zF, zw_same, upd, hi]
/-! the good words of the tables; what the statics hold; nest mates -/
def zTb : List Cond := lw_tbl.filter goodWord
def zNest : Cond → Bool
  | .methodLinkNest .. => true
  | .fieldLinkNest .. => true
  | _ => false
def zNw : List Cond := tables_1.filter zNest
theorem zTb_in {w : Cond} (h : w ∈ lw_tbl) (hg : goodWord w = true) : w ∈ zTb := List.mem_filter.mpr ⟨h, hg⟩
theorem zTb_good : GoodIn zTb zTb := fun w h => ⟨h, good_of_word (List.mem_filter.mp h).2⟩
def zSx (ad : Nat → Nat) (A : Nat → Prop) (s : State) : Prop :=
  (∀ (j : Nat) (e : String × String × String × FieldType × List Int32), zTab[j]? = some e → va_Z e.1 e.2.1 e.2.2.1 (.ref (ad (1000 + j))) A s s.heap ∧ va_T e.2.2.2.1 (ad (1000 + j)) e.2.2.2.2.length (fun i => .int (e.2.2.2.2.getD i 0)) A s s.heap) ∧ ∀ w ∈ zNw, va_Nw w s
theorem zSx_vm {ad : Nat → Nat} {A : Nat → Prop} {s t : State} (h : zSx ad A s) (hh : t.heap = s.heap) (hv : t.vm = s.vm) : zSx ad A t := by
  refine ⟨fun j e he => ?_, fun w hw => ?_⟩
  · obtain ⟨h1, h2⟩ := h.1 j e he
    rw [hh]
    have hal : s.vm.Alike t.vm := by rw [hv]; exact Vm.Alike.refl _
    exact ⟨h1.moved hal, h2.moved hal⟩
  · have hon : w.onTables = true := by
      have := (List.mem_filter.mp hw).2
      cases w <;> first | rfl | cases this
    exact va_Nw.same hon hv.symm (h.2 w hw)
theorem zSx_call {ad : Nat → Nat} {A B : Nat → Prop} {s t : State} {H : Heap} {locs : List Loc} (h : zSx ad A s) (hS : va_S A s.heap H locs) (hh : t.heap = H) (hW : s.WarmedH t.vm) (hB : ∀ q, B q → A q) : zSx ad B t := by
  refine ⟨fun j e he => ?_, fun w hw => ?_⟩
  · obtain ⟨h1, h2⟩ := h.1 j e he
    rw [hh]
    exact ⟨((h1.kept (H1 := H) (fun a q1 q2 => hS.2.1 a q1 q2)).narrow hB).moved hW.alike, ((h2.kept (H1 := H) (fun a q1 q2 => hS.2.1 a q1 q2)).narrow hB).moved hW.alike⟩
  · have hz := (List.mem_filter.mp hw).2
    have h1 := h.2 w hw
    cases w <;> first | exact va_Nw.warmM hW h1 | exact va_Nw.warmF hW h1 | cases hz
/-- a method: its class's number, name, code, locals, answer, its instructions -/
abbrev zM : Type := Nat × MethodName × ByteArray × Nat × Option FieldType × List (Nat × Instr × Nat)
def zMok (M : zM) : Prop := (∀ e ∈ M.2.2.2.2.2, decode M.2.2.1 e.1 = .ok (e.2.1, e.2.2)) ∧ zNm M.1 = M.2.1.cls ∧ Cond.code M.2.1 M.2.2.1 M.2.2.2.1 M.2.2.2.2.1 ∈ lw_tbl ∧ plainFor M.2.1 = true
def zRm (d : Nat) : Room := { frames := d, cells := 0, slots := 0, locals := 64 * d }
def zCx (M : zM) (D : va_G) (cA : Nat → ClassId) (ad : Nat → Nat) (A : Nat → Prop) (p : Program) (s : State) (m : MethodId) (args : Array Value) (meth : Method) (c : Code) : Prop :=
  p.tables.exec = Jvm.exec ∧ c.code = M.2.2.1 ∧ c.maxLocals = M.2.2.2.1 ∧ meth.sig.returnType = M.2.2.2.2.1 ∧ meth.locks = false ∧ s.vm.findClass M.2.1.cls = some m.cls ∧ (∀ w ∈ zTb, w.before args s = true) ∧ va_K D zCl (zTy cA) s ∧ zSx ad A s ∧ (∀ q : Nat, s.heap.size ≤ q → A q)
/-- how a method ends -/
def zQ (D : va_G) (cA : Nat → ClassId) (ad : Nat → Nat) (A : Nat → Prop) (Λ : List zD) (res : Option Value × zSt) : Array Value → State → Outcome → State → Prop := fun _ st oc t =>
  oc = .returned (res.1.map (zV ad)) ∧ va_P D zCl (zW ad cA Λ res.2) t.heap ∧ va_F A st t
/-- from here the method's own code comes to its end with res -/
def zWA (M : zM) (Λ : List zD) (d : Nat) (res : Option Value × zSt) (pc : Nat) (ls : List (Nat × Value)) (st : List Value) (σ : zSt) : Prop :=
  zMok M → ∀ (p : Program) (l : Launch) (e : Env) (s : State) (m : MethodId) (args : Array Value) (below : List Frame) (meth : Method) (c : Code) (D : va_G) (cA : Nat → ClassId) (ad : Nat → Nat) (A : Nat → Prop),
    zCx M D cA ad A p s m args meth c → ∀ (H : Heap) (locs : List Loc) (lsC : Array Slot), va_P D zCl (zW ad cA Λ σ) H → va_D A (zW ad cA Λ σ) → va_S A s.heap H locs → lv_has lsC M.2.2.2.1 (ls.map (fun q => (q.1, zV ad q.2))) →
      W p l e (zRm d) s m args below meth c H locs 0 0 (MQ below (zQ D cA ad A Λ res) args s 0 0 A) (F0 m pc lsC (st.map (zV ad)))
/-- a contract -/
def zKp (M : zM) (Λ : List zD) (d : Nat) (As : List Value) (σ : zSt) (res : Option Value × zSt) : Prop :=
  ∀ (l : Launch) (D : va_G) (cA : Nat → ClassId) (ad : Nat → Nat) (sz : Nat), Met l M.2.1 (Cond.code M.2.1 M.2.2.1 M.2.2.2.1 M.2.2.2.2.1 :: zTb) (zRm d)
    (va_Pc (As.map (zV ad)) (fun U => U.heap.size = sz ∧ va_P D zCl (zW ad cA Λ σ) U.heap ∧ va_K D zCl (zTy cA) U ∧ va_D (fun _ => True) (zW ad cA Λ σ) ∧ zSx ad (va_A (zW ad cA Λ σ) sz) U))
    (zQ D cA ad (va_A (zW ad cA Λ σ) sz) Λ res) 0 0 (va_A (zW ad cA Λ σ) sz)
theorem zV_cat (ad : Nat → Nat) (v : Value) : (zV ad v).category = v.category := by cases v <;> rfl
theorem zV_cats (ad : Nat → Nat) (st : List Value) : ((st.map (zV ad)).map fun v => v.category) = st.map fun v => v.category := by
  rw [List.map_map]; exact List.map_congr_left (fun v _ => zV_cat ad v)
theorem zArgs (ad : Nat → Nat) (As : List Value) : ∀ i : Nat, lv_args i (As.map (zV ad)) = (lv_args i As).map (fun q => (q.1, zV ad q.2)) := by
  induction As with
  | nil => intro i; rfl
  | cons v vs ih => intro i; simp only [List.map_cons, lv_args, zV_cat, ih]
theorem zSl (ad : Nat → Nat) (As : List Value) : (lg_sl (As.map (zV ad))).length = (lg_sl As).length := by
  induction As with
  | nil => rfl
  | cons v vs ih =>
    simp only [lg_sl, List.map_cons, List.flatMap_cons, List.length_append] at ih ⊢
    rw [ih]
    cases v <;> rfl
/-- a contract out of the walk of the method's code -/
theorem zKp_of {M : zM} {Λ : List zD} {d : Nat} {As : List Value} {σ : zSt} {res : Option Value × zSt} (hM : zMok M) (hn : Nat.ble (lg_sl As).length M.2.2.2.1 = true) (h : zWA M Λ d res 0 (lv_args 0 As) [] σ) : zKp M Λ d As σ res := by
  intro l D cA ad sz
  refine va_MetF (cc := M.2.2.1) (maxL := M.2.2.2.1) (ret := M.2.2.2.2.1) hM.2.2.2 rfl ?_
  intro p e s m args below meth c s₁ B hml hv
  obtain ⟨rfl, hsz, hP, hK, hD0, hSx⟩ := hv
  have hts := atoms_spec (ws := Cond.code M.2.1 M.2.2.1 M.2.2.2.1 M.2.2.2.2.1 :: zTb) B.pre
  subst hsz
  have hD := hD0.self (sz := s.heap.size)
  have hl := lv_entry (As.map (zV ad)) (n := M.2.2.2.1) (by rw [zSl]; exact Nat.le_of_ble_eq_true hn)
  rw [lg_entry_eq]
  generalize (lg_sl (As.map (zV ad)) ++ List.replicate (M.2.2.2.1 - (lg_sl (As.map (zV ad))).length) Slot.unset).toArray = ls at hl ⊢
  rw [zArgs] at hl
  exact h hM p l e s m _ below meth c D cA ad (va_A (zW ad cA Λ σ) s.heap.size) ⟨B.exec, B.bytes, hml, B.returns, B.notSynchronized, findClass_of_methodNamed B.named, fun w hw => hts w (List.mem_cons_of_mem _ hw), hK, hSx, fun q hq => Or.inr hq⟩ s.heap [] ls hP hD va_S.rf hl
