/-! CONSTRUCTORS 1: walking code that makes cells -/
abbrev zGx : Type := Program × Launch × Env × Room × State × MethodId × Array Value × List Frame × Method × Code × (State → Prop) × va_G × (Nat → Prop) × Nat
def zG (X : zGx) (pc : Nat) (ls : List (Nat × Value)) (st : List Value) (w : va_W) (cells slots : Nat) : Prop := match X with
  | (p, l, e, R, s0, m, args, below, meth, c, Q, D, A, nL) => ∀ (H : Heap) (locs : List Loc) (lsC : Array Slot), va_P D zCl w H → va_D A w → va_S A s0.heap H locs → lv_has lsC nL ls → W p l e R s0 m args below meth c H locs cells slots Q (F0 m pc lsC st)
def zGc (X : zGx) (own : String) (cc : ByteArray) (cA : Nat → ClassId) (ad : Nat → Nat) : Prop := match X with
  | (p, _, _, _, s0, m, args, _, _, c, _, D, A, nL) => p.tables.exec = Jvm.exec ∧ c.code = cc ∧ c.maxLocals = nL ∧ s0.vm.findClass own = some m.cls ∧ (∀ w ∈ zTb, w.before args s0 = true) ∧ va_K D zCl (zTy cA) s0 ∧ (∀ q : Nat, s0.heap.size ≤ q → A q) ∧ zSx ad A s0 ∧ va_AO "LemonGate$Shelf" s0
def zGm (X : zGx) : Method := X.2.2.2.2.2.2.2.2.1
def zGr (X : zGx) : Room := X.2.2.2.1
theorem zObjC : Cond.code Lib.objectInit ⟨#[0xb1]⟩ 1 none ∈ tables_1 := List.mem_of_getElem? (i := 24) (by decide +kernel)
theorem zObjI : Cond.instanceMethod Lib.objectInit ∈ tables_1 := List.mem_of_getElem? (i := 23) (by decide +kernel)
theorem zArrI : Cond.arrayClass .int ∈ tables_1 := List.mem_of_getElem? (i := 55) (by decide +kernel)
theorem zArrL : Cond.arrayClass .long ∈ tables_1 := List.mem_of_getElem? (i := 298) (by decide +kernel)
section ZGR
variable {X : zGx} {own : String} {cc : ByteArray} {cA : Nat → ClassId} {ad : Nat → Nat} {pc : Nat} {ls : List (Nat × Value)} {st rest : List Value} {w : va_W} {cells slots : Nat}
theorem zg_iconst (C : zGc X own cc cA ad) {n : Int} {v : Int32} (hdg : decode cc pc = .ok (.iconst n, 1)) (hv : Int32.ofInt n = v) (k : zG X (pc + 1) ls (.int v :: st) w cells slots) : zG X pc ls st w cells slots := by
  obtain ⟨p, l, e, R, s0, m, args, below, meth, c, Q, D, A, nL⟩ := X
  obtain ⟨hx, hb, hml, hown, hts, hK, hA, hSx, hAO⟩ := C
  intro H locs lsC hP hD hS hl
  exact lv_iconst hx hb hdg hv (k H locs lsC hP hD hS hl)
theorem zg_bipush (C : zGc X own cc cA ad) {n : Int} {v : Int32} (hdg : decode cc pc = .ok (.bipush n, 2)) (hv : (Int8.ofInt n).toInt32 = v) (k : zG X (pc + 2) ls (.int v :: st) w cells slots) : zG X pc ls st w cells slots := by
  obtain ⟨p, l, e, R, s0, m, args, below, meth, c, Q, D, A, nL⟩ := X
  obtain ⟨hx, hb, hml, hown, hts, hK, hA, hSx, hAO⟩ := C
  intro H locs lsC hP hD hS hl
  exact lv_bipush hx hb hdg hv (k H locs lsC hP hD hS hl)
theorem zg_sipush (C : zGc X own cc cA ad) {n : Int} {v : Int32} (hdg : decode cc pc = .ok (.sipush n, 3)) (hv : (Int16.ofInt n).toInt32 = v) (k : zG X (pc + 3) ls (.int v :: st) w cells slots) : zG X pc ls st w cells slots := by
  obtain ⟨p, l, e, R, s0, m, args, below, meth, c, Q, D, A, nL⟩ := X
  obtain ⟨hx, hb, hml, hown, hts, hK, hA, hSx, hAO⟩ := C
  intro H locs lsC hP hD hS hl
  exact lv_sipush hx hb hdg hv (k H locs lsC hP hD hS hl)
theorem zg_aload (C : zGc X own cc cA ad) {kk : Fin 4} {i j a : Nat} (hdg : decode cc pc = .ok (.aload_n kk, 1)) (hi : (kk : Nat) = i) (hk : ls[j]? = some (i, .ref a)) (k : zG X (pc + 1) ls (.ref a :: st) w cells slots) : zG X pc ls st w cells slots := by
  obtain ⟨p, l, e, R, s0, m, args, below, meth, c, Q, D, A, nL⟩ := X
  obtain ⟨hx, hb, hml, hown, hts, hK, hA, hSx, hAO⟩ := C
  intro H locs lsC hP hD hS hl
  exact lv_aload_n hx hb hdg hi (lv_at hl j hk) (k H locs lsC hP hD hS hl)
theorem zg_iload (C : zGc X own cc cA ad) {kk : Fin 4} {i j : Nat} {x : Int32} (hdg : decode cc pc = .ok (.iload_n kk, 1)) (hi : (kk : Nat) = i) (hk : ls[j]? = some (i, .int x)) (k : zG X (pc + 1) ls (.int x :: st) w cells slots) : zG X pc ls st w cells slots := by
  obtain ⟨p, l, e, R, s0, m, args, below, meth, c, Q, D, A, nL⟩ := X
  obtain ⟨hx, hb, hml, hown, hts, hK, hA, hSx, hAO⟩ := C
  intro H locs lsC hP hD hS hl
  exact lv_iload_n hx hb hdg hi (lv_at hl j hk) (k H locs lsC hP hD hS hl)
theorem zg_dup (C : zGc X own cc cA ad) {v : Value} (hdg : decode cc pc = .ok (.dup, 1)) (hv : v.category = 1) (k : zG X (pc + 1) ls (v :: v :: rest) w cells slots) : zG X pc ls (v :: rest) w cells slots := by
  obtain ⟨p, l, e, R, s0, m, args, below, meth, c, Q, D, A, nL⟩ := X
  obtain ⟨hx, hb, hml, hown, hts, hK, hA, hSx, hAO⟩ := C
  intro H locs lsC hP hD hS hl
  exact lv_dup hx hb hdg hv (k H locs lsC hP hD hS hl)
theorem zg_istore (C : zGc X own cc cA ad) {kk : Fin 4} {i : Nat} {x : Int32} {ls' : List (Nat × Value)} (hdg : decode cc pc = .ok (.istore_n kk, 1)) (hi : (kk : Nat) = i) (hn : i < X.2.2.2.2.2.2.2.2.2.2.2.2.2) (hl' : (i, Value.int x) :: ls.filter (fun q => !(q.1 == i) && !(q.1 + 1 == i && q.2.category == 2)) = ls') (k : zG X (pc + 1) ls' rest w cells slots) : zG X pc ls (.int x :: rest) w cells slots := by
  obtain ⟨p, l, e, R, s0, m, args, below, meth, c, Q, D, A, nL⟩ := X
  obtain ⟨hx, hb, hml, hown, hts, hK, hA, hSx, hAO⟩ := C
  intro H locs lsC hP hD hS hl
  exact lv_istore_n hx hb hdg hi hl hn hl' (fun lsC' hl2 => k H locs lsC' hP hD hS hl2)
theorem zg_astore (C : zGc X own cc cA ad) {kk : Fin 4} {i a : Nat} {ls' : List (Nat × Value)} (hdg : decode cc pc = .ok (.astore_n kk, 1)) (hi : (kk : Nat) = i) (hn : i < X.2.2.2.2.2.2.2.2.2.2.2.2.2) (hl' : (i, Value.ref a) :: ls.filter (fun q => !(q.1 == i) && !(q.1 + 1 == i && q.2.category == 2)) = ls') (k : zG X (pc + 1) ls' rest w cells slots) : zG X pc ls (.ref a :: rest) w cells slots := by
  obtain ⟨p, l, e, R, s0, m, args, below, meth, c, Q, D, A, nL⟩ := X
  obtain ⟨hx, hb, hml, hown, hts, hK, hA, hSx, hAO⟩ := C
  intro H locs lsC hP hD hS hl
  exact lv_astore_n hx hb hdg hi hl hn hl' (fun lsC' hl2 => k H locs lsC' hP hD hS hl2)
theorem zg_iinc (C : zGc X own cc cA ad) {i j : Nat} {n : Int} {x v : Int32} {ls' : List (Nat × Value)} (hdg : decode cc pc = .ok (.iinc i n, 3)) (hk : ls[j]? = some (i, .int x)) (hv : x + Int32.ofInt n = v) (hn : i < X.2.2.2.2.2.2.2.2.2.2.2.2.2) (hl' : (i, Value.int v) :: ls.filter (fun q => !(q.1 == i) && !(q.1 + 1 == i && q.2.category == 2)) = ls') (k : zG X (pc + 3) ls' st w cells slots) : zG X pc ls st w cells slots := by
  obtain ⟨p, l, e, R, s0, m, args, below, meth, c, Q, D, A, nL⟩ := X
  obtain ⟨hx, hb, hml, hown, hts, hK, hA, hSx, hAO⟩ := C
  intro H locs lsC hP hD hS hl
  exact lv_iinc hx hb hdg hl hk hv hn hl' (fun lsC' hl2 => k H locs lsC' hP hD hS hl2)
theorem zg_goto (C : zGc X own cc cA ad) {off : Int} {tgt : Nat} (hdg : decode cc pc = .ok (.goto off, 3)) (ht : (pc : Int) + off = (tgt : Int)) (k : zG X tgt ls st w cells slots) : zG X pc ls st w cells slots := by
  obtain ⟨p, l, e, R, s0, m, args, below, meth, c, Q, D, A, nL⟩ := X
  obtain ⟨hx, hb, hml, hown, hts, hK, hA, hSx, hAO⟩ := C
  intro H locs lsC hP hD hS hl
  exact lv_goto hx hb hdg ht (k H locs lsC hP hD hS hl)
theorem zg_icmpge (C : zGc X own cc cA ad) {x y : Int32} {off : Int} {tgt : Nat} (hdg : decode cc pc = .ok (.if_icmp .ge off, 3)) (ht : (pc : Int) + off = (tgt : Int)) (k1 : y ≤ x → zG X tgt ls rest w cells slots) (k2 : ¬ y ≤ x → zG X (pc + 3) ls rest w cells slots) : zG X pc ls (.int y :: .int x :: rest) w cells slots := by
  obtain ⟨p, l, e, R, s0, m, args, below, meth, c, Q, D, A, nL⟩ := X
  obtain ⟨hx, hb, hml, hown, hts, hK, hA, hSx, hAO⟩ := C
  intro H locs lsC hP hD hS hl
  exact lv_icmp_ge hx hb hdg ht (fun h => k1 h H locs lsC hP hD hS hl) (fun h => k2 h H locs lsC hP hD hS hl)
theorem zg_obj (C : zGc X own cc cA ad) {idx a : Nat} (hl' : Cond.methodLink own idx Lib.objectInit ∈ tables_1) (hdg : decode cc pc = .ok (.invokespecial idx, 3)) (hf : Nat.ble 1 (zGr X).frames = true) (hlo : Nat.ble ((rest.map fun v => v.category).sum + 12) (zGr X).locals = true) (k : zG X (pc + 3) ls rest w cells slots) : zG X pc ls (.ref a :: rest) w cells slots := by
  obtain ⟨p, l, e, R, s0, m, args, below, meth, c, Q, D, A, nL⟩ := X
  obtain ⟨hx, hb, hml, hown, hts, hK, hA, hSx, hAO⟩ := C
  intro H locs lsC hP hD hS hl
  have h2 : (rest.map fun v => v.category).sum + 12 ≤ R.locals := Nat.le_of_ble_eq_true hlo
  refine W.objInit hx hb hown (hts _ (zTb_of hl' rfl)) (hts _ (zTb_of zObjI rfl)) (hts _ (zTb_of zObjC rfl)) rfl (hl.1.trans hml.symm) rfl hdg (Nat.le_of_ble_eq_true hf) ?_ ?_
  · show 2 * 0 + (rest.map fun v => v.category).sum + 12 ≤ R.locals
    omega
  · exact k H locs lsC hP hD hS hl
theorem zg_new (C : zGc X own cc cA ad) {ci idx N : Nat} {Cn : String} {T : u_T} {fs : List Value} (ty : Nat → FieldType) (hty : ∀ k, k < N → parseFieldDescriptor (T k).2.2.1 = some (ty k)) (hc : zCl[ci]? = some (Cn, T, N)) (hcl : Cond.classLink own idx Cn ∈ tables_1) (hin : Cond.instantiable Cn N ∈ tables_1) (hini : Cond.initialized Cn ∈ tables_1) (hfs : ∀ j, j < N → defaultValue (ty j) = vp_V fs j) (hdg : decode cc pc = .ok (.new idx, 3)) (hcap : Nat.ble (cells + 1) (zGr X).cells = true ∧ Nat.ble (slots + N) (zGr X).slots = true)
    (k : ∀ q : Nat, zG X (pc + 3) ls (.ref q :: st) (w ++ [(q, .inr (ci, fs))]) (cells + 1) (slots + N)) : zG X pc ls st w cells slots := by
  obtain ⟨p, l, e, R, s0, m, args, below, meth, c, Q, D, A, nL⟩ := X
  obtain ⟨hx, hb, hml, hown, hts, hK, hA, hSx, hAO⟩ := C
  intro H locs lsC hP hD hS hl
  exact va_new hx hb hts (zlays_in hc) ty hty hown (hts _ (zTb_of hcl rfl)) (hts _ (zTb_of hin rfl)) (hts _ (zTb_of hini rfl)) hK hP hD hS hA hc hfs (Nat.le_of_ble_eq_true hcap.1) (Nat.le_of_ble_eq_true hcap.2) hdg (fun q H1 hP1 hD1 hS1 => k q H1 locs lsC hP1 hD1 hS1 hl)
theorem zg_newI (C : zGc X own cc cA ad) {n : Int32} {N : Nat} (hn : ¬ n < 0) (hN : n.toNatClampNeg = N) (hbytes : Nat.ble (N * 4) 536870912 = true) (hdg : decode cc pc = .ok (.newarray .int, 2)) (hcap : Nat.ble (cells + 1) (zGr X).cells = true ∧ Nat.ble (slots + N) (zGr X).slots = true)
    (k : ∀ q : Nat, zG X (pc + 2) ls (.ref q :: rest) (w ++ [(q, .inl (cA 0, N, .inl (fun _ => 0)))]) (cells + 1) (slots + N)) : zG X pc ls (.int n :: rest) w cells slots := by
  obtain ⟨p, l, e, R, s0, m, args, below, meth, c, Q, D, A, nL⟩ := X
  obtain ⟨hx, hb, hml, hown, hts, hK, hA, hSx, hAO⟩ := C
  intro H locs lsC hP hD hS hl
  refine va_newaK (atype := .int) hx hb (hts _ (zTb_of zArrI rfl)) rfl hdg rfl hn hN (Nat.le_of_ble_eq_true hbytes) (Nat.le_of_ble_eq_true hcap.1) (Nat.le_of_ble_eq_true hcap.2) rfl fun H1 c0 e1 z1 o1 _ hNm => ?_
  have e0 : c0 = cA 0 := by
    have h2 := (hK.2 0 _ rfl).2
    exact Option.some.inj (hNm.symm.trans h2)
  subst e0
  have hk : ∀ (k : Nat) (x : Nat × va_E), w[k]? = some x → H1[x.1]? = H[x.1]? := fun k x hx => o1 x.1 ((hP k x hx).lt)
  refine k H.size H1 locs lsC ((hP.kept hk).app (fun k x hx => ?_)) (hD.push hP rfl (hA _ hS.1)) ⟨Nat.le_trans hS.1 (by omega), fun x h1 h2 => (o1 x (Nat.lt_of_lt_of_le h1 hS.1)).trans (hS.2.1 x h1 h2), hS.2.2⟩ hl
  have hz : k < 1 := (List.getElem?_eq_some_iff.mp hx).1
  rw [show k = 0 by omega] at hx
  cases hx
  show H1[H.size]? = some (vp_cell _ _)
  rw [vp_cell_i]
  exact e1
theorem zg_newL (C : zGc X own cc cA ad) {n : Int32} {N : Nat} (hn : ¬ n < 0) (hN : n.toNatClampNeg = N) (hbytes : Nat.ble (N * 8) 536870912 = true) (hdg : decode cc pc = .ok (.newarray .long, 2)) (hcap : Nat.ble (cells + 1) (zGr X).cells = true ∧ Nat.ble (slots + N) (zGr X).slots = true)
    (k : ∀ q : Nat, zG X (pc + 2) ls (.ref q :: rest) (w ++ [(q, .inl (cA 1, N, .inr (.inl (fun _ => 0))))]) (cells + 1) (slots + N)) : zG X pc ls (.int n :: rest) w cells slots := by
  obtain ⟨p, l, e, R, s0, m, args, below, meth, c, Q, D, A, nL⟩ := X
  obtain ⟨hx, hb, hml, hown, hts, hK, hA, hSx, hAO⟩ := C
  intro H locs lsC hP hD hS hl
  refine va_newaK (atype := .long) hx hb (hts _ (zTb_of zArrL rfl)) rfl hdg rfl hn hN (Nat.le_of_ble_eq_true hbytes) (Nat.le_of_ble_eq_true hcap.1) (Nat.le_of_ble_eq_true hcap.2) rfl fun H1 c0 e1 z1 o1 _ hNm => ?_
  have e0 : c0 = cA 1 := by
    have h2 := (hK.2 1 _ rfl).2
    exact Option.some.inj (hNm.symm.trans h2)
  subst e0
  have hk : ∀ (k : Nat) (x : Nat × va_E), w[k]? = some x → H1[x.1]? = H[x.1]? := fun k x hx => o1 x.1 ((hP k x hx).lt)
  refine k H.size H1 locs lsC ((hP.kept hk).app (fun k x hx => ?_)) (hD.push hP rfl (hA _ hS.1)) ⟨Nat.le_trans hS.1 (by omega), fun x h1 h2 => (o1 x (Nat.lt_of_lt_of_le h1 hS.1)).trans (hS.2.1 x h1 h2), hS.2.2⟩ hl
  have hz : k < 1 := (List.getElem?_eq_some_iff.mp hx).1
  rw [show k = 0 by omega] at hx
  cases hx
  show H1[H.size]? = some (vp_cell _ _)
  rw [vp_cell_l]
  exact e1
theorem zg_newQ (C : zGc X own cc cA ad) {idx : Nat} {n : Int32} {N : Nat} (hl' : Cond.classLink own idx "LemonGate$Shelf" ∈ tables_1) (hn : ¬ n < 0) (hN : n.toNatClampNeg = N) (hbytes : Nat.ble (N * 4) 536870912 = true) (hdg : decode cc pc = .ok (.anewarray idx, 3)) (hcap : Nat.ble (cells + 1) (zGr X).cells = true ∧ Nat.ble (slots + N) (zGr X).slots = true)
    (k : ∀ q : Nat, zG X (pc + 3) ls (.ref q :: rest) (w ++ [(q, .inl (cA 2, N, .inr (.inr (.inr (.inr (fun _ => none))))))]) (cells + 1) (slots + N)) : zG X pc ls (.int n :: rest) w cells slots := by
  obtain ⟨p, l, e, R, s0, m, args, below, meth, c, Q, D, A, nL⟩ := X
  obtain ⟨hx, hb, hml, hown, hts, hK, hA, hSx, hAO⟩ := C
  intro H locs lsC hP hD hS hl
  refine va_newq hx hb hown (hts _ (zTb_of hl' rfl)) hAO hK hP hD hS hA hn hN (Nat.le_of_ble_eq_true hbytes) (Nat.le_of_ble_eq_true hcap.1) (Nat.le_of_ble_eq_true hcap.2) hdg (fun q c0 H1 hK1 hP1 hD1 hS1 => ?_)
  have e0 : c0 = cA 2 := by
    obtain ⟨k1, c1, -, -, -, h4⟩ := (hK.2 2 _ rfl).2
    obtain ⟨k2, c2, -, -, -, g4⟩ := (hK1.2 3 _ rfl).2
    exact Option.some.inj (g4.symm.trans h4)
  subst e0
  exact k q H1 locs lsC hP1 hD1 hS1 hl
theorem zg_putF (C : zGc X own cc cA ad) {ci idx N q0 kf a : Nat} {T : u_T} {fs : List Value} {ty0 : Nat → FieldType} {ty : FieldType} {v : Value} (hnm : (zGm X).name = "<init>") (hty : ∀ k, k < N → parseFieldDescriptor (T k).2.2.1 = some (ty0 k)) (hnn : ∀ a, a < N → ∀ b, b < N → a ≠ b → (T a).2.1 ≠ (T b).2.1) (hc : zCl[ci]? = some (own, T, N)) (he : w[q0]? = some (a, .inr (ci, fs))) (hk : kf < N) (hlink : Cond.fieldLink own idx own (T kf).2.1 (T kf).2.2.1 ∈ tables_1) (hrf : (T kf).1 = own) (hfin : (T kf).2.2.2 = true) (hd : parseFieldDescriptor (T kf).2.2.1 = some ty) (hn : narrow ty v = v) (hfit : fits ty v = true) (hlen : kf < fs.length) (hdg : decode cc pc = .ok (.putfield idx, 3))
    (k : zG X (pc + 3) ls rest (w.set q0 (a, .inr (ci, fs.set kf v))) cells slots) : zG X pc ls (v :: .ref a :: rest) w cells slots := by
  obtain ⟨p, l, e, R, s0, m, args, below, meth, c, Q, D, A, nL⟩ := X
  obtain ⟨hx, hb, hml, hown, hts, hK, hA, hSx, hAO⟩ := C
  intro H locs lsC hP hD hS hl
  exact va_putF hx hb hts (zlays_in hc) ty0 hty hnn hown hK hP hD hS q0 he hc kf hk (hts _ (zTb_of hlink rfl)) (fun _ h => by rw [hrf] at h; exact h) hfin hnm hrf hd hn hfit hlen hdg (fun H1 locs1 hP1 hD1 hS1 => k H1 locs1 lsC hP1 hD1 hS1 hl)
theorem zg_put (C : zGc X own cc cA ad) {ci idx N q0 kf a : Nat} {T : u_T} {fs : List Value} {ty0 : Nat → FieldType} {ty : FieldType} {v : Value} (hty : ∀ k, k < N → parseFieldDescriptor (T k).2.2.1 = some (ty0 k)) (hnn : ∀ a, a < N → ∀ b, b < N → a ≠ b → (T a).2.1 ≠ (T b).2.1) (hc : zCl[ci]? = some (own, T, N)) (he : w[q0]? = some (a, .inr (ci, fs))) (hk : kf < N) (hlink : Cond.fieldLink own idx own (T kf).2.1 (T kf).2.2.1 ∈ tables_1) (hrf : (T kf).1 = own) (hfin : (T kf).2.2.2 = false) (hd : parseFieldDescriptor (T kf).2.2.1 = some ty) (hn : narrow ty v = v) (hfit : fits ty v = true) (hlen : kf < fs.length) (hdg : decode cc pc = .ok (.putfield idx, 3))
    (k : zG X (pc + 3) ls rest (w.set q0 (a, .inr (ci, fs.set kf v))) cells slots) : zG X pc ls (v :: .ref a :: rest) w cells slots := by
  obtain ⟨p, l, e, R, s0, m, args, below, meth, c, Q, D, A, nL⟩ := X
  obtain ⟨hx, hb, hml, hown, hts, hK, hA, hSx, hAO⟩ := C
  intro H locs lsC hP hD hS hl
  exact va_put hx hb hts (zlays_in hc) ty0 hty hnn hown hK hP hD hS q0 he hc kf hk (hts _ (zTb_of hlink rfl)) (fun _ h => by rw [hrf] at h; exact h) hfin hd hn hfit hlen hdg (fun H1 locs1 hP1 hD1 hS1 => k H1 locs1 lsC hP1 hD1 hS1 hl)
theorem zg_get (C : zGc X own cc cA ad) {ci idx N q0 kf a : Nat} {T : u_T} {fs : List Value} {v : Value} (hc : zCl[ci]? = some (own, T, N)) (he : w[q0]? = some (a, .inr (ci, fs))) (hk : kf < N) (hlink : Cond.fieldLink own idx own (T kf).2.1 (T kf).2.2.1 ∈ tables_1) (hrf : (T kf).1 = own) (hv : fs[kf]? = some v) (hdg : decode cc pc = .ok (.getfield idx, 3))
    (k : zG X (pc + 3) ls (v :: rest) w cells slots) : zG X pc ls (.ref a :: rest) w cells slots := by
  obtain ⟨p, l, e, R, s0, m, args, below, meth, c, Q, D, A, nL⟩ := X
  obtain ⟨hx, hb, hml, hown, hts, hK, hA, hSx, hAO⟩ := C
  intro H locs lsC hP hD hS hl
  exact va_get hx hb hts (zlays_in hc) hown hK hP q0 he hc kf hk (hts _ (zTb_of hlink rfl)) (fun _ h => by rw [hrf] at h; exact h) hv hdg (k H locs lsC hP hD hS hl)
theorem zg_iast (C : zGc X own cc cA ad) {q0 n a j : Nat} {f : Nat → Int32} {i x : Int32} (he : w[q0]? = some (a, .inl (cA 0, n, .inl f))) (hin : vp_in i n) (hj : i.toNatClampNeg = j) (hdg : decode cc pc = .ok (.iastore, 1))
    (k : zG X (pc + 1) ls rest (w.set q0 (a, .inl (cA 0, n, .inl (upd f j x)))) cells slots) : zG X pc ls (.int x :: .int i :: .ref a :: rest) w cells slots := by
  obtain ⟨p, l, e, R, s0, m, args, below, meth, c, Q, D, A, nL⟩ := X
  obtain ⟨hx, hb, hml, hown, hts, hK, hA, hSx, hAO⟩ := C
  subst hj
  intro H locs lsC hP hD hS hl
  exact va_iast hx hb hK hP hD hS q0 0 he rfl hin hdg (fun H1 locs1 hP1 hD1 hS1 => k H1 locs1 lsC hP1 hD1 hS1 hl)
theorem zg_aast (C : zGc X own cc cA ad) {q0 qk n a v ci j : Nat} {T : u_T} {N : Nat} {f : Nat → Option Nat} {vs : List Value} {i : Int32} (he : w[q0]? = some (a, .inl (cA 2, n, .inr (.inr (.inr (.inr f)))))) (hv : w[qk]? = some (v, .inr (ci, vs))) (hc : zCl[ci]? = some ("LemonGate$Shelf", T, N)) (hin : vp_in i n) (hj : i.toNatClampNeg = j) (hdg : decode cc pc = .ok (.aastore, 1))
    (k : zG X (pc + 1) ls rest (w.set q0 (a, .inl (cA 2, n, .inr (.inr (.inr (.inr (va_up f j (some v)))))))) cells slots) : zG X pc ls (.ref v :: .int i :: .ref a :: rest) w cells slots := by
  obtain ⟨p, l, e, R, s0, m, args, below, meth, c, Q, D, A, nL⟩ := X
  obtain ⟨hx, hb, hml, hown, hts, hK, hA, hSx, hAO⟩ := C
  subst hj
  intro H locs lsC hP hD hS hl
  exact va_astq hx hb hK hP hD hS q0 2 qk ci he rfl hv hc hin hdg (fun H1 locs1 hP1 hD1 hS1 => k H1 locs1 lsC hP1 hD1 hS1 hl)
end ZGR
