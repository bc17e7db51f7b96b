/-! CONSTRUCTORS 2: contracts, calls, ends -/
def zSy (ad : Nat → Nat) (A : Nat → Prop) (s : State) : Prop := zSx ad A s ∧ va_AO "LemonGate$Shelf" s
def zQi (D : va_G) (cA : Nat → ClassId) (h0 n : Nat) (g : (Nat → ClassId) → Nat → List Nat → va_W) (A : Nat → Prop) : Array Value → State → Outcome → State → Prop := fun _ st oc t =>
  oc = .returned none ∧ (∃ qs : List Nat, qs.length = n ∧ va_P D zCl (g cA h0 qs) t.heap ∧ va_D A (g cA h0 qs)) ∧ va_F A st t
def zKi (M : zM) (R : Room) (mc ms n : Nat) (o0 : Nat × List Value) (g : (Nat → ClassId) → Nat → List Nat → va_W) : Prop :=
  ∀ (l : Launch) (D : va_G) (cA : Nat → ClassId) (ad : Nat → Nat) (h0 sz : Nat), Met l M.2.1 (Cond.code M.2.1 M.2.2.1 M.2.2.2.1 M.2.2.2.2.1 :: zTb) R
    (va_Pc [.ref h0] (fun U => U.heap.size = sz ∧ va_P D zCl [(h0, .inr o0)] U.heap ∧ va_K D zCl (zTy cA) U ∧ va_D (fun _ => True) [(h0, .inr o0)] ∧ zSy ad (va_A [(h0, .inr o0)] sz) U))
    (zQi D cA h0 n g (va_A [(h0, .inr o0)] sz)) mc ms (va_A [(h0, .inr o0)] sz)
theorem zKi_of {M : zM} {R : Room} {mc ms n : Nat} {o0 : Nat × List Value} {g : (Nat → ClassId) → Nat → List Nat → va_W} (hM : zMok M) (hn1 : Nat.ble 1 M.2.2.2.1 = true) (hr0 : M.2.2.2.2.1 = none) (hname : M.2.1.name = "<init>")
    (h : ∀ (p : Program) (l : Launch) (e : Env) (s : State) (m : MethodId) (args : Array Value) (below : List Frame) (meth : Method) (c : Code) (D : va_G) (cA : Nat → ClassId) (ad : Nat → Nat) (A : Nat → Prop) (h0 : Nat), zGc (p, l, e, R, s, m, args, below, meth, c, MQ below (zQi D cA h0 n g A) args s mc ms A, D, A, M.2.2.2.1) M.2.1.cls M.2.2.1 cA ad → meth.name = "<init>" → meth.sig.returnType = none → meth.locks = false →
      zG (p, l, e, R, s, m, args, below, meth, c, MQ below (zQi D cA h0 n g A) args s mc ms A, D, A, M.2.2.2.1) 0 [(0, .ref h0)] [] [(h0, .inr o0)] 0 0) : zKi M R mc ms n o0 g := by
  intro l D cA ad h0 sz
  refine va_MetF (cc := M.2.2.1) (maxL := M.2.2.2.1) (ret := M.2.2.2.2.1) hM.2.2.2 rfl ?_
  intro p e s m args below meth c s₁ B hml hv
  obtain ⟨rfl, hsz, hP, hK, hD0, hSx, hAO⟩ := hv
  have hts := atoms_spec (ws := Cond.code M.2.1 M.2.2.1 M.2.2.2.1 M.2.2.2.2.1 :: zTb) B.pre
  subst hsz
  have hD := hD0.self (sz := s.heap.size)
  have hl := lv_entry ([.ref h0]) (n := M.2.2.2.1) (Nat.le_of_ble_eq_true hn1)
  have hin : meth.name = "<init>" := (name_of_methodNamed B.named B.method).1.trans hname
  rw [lg_entry_eq]
  generalize (lg_sl ([.ref h0]) ++ List.replicate (M.2.2.2.1 - (lg_sl ([.ref h0])).length) Slot.unset).toArray = ls at hl ⊢
  exact h p l e s m _ below meth c D cA ad (va_A [(h0, .inr o0)] s.heap.size) h0 ⟨B.exec, B.bytes, hml, findClass_of_methodNamed B.named, fun w hw => hts w (List.mem_cons_of_mem _ hw), hK, fun q hq => Or.inr hq, hSx, hAO⟩ hin (B.returns.trans hr0) B.notSynchronized s.heap [] ls hP hD va_S.rf hl
/-- the caller's other cells, the callee's world behind them -/
theorem zjoin {A : Nat → Prop} {D : va_G} {cl : List vw_C} {wr wc w1 : va_W} {H H1 : Heap} (hP : va_P D cl (wr ++ wc) H) (hD : va_D A (wr ++ wc)) (hk : ∀ q : Nat, q < H.size → ¬ va_A wc H.size q → H1[q]? = H[q]?) (hF : ∀ q, va_A wc H.size q → A q) (hP1 : va_P D cl w1 H1) (hD1 : va_D (va_A wc H.size) w1) : va_P D cl (wr ++ w1) H1 ∧ va_D A (wr ++ w1) := by
  have inl : ∀ (k : Nat) (q : Nat × va_E), wr[k]? = some q → k < wr.length ∧ (wr ++ wc)[k]? = some q := fun k q h => by
    have hl := (List.getElem?_eq_some_iff.mp h).1
    exact ⟨hl, by rw [List.getElem?_append_left hl]; exact h⟩
  have inr : ∀ (k : Nat) (q : Nat × va_E), wc[k]? = some q → (wr ++ wc)[wr.length + k]? = some q := fun k q h => by
    rw [List.getElem?_append_right (by omega), show wr.length + k - wr.length = k by omega]; exact h
  have apart : ∀ (k : Nat) (q : Nat × va_E), wr[k]? = some q → q.1 < H.size ∧ ¬ va_A wc H.size q.1 := by
    intro k q hq
    obtain ⟨hlen, h2⟩ := inl k q hq
    have hl := (hP k q h2).lt
    refine ⟨hl, fun h => ?_⟩
    rcases h with ⟨k2, e, h⟩ | h
    · have := hD.1 k (wr.length + k2) q (q.1, e) h2 (inr k2 _ h) rfl
      omega
    · omega
  refine ⟨va_P.app (fun k q hq => ?_) hP1, va_D.app ⟨fun i j x y hx hy e => ?_, fun k q hq => hD.2 k q (inl k q hq).2⟩ (hD1.weaken (fun k q _ h => hF q.1 h)) (fun i j x y hx hy hxy => ?_)⟩
  · obtain ⟨g1, g2⟩ := apart k q hq
    exact (hP k q (inl k q hq).2).kept (hk q.1 g1 g2)
  · exact hD.1 i j x y (inl i x hx).2 (inl j y hy).2 e
  · exact (apart i x hx).2 (by rw [hxy]; exact hD1.2 j y hy)
theorem zsub_r {A : Nat → Prop} {D : va_G} {cl : List vw_C} {wr wc : va_W} {H : Heap} (hP : va_P D cl (wr ++ wc) H) (hD : va_D A (wr ++ wc)) : va_P D cl wc H ∧ va_D A wc := by
  have inr : ∀ (k : Nat) (q : Nat × va_E), wc[k]? = some q → (wr ++ wc)[wr.length + k]? = some q := fun k q h => by
    rw [List.getElem?_append_right (by omega), show wr.length + k - wr.length = k by omega]; exact h
  refine ⟨fun k q h => hP _ q (inr k q h), fun i j x y hx hy e => ?_, fun k q h => hD.2 _ q (inr k q h)⟩
  have := hD.1 _ _ x y (inr i x hx) (inr j y hy) e
  omega
theorem zA_free {A : Nat → Prop} {wc : va_W} {H0 H : Heap} {locs : List Loc} (hD : va_D A wc) (hS : va_S A H0 H locs) (hA : ∀ q, H0.size ≤ q → A q) : ∀ q, va_A wc H.size q → A q := by
  intro q h
  rcases h with ⟨k, e, h⟩ | h
  · exact hD.2 k _ h
  · exact hA q (Nat.le_trans hS.1 h)
section ZGI
variable {X : zGx} {own : String} {cc : ByteArray} {cA : Nat → ClassId} {ad : Nat → Nat} {pc : Nat} {ls : List (Nat × Value)} {st rest : List Value} {w : va_W} {cells slots : Nat}
/-- a constructor of ours is called on an object just made -/
theorem zg_init (C : zGc X own cc cA ad) {M : zM} {R' : Room} {mc ms n idx a : Nat} {o0 : Nat × List Value} {g : (Nat → ClassId) → Nat → List Nat → va_W} {wr : va_W} (hK' : zKi M R' mc ms n o0 g) (hM : zMok M) (hl' : Cond.methodLink own idx M.2.1 ∈ tables_1 ∨ Cond.methodLinkNest own idx M.2.1 "LemonGate" ∈ tables_1) (hinst : Cond.instanceMethod M.2.1 ∈ tables_1) (hini : Cond.initialized M.2.1.cls ∈ tables_1) (hnm : M.2.1.name = "<init>") (hd : M.2.1.cls ≠ "java/lang/invoke/MethodHandle" ∧ M.2.1.cls ≠ "java/lang/invoke/VarHandle" ∧ (parseMethodDescriptor M.2.1.desc).map (fun d => d.parameters.length) = some 0) (hret : M.2.2.2.2.1 = none) (hR : Nat.ble (R'.frames + 1) (zGr X).frames = true ∧ Nat.ble (8 + (M.2.2.2.1 + 11) + R'.locals) (zGr X).locals = true) (hrc : R'.cells = mc) (hrs : R'.slots = ms) (hdg : decode cc pc = .ok (.invokespecial idx, 3)) (hcap : Nat.ble (cells + mc) (zGr X).cells = true ∧ Nat.ble (slots + ms) (zGr X).slots = true) (hst : Nat.ble ((rest.map fun v => v.category).sum) 8 = true)
    (k : ∀ qs : List Nat, qs.length = n → zG X (pc + 3) ls rest (wr ++ g cA a qs) (cells + mc) (slots + ms)) : zG X pc ls (.ref a :: rest) (wr ++ [(a, .inr o0)]) cells slots := by
  obtain ⟨p, l, e, R, s0, m, args, below, meth, c, Q, D, A, nL⟩ := X
  obtain ⟨hx, hb, hml, hown, hts, hK, hA, hSx, hAO⟩ := C
  intro H locs lsC hP hD hS hl
  obtain ⟨hPc, hDc⟩ := zsub_r hP hD
  have hFc := zA_free hDc hS hA
  have S0 : CallFix p m c cc nL s0 args zTb own := ⟨hx, hb, hml, hown, hts⟩
  have hRR : R'.frames + 1 ≤ R.frames ∧ 8 + (M.2.2.2.1 + 11) + R'.locals ≤ R.locals := ⟨Nat.le_of_ble_eq_true hR.1, Nat.le_of_ble_eq_true hR.2⟩
  have hpre : PreS s0 H (va_Pc [.ref a] (fun U => U.heap.size = H.size ∧ va_P D zCl [(a, .inr o0)] U.heap ∧ va_K D zCl (zTy cA) U ∧ va_D (fun _ => True) [(a, .inr o0)] ∧ zSy ad (va_A [(a, .inr o0)] H.size) U)) [.ref a] := by
    refine ⟨fun a' U g' mk q => ?_, fun U hU hW => ?_⟩
    · obtain ⟨q0, q1, qP, qK, qD, qS, qO⟩ := q
      exact ⟨q0, q1, qP, va_K.moved (u := U) (U := U.calling g' mk a') (Vm.Alike.refl U.vm) qK, qD, zSx_vm qS rfl rfl, va_AO.moved (u := U) (U := U.calling g' mk a') (Vm.Alike.refl U.vm) qO⟩
    · exact ⟨rfl, by rw [hU], by rw [hU]; exact hPc, va_K.moved hW.alike hK, hDc.weaken (fun _ _ _ _ => trivial), zSx_call hSx hS hU hW hFc, va_AO.moved hW.alike hAO⟩
  have hr : va_Run p l e R s0 m args below meth c H locs cells slots mc ms (F0 m pc lsC (.ref a :: rest)) rest (zQi D cA a n g (va_A [(a, .inr o0)] H.size) (Value.ref a :: []).toArray) (va_A [(a, .inr o0)] H.size) := by
    rcases hl' with hl' | hl'
    · exact va_runI (As := []) (n := 0) S0 (hK' l D cA ad a H.size) ⟨callB_of (bytes := M.2.2.1) (maxL := M.2.2.2.1) (ret := none) (ws' := zTb) 0 hts (zTb_call hM) (by rw [hret]) hrc hrs (hts _ (zTb_of hini rfl)) (hts _ (zTb_of hl' rfl)) hd hRR, hnm, hts _ (zTb_of hinst rfl)⟩ hpre rfl rfl hl.1 rfl (lv_room (Nat.le_of_ble_eq_true hst)) hdg ⟨Nat.le_of_ble_eq_true hcap.1, Nat.le_of_ble_eq_true hcap.2⟩
    · exact va_runIN (As := []) (n := 0) S0 (hK' l D cA ad a H.size) ⟨va_cnB (bytes := M.2.2.1) (maxL := M.2.2.2.1) (ret := none) (ws' := zTb) 0 hts (zTb_call hM) (by rw [hret]) hrc hrs (hSx.2 _ (List.mem_filter.mpr ⟨hl', rfl⟩)) (hts _ (zTb_of hini rfl)) hd hRR, hnm, hts _ (zTb_of hinst rfl)⟩ hpre rfl rfl hl.1 rfl (lv_room (Nat.le_of_ble_eq_true hst)) hdg ⟨Nat.le_of_ble_eq_true hcap.1, Nat.le_of_ble_eq_true hcap.2⟩
  intro T hT Xs
  obtain ⟨v, st₀, t, T', L, h0', X', hL, e1, e2, ⟨hv, ⟨qs, hqs, hP1, hD1⟩, hz, hkk⟩, stp⟩ := hr T hT Xs
  rw [h0'] at hz hkk
  have hv2 : v = none := by cases hv; rfl
  subst hv2
  rw [← e1] at hP1 hz hkk
  obtain ⟨hP2, hD2⟩ := zjoin (H1 := T'.heap) hP hD hkk hFc hP1 hD1
  obtain ⟨t2, a1, b1⟩ := k qs hqs T'.heap (locs ++ L) lsC hP2 hD2 ⟨Nat.le_trans hS.1 hz, fun q h1 h2 => by
    rw [hkk q (Nat.lt_of_lt_of_le h1 hS.1) (fun z => h2 (hFc q z))]
    exact hS.2.1 q h1 h2, fun q hq => by
    rcases List.mem_append.mp hq with h | h
    · exact hS.2.2 q h
    · exact hFc _ (hL q h)⟩ hl T' rfl X'
  exact ⟨t2, stp t2 a1, b1⟩
theorem zg_ret {p : Program} {l : Launch} {e : Env} {R : Room} {s : State} {m : MethodId} {args : Array Value} {below : List Frame} {meth : Method} {c : Code} {D : va_G} {A : Nat → Prop} {h0 n nL mc ms : Nat} {g : (Nat → ClassId) → Nat → List Nat → va_W} (C : zGc (p, l, e, R, s, m, args, below, meth, c, MQ below (zQi D cA h0 n g A) args s mc ms A, D, A, nL) own cc cA ad) (hr : meth.sig.returnType = none) (hlo : meth.locks = false) (hdg : decode cc pc = .ok (.return_, 1)) (hcap : Nat.ble cells mc = true ∧ Nat.ble slots ms = true) (qs : List Nat) (hq : qs.length = n) (hw : g cA h0 qs = w) : zG (p, l, e, R, s, m, args, below, meth, c, MQ below (zQi D cA h0 n g A) args s mc ms A, D, A, nL) pc ls [] w cells slots := by
  obtain ⟨hx, hb, hml, hown, hts, hK, hA, hSx, hAO⟩ := C
  intro H locs lsC hP hD hS hl
  refine W.widen (k := mc) (n := ms) (Nat.le_of_ble_eq_true hcap.1) (Nat.le_of_ble_eq_true hcap.2) ?_
  exact W.vret hx hb hr (fun t ht hW => ⟨rfl, ⟨qs, hq, by rw [hw, ht]; exact hP, by rw [hw]; exact hD⟩, hS.F ht⟩) hS.2.2 hdg hlo
/-- the static table of the names -/
theorem zg_names (C : zGc X own cc cA ad) {idx : Nat} (hl' : Cond.fieldLink own idx "LemonGate$Tape" "NAMES" "[C" ∈ tables_1 ∨ Cond.fieldLinkNest own idx "LemonGate$Tape" "NAMES" "[C" "LemonGate" ∈ tables_1) (hdg : decode cc pc = .ok (.getstatic idx, 3)) (k : zG X (pc + 3) ls (.ref (ad 1000) :: st) w cells slots) : zG X pc ls st w cells slots := by
  obtain ⟨p, l, e, R, s0, m, args, below, meth, c, Q, D, A, nL⟩ := X
  obtain ⟨hx, hb, hml, hown, hts, hK, hA, hSx, hAO⟩ := C
  intro H locs lsC hP hD hS hl
  obtain ⟨hZ, hT⟩ := hSx.1 0 _ rfl
  rcases hl' with hl' | hl'
  · exact va_gets hx hb hZ hS hown (hts _ (zTb_of hl' rfl)) (fun _ h => h) hdg (k H locs lsC hP hD hS hl)
  · exact va_getsN hx hb hZ hS hown (hSx.2 _ (List.mem_filter.mpr ⟨hl', rfl⟩)) (fun _ h => h) hdg (k H locs lsC hP hD hS hl)
theorem zg_nlen (C : zGc X own cc cA ad) (hdg : decode cc pc = .ok (.arraylength, 1)) (k : zG X (pc + 1) ls (.int 9 :: rest) w cells slots) : zG X pc ls (.ref (ad 1000) :: rest) w cells slots := by
  obtain ⟨p, l, e, R, s0, m, args, below, meth, c, Q, D, A, nL⟩ := X
  obtain ⟨hx, hb, hml, hown, hts, hK, hA, hSx, hAO⟩ := C
  intro H locs lsC hP hD hS hl
  obtain ⟨hZ, hT⟩ := hSx.1 0 _ rfl
  exact va_tlen hx hb hT hS rfl hdg (k H locs lsC hP hD hS hl)
end ZGI
