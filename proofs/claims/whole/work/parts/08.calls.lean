/-! calls -/
def zSok (M : zM) (n : Nat) : Prop := Cond.static M.2.1 ∈ tables_1 ∧ Cond.initialized M.2.1.cls ∈ tables_1 ∧ M.2.1.cls ≠ "java/lang/invoke/MethodHandle" ∧ M.2.1.cls ≠ "java/lang/invoke/VarHandle" ∧ (parseMethodDescriptor M.2.1.desc).map (fun d => d.parameters.length) = some n
def zVok (M : zM) (n : Nat) : Prop := Cond.instanceMethod M.2.1 ∈ tables_1 ∧ Cond.selects M.2.1.cls M.2.1 M.2.1 ∈ lw_tbl ∧ Cond.initialized M.2.1.cls ∈ tables_1 ∧ M.2.1.cls ≠ "java/lang/invoke/MethodHandle" ∧ M.2.1.cls ≠ "java/lang/invoke/VarHandle" ∧ (parseMethodDescriptor M.2.1.desc).map (fun d => d.parameters.length) = some n
theorem zRm_ok {d d' maxL : Nat} (h : (Nat.ble (d' + 1) d && Nat.ble maxL 45) = true) : (zRm d').frames + 1 ≤ (zRm d).frames ∧ 8 + (maxL + 11) + (zRm d').locals ≤ (zRm d).locals := by
  simp only [Bool.and_eq_true] at h
  have h1 := Nat.le_of_ble_eq_true h.1
  have h2 := Nat.le_of_ble_eq_true h.2
  refine ⟨h1, ?_⟩
  show 8 + (maxL + 11) + 64 * d' ≤ 64 * d
  omega
theorem zTb_call {M : zM} (hM : zMok M) : GoodIn zTb (Cond.code M.2.1 M.2.2.1 M.2.2.2.1 M.2.2.2.2.1 :: zTb) := by
  intro w h
  rcases List.mem_cons.mp h with rfl | h
  · exact ⟨zTb_in hM.2.2.1 rfl, Or.inl rfl⟩
  · exact zTb_good w h
section ZC
variable {M : zM} {Λ : List zD} {d : Nat} {res : Option Value × zSt} {pc : Nat} {ls : List (Nat × Value)} {st rest : List Value} {s : zSt}
/-- what a call leaves, as the caller's world -/
theorem zCall_end {ad : Nat → Nat} {cA : Nat → ClassId} {D : va_G} {A : Nat → Prop} {p : Program} {l : Launch} {e : Env} {R : Room} {s0 : State} {m : MethodId} {args : Array Value} {below : List Frame} {meth : Method} {c : Code} {H : Heap} {locs : List Loc} {Q : State → Prop} {lsC : Array Slot} {st0 rest : List Value} {a : Array Value} {res' : Option Value × zSt}
    (hr : va_Run p l e R s0 m args below meth c H locs 0 0 0 0 (F0 m pc lsC st0) (rest.map (zV ad)) (zQ D cA ad (va_A (zW ad cA Λ s) H.size) Λ res' a) (va_A (zW ad cA Λ s) H.size)) (hD : va_D A (zW ad cA Λ s)) (hS : va_S A s0.heap H locs) (hA : ∀ q : Nat, s0.heap.size ≤ q → A q)
    (kk : ∀ (H1 : Heap) (locs1 : List Loc), va_P D zCl (zW ad cA Λ res'.2) H1 → va_S A s0.heap H1 locs1 → W p l e R s0 m args below meth c H1 locs1 0 0 Q (F0 m (pc + 3) lsC ((res'.1.toList ++ rest).map (zV ad)))) : W p l e R s0 m args below meth c H locs 0 0 Q (F0 m pc lsC st0) := by
  intro T hT X
  obtain ⟨v, st₀, t, T', L, h0, X', hL, e1, e2, ⟨hv, hP1, hz, hk⟩, stp⟩ := hr T hT X
  rw [h0] at hz hk
  have hAA : ∀ q, va_A (zW ad cA Λ s) H.size q → A q := fun q h => zA_in hD (fun q h => hA q (Nat.le_trans hS.1 h)) h
  have hv2 : v = res'.1.map (zV ad) := by cases hv; rfl
  subst hv2
  obtain ⟨t2, a1, b1⟩ := kk T'.heap (locs ++ L) (by rw [e1]; exact hP1) ⟨Nat.le_trans hS.1 (by rw [e1]; exact hz), fun q h1 h2 => by rw [e1, hk q (Nat.lt_of_lt_of_le h1 hS.1) (fun z => h2 (hAA q z))]; exact hS.2.1 q h1 h2, fun q hq => by
      rcases List.mem_append.mp hq with h | h
      · exact hS.2.2 q h
      · exact hAA _ (hL q h)⟩ T' rfl X'
  refine ⟨t2, stp t2 ?_, b1⟩
  have e3 : ((res'.1.toList ++ rest).map (zV ad)) = (res'.1.map (zV ad)).toList ++ rest.map (zV ad) := by cases res'.1 <;> simp
  rw [e3] at a1
  exact a1
theorem zPre {ad : Nat → Nat} {cA : Nat → ClassId} {D : va_G} {A : Nat → Prop} {s0 : State} {H : Heap} {locs : List Loc} {As : List Value} (hP : va_P D zCl (zW ad cA Λ s) H) (hK : va_K D zCl (zTy cA) s0) (hSx : zSx ad A s0) (hD : va_D A (zW ad cA Λ s)) (hS : va_S A s0.heap H locs) (hA : ∀ q : Nat, s0.heap.size ≤ q → A q) :
    FrameBlind (va_Pc (As.map (zV ad)) (fun U => U.heap.size = H.size ∧ va_P D zCl (zW ad cA Λ s) U.heap ∧ va_K D zCl (zTy cA) U ∧ va_D (fun _ => True) (zW ad cA Λ s) ∧ zSx ad (va_A (zW ad cA Λ s) H.size) U)) ∧ ∀ U : State, U.heap = H → s0.WarmedH U.vm → va_Pc (As.map (zV ad)) (fun U => U.heap.size = H.size ∧ va_P D zCl (zW ad cA Λ s) U.heap ∧ va_K D zCl (zTy cA) U ∧ va_D (fun _ => True) (zW ad cA Λ s) ∧ zSx ad (va_A (zW ad cA Λ s) H.size) U) (As.map (zV ad)).toArray U := by
  refine ⟨fun a U g mk q => ?_, fun U hU hW => ?_⟩
  · obtain ⟨q0, q1, qP, qK, qD, qS⟩ := q
    exact ⟨q0, q1, qP, va_K.moved (u := U) (U := U.calling g mk a) (Vm.Alike.refl U.vm) qK, qD, zSx_vm qS rfl rfl⟩
  · exact ⟨rfl, by rw [hU], by rw [hU]; exact hP, va_K.moved hW.alike hK, hD.weaken (fun _ _ _ _ => trivial), zSx_call hSx hS hU hW (fun q h => zA_in hD (fun q h => hA q (Nat.le_trans hS.1 h)) h)⟩
/-- a static call of a method of ours -/
theorem zCallS {M' : zM} {d' idx : Nat} {As : List Value} {res' : Option Value × zSt} (n : Nat) (hM' : zMok M') (hs : zSok M' n) (hl : Cond.methodLink M.2.1.cls idx M'.2.1 ∈ tables_1) (h : zlk M.2.2.2.2.2 pc = some (.invokestatic idx, 3)) (hR : (Nat.ble (d' + 1) d && Nat.ble M'.2.2.2.1 45) = true) (hc : Nat.ble ((rest.map fun v => v.category).sum) 8 = true) (hst : st = As.reverse ++ rest) (hn : As.length = n)
    (K : zKp M' Λ d' As s res') (k : zWA M Λ d res (pc + 3) ls (res'.1.toList ++ rest) res'.2) : zWA M Λ d res pc ls st s := by
  subst hst
  intro hM p l e s0 m args below meth c D cA ad A C H locs lsC hP hD hS hl0
  obtain ⟨hx, hb, hml, hr, hlo, hown, hts, hK, hSx, hA⟩ := C
  refine zCall_end (res' := res') (a := (As.map (zV ad)).toArray) (s := s) ?_ hD hS hA (fun H1 locs1 hP1 hS1 => k hM p l e s0 m args below meth c D cA ad A ⟨hx, hb, hml, hr, hlo, hown, hts, hK, hSx, hA⟩ H1 locs1 lsC hP1 (zD_to hD) hS1 hl0)
  refine va_runS (As := As.map (zV ad)) (n := n) (nL := M.2.2.2.1) (Ts := zTb) (own := M.2.1.cls) ⟨hx, hb, hml, hown, hts⟩ (K l D cA ad H.size) ⟨callB_of n hts (zTb_call hM') rfl rfl rfl (hts _ (zTb_of hs.2.1 rfl)) (hts _ (zTb_of hl rfl)) ⟨hs.2.2.1, hs.2.2.2.1, hs.2.2.2.2⟩ (zRm_ok hR), hts _ (zTb_of hs.1 rfl)⟩ (zPre hP hK hSx hD hS hA) rfl (by rw [List.length_map]; exact hn) hl0.1 ?_ (lv_room ?_) (zdec hM h) ⟨Nat.zero_le _, Nat.zero_le _⟩
  · show (As.reverse ++ rest).map (zV ad) = _
    rw [List.map_append, List.map_reverse]
  · rw [zV_cats]; exact Nat.le_of_ble_eq_true hc
/-- a static call of a nest mate's private method -/
theorem zCallN {M' : zM} {d' idx : Nat} {As : List Value} {res' : Option Value × zSt} (n : Nat) (hM' : zMok M') (hs : zSok M' n) (hl : Cond.methodLinkNest M.2.1.cls idx M'.2.1 "LemonGate" ∈ tables_1) (h : zlk M.2.2.2.2.2 pc = some (.invokestatic idx, 3)) (hR : (Nat.ble (d' + 1) d && Nat.ble M'.2.2.2.1 45) = true) (hc : Nat.ble ((rest.map fun v => v.category).sum) 8 = true) (hst : st = As.reverse ++ rest) (hn : As.length = n)
    (K : zKp M' Λ d' As s res') (k : zWA M Λ d res (pc + 3) ls (res'.1.toList ++ rest) res'.2) : zWA M Λ d res pc ls st s := by
  subst hst
  intro hM p l e s0 m args below meth c D cA ad A C H locs lsC hP hD hS hl0
  obtain ⟨hx, hb, hml, hr, hlo, hown, hts, hK, hSx, hA⟩ := C
  refine zCall_end (res' := res') (a := (As.map (zV ad)).toArray) (s := s) ?_ hD hS hA (fun H1 locs1 hP1 hS1 => k hM p l e s0 m args below meth c D cA ad A ⟨hx, hb, hml, hr, hlo, hown, hts, hK, hSx, hA⟩ H1 locs1 lsC hP1 (zD_to hD) hS1 hl0)
  refine va_runSN (As := As.map (zV ad)) (n := n) (nL := M.2.2.2.1) (Ts := zTb) (own := M.2.1.cls) ⟨hx, hb, hml, hown, hts⟩ (K l D cA ad H.size) ⟨va_cnB n hts (zTb_call hM') rfl rfl rfl (hSx.2 _ (List.mem_filter.mpr ⟨hl, rfl⟩)) (hts _ (zTb_of hs.2.1 rfl)) ⟨hs.2.2.1, hs.2.2.2.1, hs.2.2.2.2⟩ (zRm_ok hR), hts _ (zTb_of hs.1 rfl), trivial⟩ (zPre hP hK hSx hD hS hA) rfl (by rw [List.length_map]; exact hn) hl0.1 ?_ (lv_room ?_) (zdec hM h) ⟨Nat.zero_le _, Nat.zero_le _⟩
  · show (As.reverse ++ rest).map (zV ad) = _
    rw [List.map_append, List.map_reverse]
  · rw [zV_cats]; exact Nat.le_of_ble_eq_true hc
/-- a call of a method of an object of ours -/
theorem zCallV {M' : zM} {d' idx b : Nat} {As : List Value} {res' : Option Value × zSt} {o : Nat × List (Nat ⊕ Nat)} {w : vw_C} (n : Nat) (hM' : zMok M') (hs : zVok M' n) (hl : Cond.methodLink M.2.1.cls idx M'.2.1 ∈ tables_1) (h : zlk M.2.2.2.2.2 pc = some (.invokevirtual idx, 3)) (ho : Λ[b]? = some (.inl o)) (hw : zCl[o.1]? = some w) (hwc : w.1 = M'.2.1.cls) (hR : (Nat.ble (d' + 1) d && Nat.ble M'.2.2.2.1 45) = true) (hc : Nat.ble ((rest.map fun v => v.category).sum) 8 = true) (hst : st = As.reverse ++ .ref b :: rest) (hn : As.length = n)
    (K : zKp M' Λ d' (.ref b :: As) s res') (k : zWA M Λ d res (pc + 3) ls (res'.1.toList ++ rest) res'.2) : zWA M Λ d res pc ls st s := by
  subst hst
  intro hM p l e s0 m args below meth c D cA ad A C H locs lsC hP hD hS hl0
  obtain ⟨hx, hb, hml, hr, hlo, hown, hts, hK, hSx, hA⟩ := C
  refine zCall_end (res' := res') (a := (Value.ref (ad b) :: As.map (zV ad)).toArray) (s := s) ?_ hD hS hA (fun H1 locs1 hP1 hS1 => k hM p l e s0 m args below meth c D cA ad A ⟨hx, hb, hml, hr, hlo, hown, hts, hK, hSx, hA⟩ H1 locs1 lsC hP1 (zD_to hD) hS1 hl0)
  have hpre := zPre (As := .ref b :: As) hP hK hSx hD hS hA
  refine va_runV (As := As.map (zV ad)) (b := ad b) (C := M'.2.1.cls) (n := n) (nL := M.2.2.2.1) (Ts := zTb) (own := M.2.1.cls) ⟨hx, hb, hml, hown, hts⟩ (K l D cA ad H.size) ⟨callB_of n hts (zTb_call hM') rfl rfl rfl (hts _ (zTb_of hs.2.2.1 rfl)) (hts _ (zTb_of hl rfl)) ⟨hs.2.2.2.1, hs.2.2.2.2.1, hs.2.2.2.2.2⟩ (zRm_ok hR), hts _ (zTb_of hs.1 rfl), hts _ (zTb_in hs.2.1 rfl)⟩ ⟨hpre.1, ?_, hpre.2⟩ rfl (by rw [List.length_map]; exact hn) hl0.1 ?_ (lv_room ?_) (zdec hM h) ⟨Nat.zero_le _, Nat.zero_le _⟩
  · rw [← hwc]
    exact va_recv hK hP hw (zW_get ho)
  · show (As.reverse ++ .ref b :: rest).map (zV ad) = _
    rw [List.map_append, List.map_reverse]
    rfl
  · rw [zV_cats]; exact Nat.le_of_ble_eq_true hc
theorem zMaxI {x y : Int32} {idx : Nat} (hl : Cond.methodLink M.2.1.cls idx Lib.Math.max.name ∈ tables_1) (h : zlk M.2.2.2.2.2 pc = some (.invokestatic idx, 3)) (hd : Nat.ble 1 d = true) (hc : Nat.ble ((rest.map fun v => v.category).sum) 8 = true) (k : zWA M Λ d res (pc + 3) ls (.int (zmax x y) :: rest) s) : zWA M Λ d res pc ls (.int y :: .int x :: rest) s := by
  intro hM p l e s0 m args below meth c D cA ad A C H locs lsC hP hD hS hl0
  have h1 := Nat.le_of_ble_eq_true hd
  have h2 := Nat.le_of_ble_eq_true hc
  exact va_mmax C.1 C.2.1 (C.2.2.1.trans hl0.1.symm) C.2.2.2.2.2.1 (C.2.2.2.2.2.2.1 _ (zTb_of hl rfl)) (C.2.2.2.2.2.2.1 _ (zTb_of (by decide +kernel) rfl)) (C.2.2.2.2.2.2.1 _ (zTb_of (by decide +kernel) rfl)) (C.2.2.2.2.2.2.1 _ (zTb_of (by decide +kernel) rfl)) h1 (by rw [zV_cats]; show _ + 13 ≤ 64 * d; omega) (Nat.zero_le _) (Nat.zero_le _) (zdec hM h) (k hM p l e s0 m args below meth c D cA ad A C H locs lsC hP hD hS hl0)
theorem zMinI {x y : Int32} {idx : Nat} (hl : Cond.methodLink M.2.1.cls idx Lib.Math.min.name ∈ tables_1) (h : zlk M.2.2.2.2.2 pc = some (.invokestatic idx, 3)) (hd : Nat.ble 1 d = true) (hc : Nat.ble ((rest.map fun v => v.category).sum) 8 = true) (k : zWA M Λ d res (pc + 3) ls (.int (zmin x y) :: rest) s) : zWA M Λ d res pc ls (.int y :: .int x :: rest) s := by
  intro hM p l e s0 m args below meth c D cA ad A C H locs lsC hP hD hS hl0
  have h1 := Nat.le_of_ble_eq_true hd
  have h2 := Nat.le_of_ble_eq_true hc
  exact va_mmin C.1 C.2.1 (C.2.2.1.trans hl0.1.symm) C.2.2.2.2.2.1 (C.2.2.2.2.2.2.1 _ (zTb_of hl rfl)) (C.2.2.2.2.2.2.1 _ (zTb_of (by decide +kernel) rfl)) (C.2.2.2.2.2.2.1 _ (zTb_of (by decide +kernel) rfl)) (C.2.2.2.2.2.2.1 _ (zTb_of (by decide +kernel) rfl)) h1 (by rw [zV_cats]; show _ + 13 ≤ 64 * d; omega) (Nat.zero_le _) (Nat.zero_le _) (zdec hM h) (k hM p l e s0 m args below meth c D cA ad A C H locs lsC hP hD hS hl0)
theorem zMaxL {x y : Int64} {idx : Nat} (hl : Cond.methodLink M.2.1.cls idx Lib.MathLoose.max_long.x ∈ tables_1) (h : zlk M.2.2.2.2.2 pc = some (.invokestatic idx, 3)) (hd : Nat.ble 1 d = true) (hc : Nat.ble ((rest.map fun v => v.category).sum) 8 = true) (k : zWA M Λ d res (pc + 3) ls (.long (zmaxL x y) :: rest) s) : zWA M Λ d res pc ls (.long y :: .long x :: rest) s := by
  intro hM p l e s0 m args below meth c D cA ad A C H locs lsC hP hD hS hl0
  have h1 := Nat.le_of_ble_eq_true hd
  have h2 := Nat.le_of_ble_eq_true hc
  exact va_mmax_long C.1 C.2.1 (C.2.2.1.trans hl0.1.symm) C.2.2.2.2.2.1 (C.2.2.2.2.2.2.1 _ (zTb_of hl rfl)) (C.2.2.2.2.2.2.1 _ (zTb_of (by decide +kernel) rfl)) (C.2.2.2.2.2.2.1 _ (zTb_of (by decide +kernel) rfl)) (C.2.2.2.2.2.2.1 _ (zTb_of (by decide +kernel) rfl)) h1 (by rw [zV_cats]; show _ + 15 ≤ 64 * d; omega) (Nat.zero_le _) (Nat.zero_le _) (zdec hM h) (k hM p l e s0 m args below meth c D cA ad A C H locs lsC hP hD hS hl0)
theorem zAbsL {x : Int64} {idx : Nat} (hl : Cond.methodLink M.2.1.cls idx Lib.MathLoose.abs_long.x ∈ tables_1) (h : zlk M.2.2.2.2.2 pc = some (.invokestatic idx, 3)) (hd : Nat.ble 1 d = true) (hc : Nat.ble ((rest.map fun v => v.category).sum) 8 = true) (k : zWA M Λ d res (pc + 3) ls (.long (zabsL x) :: rest) s) : zWA M Λ d res pc ls (.long x :: rest) s := by
  intro hM p l e s0 m args below meth c D cA ad A C H locs lsC hP hD hS hl0
  have h1 := Nat.le_of_ble_eq_true hd
  have h2 := Nat.le_of_ble_eq_true hc
  exact va_mabs_long C.1 C.2.1 (C.2.2.1.trans hl0.1.symm) C.2.2.2.2.2.1 (C.2.2.2.2.2.2.1 _ (zTb_of hl rfl)) (C.2.2.2.2.2.2.1 _ (zTb_of (by decide +kernel) rfl)) (C.2.2.2.2.2.2.1 _ (zTb_of (by decide +kernel) rfl)) (C.2.2.2.2.2.2.1 _ (zTb_of (by decide +kernel) rfl)) h1 (by rw [zV_cats]; show _ + 13 ≤ 64 * d; omega) (Nat.zero_le _) (Nat.zero_le _) (zdec hM h) (k hM p l e s0 m args below meth c D cA ad A C H locs lsC hP hD hS hl0)
theorem zCpyI {α : Type} {r : α} {g : zSt → Option α} {k0 k1 n0 n1 b0 b1 idx : Nat} {sp dp n : Int32} (hf : (zcp s k0 n0 k1 n1 sp dp n).bind g = some r) (hl : Cond.methodLink M.2.1.cls idx arraycopyName ∈ tables_1) (h : zlk M.2.2.2.2.2 pc = some (.invokestatic idx, 3)) (hd : Nat.ble 1 d = true) (hc : Nat.ble ((rest.map fun v => v.category).sum) 8 = true) (h0 : Λ[k0]? = some (.inr (0, n0, b0))) (h1 : Λ[k1]? = some (.inr (0, n1, b1)))
    (kk : ∀ s', g s' = some r → zWA M Λ d res (pc + 3) ls rest s') : zWA M Λ d res pc ls (.int n :: .int dp :: .ref k1 :: .int sp :: .ref k0 :: rest) s := by
  refine zBd hf fun s' e1 e2 => ?_
  unfold zcp at e1
  refine zIte e1 (fun hin e1 => ?_) (fun _ e1 => by cases e1)
  cases e1
  intro hM p l e s0 m args below meth c D cA ad A C H locs lsC hP hD hS hl0
  have hd1 := Nat.le_of_ble_eq_true hd
  have hc1 := Nat.le_of_ble_eq_true hc
  refine va_copyi (tys := zTy cA) (ty := .int) C.1 C.2.1 (C.2.2.1.trans hl0.1.symm) C.2.2.2.2.2.1 (C.2.2.2.2.2.2.1 _ (zTb_of hl rfl)) (C.2.2.2.2.2.2.1 _ (zTb_of (by decide +kernel) rfl)) (C.2.2.2.2.2.2.1 _ (zTb_of (by decide +kernel) rfl)) (C.2.2.2.2.2.2.1 _ (zTb_of (by decide +kernel) rfl)) C.2.2.2.2.2.2.2.1 hP hD hS k0 k1 0 0 (zW_get h0) (zW_get h1) rfl rfl rfl hin.1 hin.2.1 hin.2.2.1 hin.2.2.2.1 hin.2.2.2.2 (fun i _ => rfl) hd1 ?_ (zdec hM h) (fun H1 locs1 hP1 hD1 hS1 => ?_)
  · rw [zV_cats]
    have : nativeFrameWords "java/lang/System" "arraycopy" 5 + 11 ≤ 56 := by decide +kernel
    show _ + _ ≤ 64 * d
    omega
  · have e2' : zC ad cA (zcps s k0 k1 sp.toNatClampNeg dp.toNatClampNeg n.toNatClampNeg) k1 (.inr (0, n1, b1)) = .inl (cA 0, n1, .inl (va_cpy (s.1 k0) (s.1 k1) sp.toNatClampNeg dp.toNatClampNeg n.toNatClampNeg)) := by simp only [zC, zcps, if_true]
    have e3 := zW_set (ad := ad) (cA := cA) (s := s) (t := zcps s k0 k1 sp.toNatClampNeg dp.toNatClampNeg n.toNatClampNeg) h1 (fun j hj => ⟨if_neg hj, rfl⟩)
    rw [e2'] at e3
    rw [e3] at hP1 hD1
    exact kk _ e2 hM p l e s0 m args below meth c D cA ad A C H1 locs1 lsC hP1 hD1 hS1 hl0
theorem zCpyL {α : Type} {r : α} {g : zSt → Option α} {k0 k1 n0 n1 b0 b1 idx : Nat} {sp dp n : Int32} (hf : (zcpl s k0 n0 k1 n1 sp dp n).bind g = some r) (hl : Cond.methodLink M.2.1.cls idx arraycopyName ∈ tables_1) (h : zlk M.2.2.2.2.2 pc = some (.invokestatic idx, 3)) (hd : Nat.ble 1 d = true) (hc : Nat.ble ((rest.map fun v => v.category).sum) 8 = true) (h0 : Λ[k0]? = some (.inr (1, n0, b0))) (h1 : Λ[k1]? = some (.inr (1, n1, b1)))
    (kk : ∀ s', g s' = some r → zWA M Λ d res (pc + 3) ls rest s') : zWA M Λ d res pc ls (.int n :: .int dp :: .ref k1 :: .int sp :: .ref k0 :: rest) s := by
  refine zBd hf fun s' e1 e2 => ?_
  unfold zcpl at e1
  refine zIte e1 (fun hin e1 => ?_) (fun _ e1 => by cases e1)
  cases e1
  intro hM p l e s0 m args below meth c D cA ad A C H locs lsC hP hD hS hl0
  have hd1 := Nat.le_of_ble_eq_true hd
  have hc1 := Nat.le_of_ble_eq_true hc
  refine va_copyl (tys := zTy cA) (ty := .long) C.1 C.2.1 (C.2.2.1.trans hl0.1.symm) C.2.2.2.2.2.1 (C.2.2.2.2.2.2.1 _ (zTb_of hl rfl)) (C.2.2.2.2.2.2.1 _ (zTb_of (by decide +kernel) rfl)) (C.2.2.2.2.2.2.1 _ (zTb_of (by decide +kernel) rfl)) (C.2.2.2.2.2.2.1 _ (zTb_of (by decide +kernel) rfl)) C.2.2.2.2.2.2.2.1 hP hD hS k0 k1 1 1 (zW_get h0) (zW_get h1) rfl rfl rfl hin.1 hin.2.1 hin.2.2.1 hin.2.2.2.1 hin.2.2.2.2 (fun i _ => rfl) hd1 ?_ (zdec hM h) (fun H1 locs1 hP1 hD1 hS1 => ?_)
  · rw [zV_cats]
    have : nativeFrameWords "java/lang/System" "arraycopy" 5 + 11 ≤ 56 := by decide +kernel
    show _ + _ ≤ 64 * d
    omega
  · have e2' : zC ad cA (zcpsl s k0 k1 sp.toNatClampNeg dp.toNatClampNeg n.toNatClampNeg) k1 (.inr (1, n1, b1)) = .inl (cA 1, n1, .inr (.inl (va_cpy (s.2 k0) (s.2 k1) sp.toNatClampNeg dp.toNatClampNeg n.toNatClampNeg))) := by simp only [zC, zcpsl, if_true]
    have e3 := zW_set (ad := ad) (cA := cA) (s := s) (t := zcpsl s k0 k1 sp.toNatClampNeg dp.toNatClampNeg n.toNatClampNeg) h1 (fun j hj => ⟨rfl, if_neg hj⟩)
    rw [e2'] at e3
    rw [e3] at hP1 hD1
    exact kk _ e2 hM p l e s0 m args below meth c D cA ad A C H1 locs1 lsC hP1 hD1 hS1 hl0
end ZC
