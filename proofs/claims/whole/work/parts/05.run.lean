/-! straight-line instructions: soundness -/
section ZR
variable {M : zM} {Λ : List zD} {d : Nat} {res : Option Value × zSt} {pc len : Nat}
theorem zlay_of {own idx : Nat} {q : Nat × Nat} (h : zlk (zfl own) idx = some q) : ∃ r : vw_C, zCl[q.1]? = some r ∧ q.2 < r.2.2 ∧ (r.2.1 q.2).1 = r.1 ∧ Cond.fieldLink (zNm own) idx r.1 (r.2.1 q.2).2.1 (r.2.1 q.2).2.2.1 ∈ zTb := by
  have h1 := List.all_eq_true.mp (zfl_ok own) _ (zlk_mem h)
  cases hr : zCl[q.1]? with
  | none => simp [hr] at h1
  | some r =>
    simp only [hr, Bool.and_eq_true, decide_eq_true_eq] at h1
    exact ⟨r, rfl, h1.1, h1.2.1, zTb_of h1.2.2 rfl⟩
theorem zloc {ls : List (Nat × Value)} {lsC : Array Slot} {nL i : Nat} {ad : Nat → Nat} {v : Value} (hl : lv_has lsC nL (ls.map (fun q => (q.1, zV ad q.2)))) (h : zlk ls i = some v) : lsC[i]? = some (.val (zV ad v)) :=
  hl.2.2 (i, zV ad v) (List.mem_map.mpr ⟨(i, v), zlk_mem h, rfl⟩)
theorem zrm_map (ad : Nat → Nat) (i : Nat) (ls : List (Nat × Value)) : (zrm i ls).map (fun q => (q.1, zV ad q.2)) = (ls.map (fun q => (q.1, zV ad q.2))).filter (fun q => !(q.1 == i) && !(q.1 + 1 == i && q.2.category == 2)) := by
  rw [List.filter_map]
  unfold zrm
  congr 1
  apply List.filter_congr
  intro q _
  simp [zV_cat]
theorem zrm2_map (ad : Nat → Nat) (i : Nat) (ls : List (Nat × Value)) : (zrm2 i ls).map (fun q => (q.1, zV ad q.2)) = (ls.map (fun q => (q.1, zV ad q.2))).filter (fun q => !(q.1 == i) && (!(q.1 == i + 1) && !(q.1 + 1 == i && q.2.category == 2))) := by
  rw [List.filter_map]
  unfold zrm2
  congr 1
  apply List.filter_congr
  intro q _
  simp [zV_cat]
theorem zs_push {v : Value} {ls st s} {n : Nat} (k : zWA M Λ d res (pc + n) ls (v :: st) s)
    (h : ∀ {p : Program} {l : Launch} {e : Env} {R : Room} {s : State} {m : MethodId} {args : Array Value} {below : List Frame} {meth : Method} {c : Code} {H : Heap} {locs : List Loc} {cells slots : Nat} {Q : State → Prop} {ls : Array Slot} {rest : List Value} (ad : Nat → Nat), p.tables.exec = Jvm.exec → c.code = M.2.2.1 → s.vm.findClass M.2.1.cls = some m.cls → (∀ w ∈ zTb, w.before args s = true) → W p l e R s m args below meth c H locs cells slots Q (F0 m (pc + n) ls (zV ad v :: rest)) → W p l e R s m args below meth c H locs cells slots Q (F0 m pc ls rest)) : zWA M Λ d res pc ls st s := by
  intro hM p l e s m args below meth c D cA ad A C H locs lsC hP hD hS hl
  have k1 := k hM p l e s m args below meth c D cA ad A C H locs lsC hP hD hS hl
  exact h ad C.1 C.2.1 C.2.2.2.2.2.1 C.2.2.2.2.2.2.1 k1
theorem zs_load {i : Nat} {x y : zS} (h : zLoad i x = some y) {n : Nat} (k : zWA M Λ d res (pc + n) y.1 y.2.1 y.2.2)
    (hr : ∀ {p : Program} {l : Launch} {e : Env} {R : Room} {s : State} {m : MethodId} {args : Array Value} {below : List Frame} {meth : Method} {c : Code} {H : Heap} {locs : List Loc} {cells slots : Nat} {Q : State → Prop} {ls : Array Slot} {rest : List Value} {v : Int32}, p.tables.exec = Jvm.exec → c.code = M.2.2.1 → ls[i]? = some (.val (.int v)) → W p l e R s m args below meth c H locs cells slots Q (F0 m (pc + n) ls (.int v :: rest)) → W p l e R s m args below meth c H locs cells slots Q (F0 m pc ls rest)) : zWA M Λ d res pc x.1 x.2.1 x.2.2 := by
  unfold zLoad at h
  split at h
  · next v hv =>
    cases h
    intro hM p l e s m args below meth c D cA ad A C H locs lsC hP hD hS hl
    exact hr C.1 C.2.1 (zloc hl hv) (k hM p l e s m args below meth c D cA ad A C H locs lsC hP hD hS hl)
  · cases h
theorem zs_loadL {i : Nat} {x y : zS} (h : zLoadL i x = some y) {n : Nat} (k : zWA M Λ d res (pc + n) y.1 y.2.1 y.2.2)
    (hr : ∀ {p : Program} {l : Launch} {e : Env} {R : Room} {s : State} {m : MethodId} {args : Array Value} {below : List Frame} {meth : Method} {c : Code} {H : Heap} {locs : List Loc} {cells slots : Nat} {Q : State → Prop} {ls : Array Slot} {rest : List Value} {v : Int64}, p.tables.exec = Jvm.exec → c.code = M.2.2.1 → ls[i]? = some (.val (.long v)) → W p l e R s m args below meth c H locs cells slots Q (F0 m (pc + n) ls (.long v :: rest)) → W p l e R s m args below meth c H locs cells slots Q (F0 m pc ls rest)) : zWA M Λ d res pc x.1 x.2.1 x.2.2 := by
  unfold zLoadL at h
  split at h
  · next v hv =>
    cases h
    intro hM p l e s m args below meth c D cA ad A C H locs lsC hP hD hS hl
    exact hr C.1 C.2.1 (zloc hl hv) (k hM p l e s m args below meth c D cA ad A C H locs lsC hP hD hS hl)
  · cases h
theorem zs_loadA {i : Nat} {x y : zS} (h : zLoadA i x = some y) {n : Nat} (k : zWA M Λ d res (pc + n) y.1 y.2.1 y.2.2)
    (hr : ∀ {p : Program} {l : Launch} {e : Env} {R : Room} {s : State} {m : MethodId} {args : Array Value} {below : List Frame} {meth : Method} {c : Code} {H : Heap} {locs : List Loc} {cells slots : Nat} {Q : State → Prop} {ls : Array Slot} {rest : List Value} {v : Nat}, p.tables.exec = Jvm.exec → c.code = M.2.2.1 → ls[i]? = some (.val (.ref v)) → W p l e R s m args below meth c H locs cells slots Q (F0 m (pc + n) ls (.ref v :: rest)) → W p l e R s m args below meth c H locs cells slots Q (F0 m pc ls rest))
    (hn : ∀ {p : Program} {l : Launch} {e : Env} {R : Room} {s : State} {m : MethodId} {args : Array Value} {below : List Frame} {meth : Method} {c : Code} {H : Heap} {locs : List Loc} {cells slots : Nat} {Q : State → Prop} {ls : Array Slot} {rest : List Value}, p.tables.exec = Jvm.exec → c.code = M.2.2.1 → ls[i]? = some (.val .null) → W p l e R s m args below meth c H locs cells slots Q (F0 m (pc + n) ls (.null :: rest)) → W p l e R s m args below meth c H locs cells slots Q (F0 m pc ls rest)) : zWA M Λ d res pc x.1 x.2.1 x.2.2 := by
  unfold zLoadA at h
  split at h
  · next v hv =>
    cases h
    intro hM p l e s m args below meth c D cA ad A C H locs lsC hP hD hS hl
    exact hr C.1 C.2.1 (zloc hl hv) (k hM p l e s m args below meth c D cA ad A C H locs lsC hP hD hS hl)
  · next hv =>
    cases h
    intro hM p l e s m args below meth c D cA ad A C H locs lsC hP hD hS hl
    exact hn C.1 C.2.1 (zloc hl hv) (k hM p l e s m args below meth c D cA ad A C H locs lsC hP hD hS hl)
  · cases h
/-- a row of the stack alone -/
theorem zs_pure {x y : zS} (hx : x.1 = y.1 ∧ x.2.2 = y.2.2) {n : Nat} (k : zWA M Λ d res (pc + n) y.1 y.2.1 y.2.2)
    (hr : ∀ {p : Program} {l : Launch} {e : Env} {R : Room} {s : State} {m : MethodId} {args : Array Value} {below : List Frame} {meth : Method} {c : Code} {H : Heap} {locs : List Loc} {cells slots : Nat} {Q : State → Prop} {ls : Array Slot} (ad : Nat → Nat), p.tables.exec = Jvm.exec → c.code = M.2.2.1 → W p l e R s m args below meth c H locs cells slots Q (F0 m (pc + n) ls (y.2.1.map (zV ad))) → W p l e R s m args below meth c H locs cells slots Q (F0 m pc ls (x.2.1.map (zV ad)))) : zWA M Λ d res pc x.1 x.2.1 x.2.2 := by
  intro hM p l e s m args below meth c D cA ad A C H locs lsC hP hD hS hl
  rw [hx.1] at hl
  rw [hx.2] at hP hD
  exact hr ad C.1 C.2.1 (k hM p l e s m args below meth c D cA ad A C H locs lsC hP hD hS hl)
theorem zs_store {nL i : Nat} {x y : zS} (hnL : M.2.2.2.1 = nL) (h : zStore nL i x = some y) {n : Nat} (k : zWA M Λ d res (pc + n) y.1 y.2.1 y.2.2)
    (hr : ∀ {p : Program} {l : Launch} {e : Env} {R : Room} {s : State} {m : MethodId} {args : Array Value} {below : List Frame} {meth : Method} {c : Code} {H : Heap} {locs : List Loc} {cells slots : Nat} {Q : State → Prop} {ls : Array Slot} {rest : List Value} {v : Int32} {lv lv' : List (Nat × Value)}, p.tables.exec = Jvm.exec → c.code = M.2.2.1 → lv_has ls nL lv → i < nL → (i, Value.int v) :: lv.filter (fun q => !(q.1 == i) && !(q.1 + 1 == i && q.2.category == 2)) = lv' → (∀ ls1 : Array Slot, lv_has ls1 nL lv' → W p l e R s m args below meth c H locs cells slots Q (F0 m (pc + n) ls1 rest)) → W p l e R s m args below meth c H locs cells slots Q (F0 m pc ls (.int v :: rest))) : zWA M Λ d res pc x.1 x.2.1 x.2.2 := by
  subst hnL
  obtain ⟨ls, st, s0⟩ := x
  unfold zStore at h
  dsimp only at h
  split at h
  · next v r =>
    cases hb : Nat.blt i M.2.2.2.1 with
    | false => rw [hb] at h; cases h
    | true =>
      rw [hb] at h
      cases h
      intro hM p l e s m args below meth c D cA ad A C H locs lsC hP hD hS hl
      refine hr (v := v) C.1 C.2.1 hl (Nat.blt_eq.mp hb) rfl fun ls1 hl1 => ?_
      exact k hM p l e s m args below meth c D cA ad A C H locs ls1 hP hD hS (by rw [← zrm_map] at hl1; exact hl1)
  · cases h
theorem zs_storeL {nL i : Nat} {x y : zS} (hnL : M.2.2.2.1 = nL) (h : zStoreL nL i x = some y) {n : Nat} (k : zWA M Λ d res (pc + n) y.1 y.2.1 y.2.2)
    (hr : ∀ {p : Program} {l : Launch} {e : Env} {R : Room} {s : State} {m : MethodId} {args : Array Value} {below : List Frame} {meth : Method} {c : Code} {H : Heap} {locs : List Loc} {cells slots : Nat} {Q : State → Prop} {ls : Array Slot} {rest : List Value} {v : Int64} {lv lv' : List (Nat × Value)}, p.tables.exec = Jvm.exec → c.code = M.2.2.1 → lv_has ls nL lv → i + 1 < nL → (i, Value.long v) :: lv.filter (fun q => !(q.1 == i) && (!(q.1 == i + 1) && !(q.1 + 1 == i && q.2.category == 2))) = lv' → (∀ ls1 : Array Slot, lv_has ls1 nL lv' → W p l e R s m args below meth c H locs cells slots Q (F0 m (pc + n) ls1 rest)) → W p l e R s m args below meth c H locs cells slots Q (F0 m pc ls (.long v :: rest))) : zWA M Λ d res pc x.1 x.2.1 x.2.2 := by
  subst hnL
  obtain ⟨ls, st, s0⟩ := x
  unfold zStoreL at h
  dsimp only at h
  split at h
  · next v r =>
    cases hb : Nat.blt (i + 1) M.2.2.2.1 with
    | false => rw [hb] at h; cases h
    | true =>
      rw [hb] at h
      cases h
      intro hM p l e s m args below meth c D cA ad A C H locs lsC hP hD hS hl
      refine hr (v := v) C.1 C.2.1 hl (Nat.blt_eq.mp hb) rfl fun ls1 hl1 => ?_
      exact k hM p l e s m args below meth c D cA ad A C H locs ls1 hP hD hS (by rw [← zrm2_map] at hl1; exact hl1)
  · cases h
theorem zs_storeA {nL i : Nat} {x y : zS} (hnL : M.2.2.2.1 = nL) (h : zStoreA nL i x = some y) {n : Nat} (k : zWA M Λ d res (pc + n) y.1 y.2.1 y.2.2)
    (hr : ∀ {p : Program} {l : Launch} {e : Env} {R : Room} {s : State} {m : MethodId} {args : Array Value} {below : List Frame} {meth : Method} {c : Code} {H : Heap} {locs : List Loc} {cells slots : Nat} {Q : State → Prop} {ls : Array Slot} {rest : List Value} {v : Nat} {lv lv' : List (Nat × Value)}, p.tables.exec = Jvm.exec → c.code = M.2.2.1 → lv_has ls nL lv → i < nL → (i, Value.ref v) :: lv.filter (fun q => !(q.1 == i) && !(q.1 + 1 == i && q.2.category == 2)) = lv' → (∀ ls1 : Array Slot, lv_has ls1 nL lv' → W p l e R s m args below meth c H locs cells slots Q (F0 m (pc + n) ls1 rest)) → W p l e R s m args below meth c H locs cells slots Q (F0 m pc ls (.ref v :: rest)))
    (hN : ∀ {p : Program} {l : Launch} {e : Env} {R : Room} {s : State} {m : MethodId} {args : Array Value} {below : List Frame} {meth : Method} {c : Code} {H : Heap} {locs : List Loc} {cells slots : Nat} {Q : State → Prop} {ls : Array Slot} {rest : List Value} {lv lv' : List (Nat × Value)}, p.tables.exec = Jvm.exec → c.code = M.2.2.1 → lv_has ls nL lv → i < nL → (i, Value.null) :: lv.filter (fun q => !(q.1 == i) && !(q.1 + 1 == i && q.2.category == 2)) = lv' → (∀ ls1 : Array Slot, lv_has ls1 nL lv' → W p l e R s m args below meth c H locs cells slots Q (F0 m (pc + n) ls1 rest)) → W p l e R s m args below meth c H locs cells slots Q (F0 m pc ls (.null :: rest))) : zWA M Λ d res pc x.1 x.2.1 x.2.2 := by
  subst hnL
  obtain ⟨ls, st, s0⟩ := x
  unfold zStoreA at h
  dsimp only at h
  split at h
  · next v r =>
    cases hb : Nat.blt i M.2.2.2.1 with
    | false => rw [hb] at h; cases h
    | true =>
      rw [hb] at h
      cases h
      intro hM p l e s m args below meth c D cA ad A C H locs lsC hP hD hS hl
      refine hr (v := ad v) C.1 C.2.1 hl (Nat.blt_eq.mp hb) rfl fun ls1 hl1 => ?_
      exact k hM p l e s m args below meth c D cA ad A C H locs ls1 hP hD hS (by rw [← zrm_map] at hl1; exact hl1)
  · next r =>
    cases hb : Nat.blt i M.2.2.2.1 with
    | false => rw [hb] at h; cases h
    | true =>
      rw [hb] at h
      cases h
      intro hM p l e s m args below meth c D cA ad A C H locs lsC hP hD hS hl
      refine hN C.1 C.2.1 hl (Nat.blt_eq.mp hb) rfl fun ls1 hl1 => ?_
      exact k hM p l e s m args below meth c D cA ad A C H locs ls1 hP hD hS (by rw [← zrm_map] at hl1; exact hl1)
  · cases h
theorem zs_inc {nL i : Nat} {n : Int} {x y : zS} (hnL : M.2.2.2.1 = nL) (hd : decode M.2.2.1 pc = .ok (.iinc i n, 3)) (h : zInc nL i n x = some y) (k : zWA M Λ d res (pc + 3) y.1 y.2.1 y.2.2) : zWA M Λ d res pc x.1 x.2.1 x.2.2 := by
  subst hnL
  unfold zInc at h
  split at h
  · next v hv =>
    cases hb : Nat.blt i M.2.2.2.1 with
    | false => rw [hb] at h; cases h
    | true =>
      rw [hb] at h
      cases h
      intro hM p l e s m args below meth c D cA ad A C H locs lsC hP hD hS hl
      obtain ⟨j, hj⟩ := List.getElem?_of_mem (List.mem_map.mpr ⟨(i, .int v), zlk_mem hv, rfl⟩ : (i, Value.int v) ∈ x.1.map (fun q => (q.1, zV ad q.2)))
      refine lv_iinc (v := v + Int32.ofInt n) C.1 C.2.1 hd hl hj rfl (Nat.blt_eq.mp hb) rfl fun ls1 hl1 => ?_
      exact k hM p l e s m args below meth c D cA ad A C H locs ls1 hP hD hS (by rw [← zrm_map] at hl1; exact hl1)
  · cases h
theorem zs_get {idx : Nat} {x y : zS} (hd : decode M.2.2.1 pc = .ok (.getfield idx, 3)) (h : zGet M.1 Λ idx x = some y) (k : zWA M Λ d res (pc + 3) y.1 y.2.1 y.2.2) : zWA M Λ d res pc x.1 x.2.1 x.2.2 := by
  obtain ⟨ls, st, s0⟩ := x
  unfold zGet at h
  dsimp only at h
  split at h
  · next a r =>
    split at h
    · next q o hq ho =>
      cases hb : Nat.beq q.1 o.1 with
      | false => rw [hb] at h; cases h
      | true =>
        rw [hb] at h
        have e1 : q.1 = o.1 := Nat.eq_of_beq_eq_true hb
        obtain ⟨w, hw1, hw2, hw3, hw4⟩ := zlay_of hq
        have key : ∀ f : Nat ⊕ Nat, o.2[q.2]? = some f → ∀ (yy : List (Nat × Value) × List Value × zSt), yy.1 = ls → yy.2.2 = s0 → (∀ ad, yy.2.1.map (zV ad) = zF ad s0 a q.2 f :: r.map (zV ad)) → zWA M Λ d res (pc + 3) yy.1 yy.2.1 yy.2.2 → zWA M Λ d res pc ls (.ref a :: r) s0 := by
          intro f hf yy y1 y2 y3 k
          subst y1; subst y2
          intro hM p l e s m args below meth c D cA ad A C H locs lsC hP hD hS hl
          have kk := k hM p l e s m args below meth c D cA ad A C H locs lsC hP hD hS hl
          rw [y3] at kk
          refine va_get (D := D) (ci := o.1) (v := zF ad yy.2.2 a q.2 f) (C := w.1) (T := w.2.1) (N := w.2.2) (own := M.2.1.cls) (ref := w.1) C.1 C.2.1 C.2.2.2.2.2.2.1 (zlays_in hw1) C.2.2.2.2.2.1 C.2.2.2.2.2.2.2.1 hP a (zW_get ho) (by rw [← e1]; exact hw1) q.2 hw2 (C.2.2.2.2.2.2.1 _ (by rw [← hM.2.1]; exact hw4)) (fun _ h9 => by rw [← hw3]; exact h9) ?_ hd kk
          rw [List.getElem?_mapIdx, hf]; rfl
        cases hf : o.2[q.2]? with
        | none => simp [hf] at h
        | some f =>
          rw [hf] at h
          cases f with
          | inl z => cases h; exact key _ hf _ rfl rfl (fun ad => rfl) k
          | inr z => cases h; exact key _ hf _ rfl rfl (fun ad => rfl) k
    · cases h
  · cases h
theorem zs_put {idx : Nat} {x y : zS} (hd : decode M.2.2.1 pc = .ok (.putfield idx, 3)) (h : zPut M.1 Λ idx x = some y) (hty : ∀ (q : Nat × Nat) (w : vw_C) (o : Nat × List (Nat ⊕ Nat)) (kd : Nat), zlk (zfl M.1) idx = some q → zCl[q.1]? = some w → Sum.inl o ∈ Λ → q.1 = o.1 → o.2[q.2]? = some (.inl kd) → (w.2.1 q.2).2.2.2 = false ∧ zTt q.1 q.2 = (if kd = 0 then .int else .boolean) ∧ o.2.length = w.2.2) (k : zWA M Λ d res (pc + 3) y.1 y.2.1 y.2.2) : zWA M Λ d res pc x.1 x.2.1 x.2.2 := by
  obtain ⟨ls, st, s0⟩ := x
  unfold zPut at h
  dsimp only at h
  split at h
  · next v a r =>
    split at h
    · next q o hq ho =>
      cases hb : Nat.beq q.1 o.1 with
      | false => rw [hb] at h; cases h
      | true =>
        rw [hb] at h
        have e1 : q.1 = o.1 := Nat.eq_of_beq_eq_true hb
        obtain ⟨w, hw1, hw2, hw3, hw4⟩ := zlay_of hq
        have key : ∀ kd : Nat, o.2[q.2]? = some (.inl kd) → (kd = 0 ∨ v = 0 ∨ v = 1) → zWA M Λ d res (pc + 3) ls r (zw s0 a q.2 v) → zWA M Λ d res pc ls (.int v :: .ref a :: r) s0 := by
          intro kd hf hv k hM p l e s m args below meth c D cA ad A C H locs lsC hP hD hS hl
          obtain ⟨t1, t2, t3⟩ := hty q w o kd hq hw1 (List.mem_of_getElem? ho) e1 hf
          obtain ⟨n1, n2⟩ := zNm_ok q.1 w hw1
          refine va_put (D := D) (ci := o.1) (v := .int v) (ty := zTt q.1 q.2) (C := w.1) (T := w.2.1) (N := w.2.2) (own := M.2.1.cls) (ref := w.1) C.1 C.2.1 C.2.2.2.2.2.2.1 (zlays_in hw1) (zTt q.1) n1 n2 C.2.2.2.2.2.1 C.2.2.2.2.2.2.2.1 hP hD hS a (zW_get ho) (by rw [← e1]; exact hw1) q.2 hw2 (C.2.2.2.2.2.2.1 _ (by rw [← hM.2.1]; exact hw4)) (fun _ h9 => by rw [← hw3]; exact h9) t1 (n1 _ hw2) ?_ ?_ ?_ hd (fun H1 locs1 hP1 hD1 hS1 => ?_)
          · rw [t2]
            split
            · rfl
            · next hk => rcases hv with z | rfl | rfl; exact absurd z hk; rfl; rfl
          · rw [t2]
            split
            · rfl
            · next hk => rcases hv with z | rfl | rfl; exact absurd z hk; rfl; rfl
          · rw [List.length_mapIdx, t3]; exact hw2
          · have e2 := zC_put (ad := ad) (cA := cA) (s := s0) (k := a) hf v
            have e3 := zW_set (ad := ad) (cA := cA) ho (zw_ne s0 a q.2 v)
            rw [e2] at e3
            rw [e3] at hP1 hD1
            exact k hM p l e s m args below meth c D cA ad A C H1 locs1 lsC hP1 hD1 hS1 hl
        cases hf : o.2[q.2]? with
        | none => simp [hf] at h
        | some f =>
          rw [hf] at h
          rcases f with (_ | _ | z) | z
          · cases h; exact key _ hf (Or.inl rfl) k
          · by_cases hc : v = 0 ∨ v = 1
            · simp only [cond_true, if_pos hc] at h
              cases h
              exact key _ hf (Or.inr hc) k
            · simp only [cond_true, if_neg hc] at h
              cases h
          · cases h
          · cases h
    · cases h
  · cases h
end ZR
