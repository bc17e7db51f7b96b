/-! THE START 1: what the tables and the Statement give -/
theorem zin_0 : Cond.instantiable "LemonGate$Day" 14 ∈ tables_1 := List.mem_of_getElem? (i := 166) (by decide +kernel)
theorem zin_1 : Cond.instantiable "LemonGate$Glasses" 5 ∈ tables_1 := List.mem_of_getElem? (i := 249) (by decide +kernel)
theorem zin_2 : Cond.instantiable "LemonGate$Law" 4 ∈ tables_1 := List.mem_of_getElem? (i := 128) (by decide +kernel)
theorem zin_3 : Cond.instantiable "LemonGate$Laws" 5 ∈ tables_1 := List.mem_of_getElem? (i := 122) (by decide +kernel)
theorem zin_4 : Cond.instantiable "LemonGate$Recipe" 6 ∈ tables_1 := List.mem_of_getElem? (i := 26) (by decide +kernel)
theorem zin_5 : Cond.instantiable "LemonGate$Shelf" 4 ∈ tables_1 := List.mem_of_getElem? (i := 276) (by decide +kernel)
theorem zin_6 : Cond.instantiable "LemonGate$Slates" 3 ∈ tables_1 := List.mem_of_getElem? (i := 233) (by decide +kernel)
theorem zin_7 : Cond.instantiable "LemonGate$Street" 8 ∈ tables_1 := List.mem_of_getElem? (i := 57) (by decide +kernel)
theorem zin_9 : Cond.instantiable "LemonGate$Tape" 5 ∈ tables_1 := List.mem_of_getElem? (i := 97) (by decide +kernel)
theorem zin_10 : Cond.instantiable "LemonGate$Three" 2 ∈ tables_1 := List.mem_of_getElem? (i := 218) (by decide +kernel)
theorem zin_11 : Cond.instantiable "LemonGate" 11 ∈ tables_1 := List.mem_of_getElem? (i := 18) (by decide +kernel)
theorem zin_12 : Cond.instantiable "LemonGateModel" 51 ∈ tables_1 := List.mem_of_getElem? (i := 897) (by decide +kernel)
theorem zKnown {args : Array Value} {s : State} (hts : ∀ w ∈ zTb, w.before args s = true) : ∃ (dC : Nat → ClassId) (dI : Nat → Nat → Nat), ∀ (k : Nat) (q : vw_C), zCl[k]? = some q → u_Kn s q.1 q.2.1 q.2.2 (dC k) (dI k) := by
  have H1 : ∀ (k : Nat) (q : vw_C), zCl[k]? = some q → ∃ (c : ClassId) (iS : Nat → Nat), u_Kn s q.1 q.2.1 q.2.2 c iS := by
    intro k q hq
    match k, hq with
    | 0, hq => cases hq; exact u_known hts (zlays_in (ci := 0) rfl) (hts _ (zTb_of zin_0 rfl))
    | 1, hq => cases hq; exact u_known hts (zlays_in (ci := 1) rfl) (hts _ (zTb_of zin_1 rfl))
    | 2, hq => cases hq; exact u_known hts (zlays_in (ci := 2) rfl) (hts _ (zTb_of zin_2 rfl))
    | 3, hq => cases hq; exact u_known hts (zlays_in (ci := 3) rfl) (hts _ (zTb_of zin_3 rfl))
    | 4, hq => cases hq; exact u_known hts (zlays_in (ci := 4) rfl) (hts _ (zTb_of zin_4 rfl))
    | 5, hq => cases hq; exact u_known hts (zlays_in (ci := 5) rfl) (hts _ (zTb_of zin_5 rfl))
    | 6, hq => cases hq; exact u_known hts (zlays_in (ci := 6) rfl) (hts _ (zTb_of zin_6 rfl))
    | 7, hq => cases hq; exact u_known hts (zlays_in (ci := 7) rfl) (hts _ (zTb_of zin_7 rfl))
    | 8, hq => cases hq; exact u_known hts (zlays_in (ci := 8) rfl) (hts _ (zTb_of zin_0 rfl))
    | 9, hq => cases hq; exact u_known hts (zlays_in (ci := 9) rfl) (hts _ (zTb_of zin_9 rfl))
    | 10, hq => cases hq; exact u_known hts (zlays_in (ci := 10) rfl) (hts _ (zTb_of zin_10 rfl))
    | 11, hq => cases hq; exact u_known hts (zlays_in (ci := 11) rfl) (hts _ (zTb_of zin_11 rfl))
    | 12, hq => cases hq; exact u_known hts (zlays_in (ci := 12) rfl) (hts _ (zTb_of zin_12 rfl))
    | n + 13, hq => simp [zCl] at hq
  have H2 : ∀ k : Nat, ∃ (c : ClassId) (iS : Nat → Nat), ∀ q : vw_C, zCl[k]? = some q → u_Kn s q.1 q.2.1 q.2.2 c iS := by
    intro k
    cases hq : zCl[k]? with
    | none => exact ⟨0, fun _ => 0, fun q h => by cases h⟩
    | some q =>
      obtain ⟨c, iS, h⟩ := H1 k q hq
      exact ⟨c, iS, fun q' h' => by cases h'; exact h⟩
  exact ⟨fun k => (H2 k).choose, fun k => (H2 k).choose_spec.choose, fun k q hq => (H2 k).choose_spec.choose_spec q hq⟩
theorem zArO : Cond.arrayOver (.object "LemonGate$Shelf") ∈ tables_1 := List.mem_of_getElem? (i := 275) (by decide +kernel)
theorem zKall {args : Array Value} {s : State} (hts : ∀ w ∈ lw_tbl, w.before args s = true) : ∃ (D : va_G) (cA : Nat → ClassId), va_K D zCl (zTy cA) s := by
  obtain ⟨dC, dI, h⟩ := zKnown (fun w hw => hts w (List.mem_filter.mp hw).1)
  obtain ⟨c0, k0', p0, a1, a2, a3⟩ := Cond.arrayClass_spec (hts _ (List.mem_append_right _ zArrI))
  obtain ⟨c1, k1', p1, b1, b2, b3⟩ := Cond.arrayClass_spec (hts _ (List.mem_append_right _ zArrL))
  obtain ⟨p2, c2, k2', d1, d2, d3, d4, d5⟩ := Cond.arrayOver_spec (hts _ (List.mem_append_right _ zArO))
  refine ⟨(dC, dI), fun k => if k = 0 then c0 else if k = 1 then c1 else c2, h, fun k q hq => ?_⟩
  match k, hq with
  | 0, hq =>
    cases hq
    exact ⟨fun n z => ⟨fun k h => (by cases h), k0', a2, p0, a3⟩, a1⟩
  | 1, hq =>
    cases hq
    exact ⟨fun n z => ⟨fun k h => (by cases h), k1', b2, p1, b3⟩, b1⟩
  | 2, hq =>
    cases hq
    exact ⟨fun n z => ⟨fun k h => (by cases h), k2', d3, p2, d4⟩, k2', p2, d3, d4, d1, d5⟩
  | k + 3, hq => simp [zTy] at hq
theorem zTab1 {args : Array Value} {s : State} {A : Nat → Prop} (hs : ∀ c ∈ flatC (Jvm.Cond.and given_1 narrow_1), c.before args s = true) (hA : ∀ a : Nat, a < s.heap.size → ¬ A a) (e : String × String × String × FieldType × List Int32) (hl : (Cond.laysStatic e.1 e.2.1 e.2.2.1).before args s = true) (hini : (Cond.initialized e.1).before args s = true) (h1 : Cond.arrayOf (.static e.1 e.2.1 e.2.2.1) e.2.2.2.1 ∈ flatC (Jvm.Cond.and given_1 narrow_1)) (h2 : Cond.eq (.length (.static e.1 e.2.1 e.2.2.1)) (.int (Int32.ofNat e.2.2.2.2.length)) ∈ flatC (Jvm.Cond.and given_1 narrow_1)) (h3 : ∀ j, j < e.2.2.2.2.length → Cond.eq (.elem (.static e.1 e.2.1 e.2.2.1) (.int (Int32.ofNat j))) (.int (e.2.2.2.2.getD j 0)) ∈ flatC (Jvm.Cond.and given_1 narrow_1)) (hn : e.2.2.2.2.length < 2 ^ 31) : ∃ t : Nat, va_Z e.1 e.2.1 e.2.2.1 (.ref t) A s s.heap ∧ va_T e.2.2.2.1 t e.2.2.2.2.length (fun i => .int (e.2.2.2.2.getD i 0)) A s s.heap := by
  obtain ⟨t, ht, hT⟩ := va_Tof (f := fun i => .int (e.2.2.2.2.getD i 0)) (A := A) hn (hs _ h1) (va_eqt (hs _ h2)) (fun j hj => va_eqt (hs _ (h3 j hj))) hA
  exact ⟨t, va_Zref hl hini ht hA, hT⟩
theorem zls_0 : Cond.laysStatic "LemonGate$Tape" "NAMES" "[C" ∈ tables_1 := List.mem_of_getElem? (i := 148) (by decide +kernel)
theorem zls_1 : Cond.laysStatic "LemonGate$Recipe" "LEAST" "[I" ∈ tables_1 := List.mem_of_getElem? (i := 397) (by decide +kernel)
theorem zls_2 : Cond.laysStatic "LemonGate$Recipe" "MOST" "[I" ∈ tables_1 := List.mem_of_getElem? (i := 399) (by decide +kernel)
theorem zls_3 : Cond.laysStatic "LemonGate$Glasses" "BODIES" "[I" ∈ tables_1 := List.mem_of_getElem? (i := 823) (by decide +kernel)
theorem zls_4 : Cond.laysStatic "LemonGate$Glasses" "ABOVE" "[I" ∈ tables_1 := List.mem_of_getElem? (i := 825) (by decide +kernel)
abbrev zTbe (j : Nat) : String × String × String × FieldType × List Int32 := zTab.getD j ("", "", "", .int, [])
theorem zTab_cases {P : Nat → String × String × String × FieldType × List Int32 → Prop} (h0 : P 0 (zTbe 0)) (h1 : P 1 (zTbe 1)) (h2 : P 2 (zTbe 2)) (h3 : P 3 (zTbe 3)) (h4 : P 4 (zTbe 4)) : ∀ j e, zTab[j]? = some e → P j e := by
  intro j e he
  have hj : j < 5 := (List.getElem?_eq_some_iff.mp he).1
  rcases (show j = 0 ∨ j = 1 ∨ j = 2 ∨ j = 3 ∨ j = 4 by omega) with rfl | rfl | rfl | rfl | rfl
  · cases he; exact h0
  · cases he; exact h1
  · cases he; exact h2
  · cases he; exact h3
  · cases he; exact h4
theorem zTabs {args : Array Value} {s : State} {A : Nat → Prop} (hts : ∀ w ∈ lw_tbl, w.before args s = true) (hg : (Jvm.Cond.and given_1 narrow_1).before args s = true) (hA : ∀ a : Nat, a < s.heap.size → ¬ A a) : ∃ sta : Nat → Nat, zSx (fun k => sta (k - 1000)) A s := by
  have hs := flat_of_before _ hg
  have w : ∀ c ∈ tables_1, c.before args s = true := fun c hc => hts c (List.mem_append_right _ hc)
  obtain ⟨t0, z0, y0⟩ := zTab1 hs hA (zTbe 0) (w _ zls_0) (w _ zci_9) (by decide +kernel) (by decide +kernel) (by decide +kernel) (by decide +kernel)
  obtain ⟨t1, z1, y1⟩ := zTab1 hs hA (zTbe 1) (w _ zls_1) (w _ zci_4) (by decide +kernel) (by decide +kernel) (by decide +kernel) (by decide +kernel)
  obtain ⟨t2, z2, y2⟩ := zTab1 hs hA (zTbe 2) (w _ zls_2) (w _ zci_4) (by decide +kernel) (by decide +kernel) (by decide +kernel) (by decide +kernel)
  obtain ⟨t3, z3, y3⟩ := zTab1 hs hA (zTbe 3) (w _ zls_3) (w _ zci_1) (by decide +kernel) (by decide +kernel) (by decide +kernel) (by decide +kernel)
  obtain ⟨t4, z4, y4⟩ := zTab1 hs hA (zTbe 4) (w _ zls_4) (w _ zci_1) (by decide +kernel) (by decide +kernel) (by decide +kernel) (by decide +kernel)
  refine ⟨fun j => [t0, t1, t2, t3, t4].getD j 0, fun j e he => ?_, fun c hc => ?_⟩
  · have hj : 1000 + j - 1000 = j := by omega
    dsimp only
    rw [hj]
    exact zTab_cases (P := fun j e => va_Z e.1 e.2.1 e.2.2.1 (.ref ([t0, t1, t2, t3, t4].getD j 0)) A s s.heap ∧ va_T e.2.2.2.1 ([t0, t1, t2, t3, t4].getD j 0) e.2.2.2.2.length (fun i => .int (e.2.2.2.2.getD i 0)) A s s.heap) ⟨z0, y0⟩ ⟨z1, y1⟩ ⟨z2, y2⟩ ⟨z3, y3⟩ ⟨z4, y4⟩ j e he
  · have hz := (List.mem_filter.mp hc).2
    have hon : c.onTables = true := by cases c <;> first | rfl | cases hz
    exact va_Nw.of hon (w _ (List.mem_filter.mp hc).1)
theorem zsub_l {A : Nat → Prop} {D : va_G} {cl : List vw_C} {wr wc : va_W} {H : Heap} (hP : va_P D cl (wr ++ wc) H) (hD : va_D A (wr ++ wc)) : va_P D cl wr H ∧ va_D A wr := by
  have inl : ∀ (k : Nat) (q : Nat × va_E), wr[k]? = some q → (wr ++ wc)[k]? = some q := fun k q h => by
    rw [List.getElem?_append_left (List.getElem?_eq_some_iff.mp h).1]; exact h
  exact ⟨fun k q h => hP k q (inl k q h), fun i j x y hx hy e => hD.1 i j x y (inl i x hx) (inl j y hy) e, fun k q h => hD.2 k q (inl k q h)⟩
