/-! the two worlds: the class's cells, the reference's cells -/
def ΛG : List zD := [
  .inl (11, [.inr 1, .inr 6, .inr 13, .inr 16, .inr 25, .inr 27, .inl 1, .inr 29, .inr 32, .inr 36, .inr 39]),
  .inl (4, [.inr 2, .inr 3, .inr 4, .inr 5, .inl 0, .inl 0]),
  .inr (0, 8, 0),
  .inr (0, 40, 0),
  .inr (0, 40, 0),
  .inr (0, 40, 0),
  .inl (7, [.inr 7, .inr 8, .inr 9, .inl 0, .inr 10, .inr 11, .inl 1, .inr 12]),
  .inr (0, 32, 0),
  .inr (0, 32, 0),
  .inr (0, 128, 0),
  .inr (0, 32, 0),
  .inr (0, 32, 0),
  .inr (0, 160, 0),
  .inl (9, [.inr 14, .inl 0, .inr 15, .inl 0, .inl 0]),
  .inr (0, 120, 0),
  .inr (0, 121, 0),
  .inl (3, [.inr 17, .inr 20, .inr 23, .inl 0, .inr 24]),
  .inl (2, [.inr 18, .inr 19, .inl 0, .inl 1]),
  .inr (0, 121, 0),
  .inr (0, 121, 0),
  .inl (2, [.inr 21, .inr 22, .inl 0, .inl 1]),
  .inr (0, 121, 0),
  .inr (0, 121, 0),
  .inr (0, 9, 0),
  .inr (0, 1056, 0),
  .inl (0, [.inr 26, .inl 0, .inl 0, .inl 0, .inl 0, .inl 0, .inl 0, .inl 0, .inl 0, .inl 0, .inl 0, .inl 0, .inl 0, .inl 0]),
  .inr (0, 32, 0),
  .inl (0, [.inr 28, .inl 0, .inl 0, .inl 0, .inl 0, .inl 0, .inl 0, .inl 0, .inl 0, .inl 0, .inl 0, .inl 0, .inl 0, .inl 0]),
  .inr (0, 32, 0),
  .inl (10, [.inr 30, .inr 31]),
  .inr (0, 8, 0),
  .inr (0, 3, 0),
  .inl (6, [.inr 33, .inr 34, .inr 35]),
  .inr (0, 36, 0),
  .inr (0, 64, 0),
  .inr (0, 64, 0),
  .inl (1, [.inr 37, .inl 0, .inr 38, .inl 0, .inl 0]),
  .inr (0, 50, 0),
  .inr (0, 24, 0),
  .inr (2, 6, 40),
  .inl (5, [.inl 0, .inl 0, .inl 0, .inr 41]),
  .inr (1, 60, 0),
  .inl (5, [.inl 0, .inl 0, .inl 0, .inr 43]),
  .inr (1, 60, 0),
  .inl (5, [.inl 0, .inl 0, .inl 0, .inr 45]),
  .inr (1, 60, 0),
  .inl (5, [.inl 0, .inl 0, .inl 0, .inr 47]),
  .inr (1, 60, 0),
  .inl (5, [.inl 0, .inl 0, .inl 0, .inr 49]),
  .inr (1, 60, 0),
  .inl (5, [.inl 0, .inl 0, .inl 0, .inr 51]),
  .inr (1, 60, 0)]
def ΛM : List zD := [
  .inl (12, [.inr 1, .inr 2, .inr 3, .inr 4, .inl 0, .inl 0, .inr 5, .inr 6, .inl 0, .inr 7, .inr 8, .inl 0, .inr 9, .inr 10, .inl 0, .inl 0, .inl 0, .inl 0, .inl 0, .inr 11, .inr 12, .inl 0, .inl 0, .inl 0, .inl 0, .inl 0, .inl 0, .inl 1, .inr 13, .inr 14, .inl 0, .inr 15, .inr 16, .inr 17, .inr 18, .inr 19, .inr 20, .inr 21, .inl 1, .inr 22, .inr 23, .inl 0, .inr 24, .inr 25, .inl 0, .inl 0, .inl 0, .inr 26, .inr 27, .inr 28, .inr 29]),
  .inr (0, 8, 0),
  .inr (0, 40, 0),
  .inr (0, 40, 0),
  .inr (0, 40, 0),
  .inr (0, 32, 0),
  .inr (0, 32, 0),
  .inr (0, 128, 0),
  .inr (0, 120, 0),
  .inr (0, 240, 0),
  .inr (0, 2, 0),
  .inr (0, 9, 0),
  .inr (0, 32, 0),
  .inr (0, 8, 0),
  .inr (0, 32, 0),
  .inr (0, 165, 0),
  .inr (1, 10, 0),
  .inr (0, 8, 0),
  .inr (0, 3, 0),
  .inr (0, 36, 0),
  .inr (0, 64, 0),
  .inr (0, 64, 0),
  .inr (0, 32, 0),
  .inr (0, 32, 0),
  .inr (0, 50, 0),
  .inr (0, 24, 0),
  .inr (0, 6, 0),
  .inr (0, 6, 0),
  .inr (1, 360, 0),
  .inr (1, 60, 0)]
theorem zlokG : zLok ΛG = true := by decide +kernel
theorem zlokM : zLok ΛM = true := by decide +kernel
abbrev zDyAt (o : Nat) : Prop := ΛG[o]? = some (.inl (0, [.inr (o + 1), .inl 0, .inl 0, .inl 0, .inl 0, .inl 0, .inl 0, .inl 0, .inl 0, .inl 0, .inl 0, .inl 0, .inl 0, .inl 0])) ∧ ΛG[o + 1]? = some (.inr (0, 32, 0))
abbrev zLwAt (o : Nat) : Prop := ΛG[o]? = some (.inl (2, [.inr (o + 1), .inr (o + 2), .inl 0, .inl 1])) ∧ ΛG[o + 1]? = some (.inr (0, 121, 0)) ∧ ΛG[o + 2]? = some (.inr (0, 121, 0))
abbrev zShAt (o : Nat) : Prop := ΛG[o]? = some (.inl (5, [.inl 0, .inl 0, .inl 0, .inr (o + 1)])) ∧ ΛG[o + 1]? = some (.inr (1, 60, 0))
theorem zsh_at {j : Nat} (h : j < 6) : zShAt (40 + 2 * j) := by
  match j, h with
  | 0, _ => exact ⟨rfl, rfl⟩
  | 1, _ => exact ⟨rfl, rfl⟩
  | 2, _ => exact ⟨rfl, rfl⟩
  | 3, _ => exact ⟨rfl, rfl⟩
  | 4, _ => exact ⟨rfl, rfl⟩
  | 5, _ => exact ⟨rfl, rfl⟩
def zFu : Nat := 5000
def zfill (s : zSt) (k n : Nat) (v : Int32) : zSt := (fun a => if a = k then (fun j => if j < n then v else s.1 k j) else s.1 a, s.2)
def zfillL (s : zSt) (k n : Nat) (v : Int64) : zSt := (s.1, fun a => if a = k then (fun j => if j < n then v else s.2 k j) else s.2 a)
def zKd (Λ : List zD) : Bool := Λ.all fun d => match d with
  | .inl o => o.2.all fun f => match f with
    | .inl kd => Nat.ble kd 1
    | .inr _ => true
  | .inr _ => true
section ZD
variable {M : zM} {Λ : List zD} {d : Nat} {res : Option Value × zSt} {pc : Nat} {ls : List (Nat × Value)} {st rest : List Value} {s : zSt}
theorem zSI {α : Type} {X : Option (Int32 × zSt)} {g : Int32 × zSt → Option α} {r : α} (hf : X.bind g = some r) {M' : zM} {d' idx : Nat} {As : List Value} (n : Nat) (hM' : zMok M') (hs : zSok M' n) (hl : Cond.methodLink M.2.1.cls idx M'.2.1 ∈ tables_1) (h : zlk M.2.2.2.2.2 pc = some (.invokestatic idx, 3)) (hR : (Nat.ble (d' + 1) d && Nat.ble M'.2.2.2.1 45) = true) (hc : Nat.ble ((rest.map fun v => v.category).sum) 8 = true) (hst : st = As.reverse ++ rest) (hn : As.length = n)
    (K : ∀ x, X = some x → zKp M' Λ d' As s (some (.int x.1), x.2)) (k : ∀ x, g x = some r → zWA M Λ d res (pc + 3) ls (.int x.1 :: rest) x.2) : zWA M Λ d res pc ls st s :=
  zBd hf fun x h1 h2 => zCallS n hM' hs hl h hR hc hst hn (K x h1) (k x h2)
theorem zSL {α : Type} {X : Option (Int64 × zSt)} {g : Int64 × zSt → Option α} {r : α} (hf : X.bind g = some r) {M' : zM} {d' idx : Nat} {As : List Value} (n : Nat) (hM' : zMok M') (hs : zSok M' n) (hl : Cond.methodLink M.2.1.cls idx M'.2.1 ∈ tables_1) (h : zlk M.2.2.2.2.2 pc = some (.invokestatic idx, 3)) (hR : (Nat.ble (d' + 1) d && Nat.ble M'.2.2.2.1 45) = true) (hc : Nat.ble ((rest.map fun v => v.category).sum) 8 = true) (hst : st = As.reverse ++ rest) (hn : As.length = n)
    (K : ∀ x, X = some x → zKp M' Λ d' As s (some (.long x.1), x.2)) (k : ∀ x, g x = some r → zWA M Λ d res (pc + 3) ls (.long x.1 :: rest) x.2) : zWA M Λ d res pc ls st s :=
  zBd hf fun x h1 h2 => zCallS n hM' hs hl h hR hc hst hn (K x h1) (k x h2)
theorem zSV {α : Type} {X : Option (zSt)} {g : zSt → Option α} {r : α} (hf : X.bind g = some r) {M' : zM} {d' idx : Nat} {As : List Value} (n : Nat) (hM' : zMok M') (hs : zSok M' n) (hl : Cond.methodLink M.2.1.cls idx M'.2.1 ∈ tables_1) (h : zlk M.2.2.2.2.2 pc = some (.invokestatic idx, 3)) (hR : (Nat.ble (d' + 1) d && Nat.ble M'.2.2.2.1 45) = true) (hc : Nat.ble ((rest.map fun v => v.category).sum) 8 = true) (hst : st = As.reverse ++ rest) (hn : As.length = n)
    (K : ∀ x, X = some x → zKp M' Λ d' As s (none, x)) (k : ∀ x, g x = some r → zWA M Λ d res (pc + 3) ls (rest) x) : zWA M Λ d res pc ls st s :=
  zBd hf fun x h1 h2 => zCallS n hM' hs hl h hR hc hst hn (K x h1) (k x h2)
theorem zNI {α : Type} {X : Option (Int32 × zSt)} {g : Int32 × zSt → Option α} {r : α} (hf : X.bind g = some r) {M' : zM} {d' idx : Nat} {As : List Value} (n : Nat) (hM' : zMok M') (hs : zSok M' n) (hl : Cond.methodLinkNest M.2.1.cls idx M'.2.1 "LemonGate" ∈ tables_1) (h : zlk M.2.2.2.2.2 pc = some (.invokestatic idx, 3)) (hR : (Nat.ble (d' + 1) d && Nat.ble M'.2.2.2.1 45) = true) (hc : Nat.ble ((rest.map fun v => v.category).sum) 8 = true) (hst : st = As.reverse ++ rest) (hn : As.length = n)
    (K : ∀ x, X = some x → zKp M' Λ d' As s (some (.int x.1), x.2)) (k : ∀ x, g x = some r → zWA M Λ d res (pc + 3) ls (.int x.1 :: rest) x.2) : zWA M Λ d res pc ls st s :=
  zBd hf fun x h1 h2 => zCallN n hM' hs hl h hR hc hst hn (K x h1) (k x h2)
theorem zNL {α : Type} {X : Option (Int64 × zSt)} {g : Int64 × zSt → Option α} {r : α} (hf : X.bind g = some r) {M' : zM} {d' idx : Nat} {As : List Value} (n : Nat) (hM' : zMok M') (hs : zSok M' n) (hl : Cond.methodLinkNest M.2.1.cls idx M'.2.1 "LemonGate" ∈ tables_1) (h : zlk M.2.2.2.2.2 pc = some (.invokestatic idx, 3)) (hR : (Nat.ble (d' + 1) d && Nat.ble M'.2.2.2.1 45) = true) (hc : Nat.ble ((rest.map fun v => v.category).sum) 8 = true) (hst : st = As.reverse ++ rest) (hn : As.length = n)
    (K : ∀ x, X = some x → zKp M' Λ d' As s (some (.long x.1), x.2)) (k : ∀ x, g x = some r → zWA M Λ d res (pc + 3) ls (.long x.1 :: rest) x.2) : zWA M Λ d res pc ls st s :=
  zBd hf fun x h1 h2 => zCallN n hM' hs hl h hR hc hst hn (K x h1) (k x h2)
theorem zNV {α : Type} {X : Option (zSt)} {g : zSt → Option α} {r : α} (hf : X.bind g = some r) {M' : zM} {d' idx : Nat} {As : List Value} (n : Nat) (hM' : zMok M') (hs : zSok M' n) (hl : Cond.methodLinkNest M.2.1.cls idx M'.2.1 "LemonGate" ∈ tables_1) (h : zlk M.2.2.2.2.2 pc = some (.invokestatic idx, 3)) (hR : (Nat.ble (d' + 1) d && Nat.ble M'.2.2.2.1 45) = true) (hc : Nat.ble ((rest.map fun v => v.category).sum) 8 = true) (hst : st = As.reverse ++ rest) (hn : As.length = n)
    (K : ∀ x, X = some x → zKp M' Λ d' As s (none, x)) (k : ∀ x, g x = some r → zWA M Λ d res (pc + 3) ls (rest) x) : zWA M Λ d res pc ls st s :=
  zBd hf fun x h1 h2 => zCallN n hM' hs hl h hR hc hst hn (K x h1) (k x h2)
theorem zXI {α : Type} {X : Option (Int32 × zSt)} {g : Int32 × zSt → Option α} {r : α} (hf : X.bind g = some r) {M' : zM} {d' idx : Nat} {As : List Value} {b : Nat} {o : Nat × List (Nat ⊕ Nat)} {w : vw_C} (n : Nat) (hM' : zMok M') (hs : zVok M' n) (hl : Cond.methodLink M.2.1.cls idx M'.2.1 ∈ tables_1) (h : zlk M.2.2.2.2.2 pc = some (.invokevirtual idx, 3)) (ho : Λ[b]? = some (.inl o)) (hw : zCl[o.1]? = some w) (hwc : w.1 = M'.2.1.cls) (hR : (Nat.ble (d' + 1) d && Nat.ble M'.2.2.2.1 45) = true) (hc : Nat.ble ((rest.map fun v => v.category).sum) 8 = true) (hst : st = As.reverse ++ .ref b :: rest) (hn : As.length = n)
    (K : ∀ x, X = some x → zKp M' Λ d' (.ref b :: As) s (some (.int x.1), x.2)) (k : ∀ x, g x = some r → zWA M Λ d res (pc + 3) ls (.int x.1 :: rest) x.2) : zWA M Λ d res pc ls st s :=
  zBd hf fun x h1 h2 => zCallV n hM' hs hl h ho hw hwc hR hc hst hn (K x h1) (k x h2)
theorem zXL {α : Type} {X : Option (Int64 × zSt)} {g : Int64 × zSt → Option α} {r : α} (hf : X.bind g = some r) {M' : zM} {d' idx : Nat} {As : List Value} {b : Nat} {o : Nat × List (Nat ⊕ Nat)} {w : vw_C} (n : Nat) (hM' : zMok M') (hs : zVok M' n) (hl : Cond.methodLink M.2.1.cls idx M'.2.1 ∈ tables_1) (h : zlk M.2.2.2.2.2 pc = some (.invokevirtual idx, 3)) (ho : Λ[b]? = some (.inl o)) (hw : zCl[o.1]? = some w) (hwc : w.1 = M'.2.1.cls) (hR : (Nat.ble (d' + 1) d && Nat.ble M'.2.2.2.1 45) = true) (hc : Nat.ble ((rest.map fun v => v.category).sum) 8 = true) (hst : st = As.reverse ++ .ref b :: rest) (hn : As.length = n)
    (K : ∀ x, X = some x → zKp M' Λ d' (.ref b :: As) s (some (.long x.1), x.2)) (k : ∀ x, g x = some r → zWA M Λ d res (pc + 3) ls (.long x.1 :: rest) x.2) : zWA M Λ d res pc ls st s :=
  zBd hf fun x h1 h2 => zCallV n hM' hs hl h ho hw hwc hR hc hst hn (K x h1) (k x h2)
theorem zXV {α : Type} {X : Option (zSt)} {g : zSt → Option α} {r : α} (hf : X.bind g = some r) {M' : zM} {d' idx : Nat} {As : List Value} {b : Nat} {o : Nat × List (Nat ⊕ Nat)} {w : vw_C} (n : Nat) (hM' : zMok M') (hs : zVok M' n) (hl : Cond.methodLink M.2.1.cls idx M'.2.1 ∈ tables_1) (h : zlk M.2.2.2.2.2 pc = some (.invokevirtual idx, 3)) (ho : Λ[b]? = some (.inl o)) (hw : zCl[o.1]? = some w) (hwc : w.1 = M'.2.1.cls) (hR : (Nat.ble (d' + 1) d && Nat.ble M'.2.2.2.1 45) = true) (hc : Nat.ble ((rest.map fun v => v.category).sum) 8 = true) (hst : st = As.reverse ++ .ref b :: rest) (hn : As.length = n)
    (K : ∀ x, X = some x → zKp M' Λ d' (.ref b :: As) s (none, x)) (k : ∀ x, g x = some r → zWA M Λ d res (pc + 3) ls (rest) x) : zWA M Λ d res pc ls st s :=
  zBd hf fun x h1 h2 => zCallV n hM' hs hl h ho hw hwc hR hc hst hn (K x h1) (k x h2)
theorem zkd_no (hL : zKd Λ = true) {ci j kd : Nat} {fs : List (Nat ⊕ Nat)} (ho : Sum.inl (ci, fs) ∈ Λ) (hfd : fs[j]? = some (.inl kd)) (h0 : ¬ kd = 0) (h1 : ¬ kd = 1) : False := by
  have h := List.all_eq_true.mp hL _ ho
  have h2 := List.all_eq_true.mp h _ (List.mem_of_getElem? hfd)
  have h3 := Nat.le_of_ble_eq_true h2
  omega
theorem zGetI {k idx ci j kd : Nat} {fs : List (Nat ⊕ Nat)} (h : zlk M.2.2.2.2.2 pc = some (.getfield idx, 3)) (hq : zlk (zfl M.1) idx = some (ci, j)) (ho : Λ[k]? = some (.inl (ci, fs))) (hfd : fs[j]? = some (.inl kd)) (kk : zWA M Λ d res (pc + 3) ls (.int (s.1 k j) :: rest) s) : zWA M Λ d res pc ls (.ref k :: rest) s :=
  fun hM => zs_get (x := (ls, .ref k :: rest, s)) (y := (ls, .int (s.1 k j) :: rest, s)) (zdec hM h) (by simp [zGet, hq, ho, hfd]) kk hM
theorem zGetR {k idx ci j b : Nat} {fs : List (Nat ⊕ Nat)} (h : zlk M.2.2.2.2.2 pc = some (.getfield idx, 3)) (hq : zlk (zfl M.1) idx = some (ci, j)) (ho : Λ[k]? = some (.inl (ci, fs))) (hfd : fs[j]? = some (.inr b)) (kk : zWA M Λ d res (pc + 3) ls (.ref b :: rest) s) : zWA M Λ d res pc ls (.ref k :: rest) s :=
  fun hM => zs_get (x := (ls, .ref k :: rest, s)) (y := (ls, .ref b :: rest, s)) (zdec hM h) (by simp [zGet, hq, ho, hfd]) kk hM
theorem zPutX {α : Type} {r : α} {g : zSt → Option α} (hL : zLok Λ = true ∧ zKd Λ = true) {k idx ci j kd : Nat} {v : Int32} {fs : List (Nat ⊕ Nat)} (hf : (some (zw s k j v)).bind g = some r) (h : zlk M.2.2.2.2.2 pc = some (.putfield idx, 3)) (hq : zlk (zfl M.1) idx = some (ci, j)) (ho : Λ[k]? = some (.inl (ci, fs))) (hfd : fs[j]? = some (.inl kd)) (hv : kd = 0 ∨ (v = 0 ∨ v = 1)) (kk : ∀ s', g s' = some r → zWA M Λ d res (pc + 3) ls rest s') : zWA M Λ d res pc ls (.int v :: .ref k :: rest) s := by
  refine zBd hf fun s' h1 h2 => ?_
  cases h1
  intro hM
  have hk : kd = 0 ∨ kd = 1 := by
    by_cases h0 : kd = 0
    · exact Or.inl h0
    · rcases hv with z | z
      · exact absurd z h0
      · by_cases h3 : kd = 1
        · exact Or.inr h3
        · exfalso
          exact zkd_no hL.2 (List.mem_of_getElem? ho) hfd h0 h3
  refine zs_put (x := (ls, .int v :: .ref k :: rest, s)) (y := (ls, rest, zw s k j v)) (zdec hM h) ?_ (fun q w o kd _ hw ho e hf => zLok_put hL.1 hw ho e hf) (kk _ h2) hM
  rcases hk with rfl | rfl
  · simp [zPut, hq, ho, hfd]
  · rcases hv with z | z
    · cases z
    · simp [zPut, hq, ho, hfd, z]
theorem zRetZc {r : Int32 × zSt} {v : Int32} (hf : some (v, s) = some r) (hv : v = 0 ∨ v = 1) (h : zlk M.2.2.2.2.2 pc = some (.ireturn, 1)) (hr : M.2.2.2.2.1 = some .boolean) : zWA M Λ d (some (.int r.1), r.2) pc ls [.int v] s :=
  zRetZ (g := fun v => some (v, s)) (by rw [zbo, if_pos hv]; exact hf) h hr
end ZD
theorem zlkkG : zLok ΛG = true ∧ zKd ΛG = true := ⟨zlokG, by decide +kernel⟩
