/-! blocks, branches, arrays, answers, calls: the rows of the layer -/
def zrun (own nL : Nat) (Λ : List zD) : Nat → List (Nat × Instr × Nat) → Nat → zS → Option (Nat × zS)
  | 0, _, pc, x => some (pc, x)
  | _ + 1, [], _, _ => none
  | n + 1, e :: is, pc, x => cond (Nat.beq e.1 pc) (match zstep own nL Λ e.2.1 x with
    | (m, some y) => cond (Nat.beq m e.2.2) (zrun own nL Λ n is (pc + e.2.2) y) none
    | _ => none) none
def zsuf (pc : Nat) : List (Nat × Instr × Nat) → List (Nat × Instr × Nat)
  | [] => []
  | e :: l => cond (Nat.beq e.1 pc) (e :: l) (zsuf pc l)
theorem zsuf_in {pc : Nat} : ∀ {l : List (Nat × Instr × Nat)}, ∀ e ∈ zsuf pc l, e ∈ l
  | [], e, h => h
  | a :: l, e, h => by
    unfold zsuf at h
    cases hb : Nat.beq a.1 pc with
    | true => rw [hb] at h; exact h
    | false => rw [hb] at h; exact List.mem_cons_of_mem _ (zsuf_in (l := l) e h)
def zin (i : Int32) (n : Nat) : Prop := 0 ≤ i.toInt ∧ i.toInt < (n : Int)
def zdin (i : Int32) (n : Nat) : Decidable (zin i n) := inferInstanceAs (Decidable (0 ≤ i.toInt ∧ i.toInt < (n : Int)))
theorem zin_vp {i : Int32} {n : Nat} (h : zin i n) : vp_in i n := vp_in_iff.mpr h
def zld (s : zSt) (k n : Nat) (i : Int32) : Option Int32 := if 0 ≤ i.toInt ∧ i.toInt < (n : Int) then some (s.1 k i.toNatClampNeg) else none
def zldl (s : zSt) (k n : Nat) (i : Int32) : Option Int64 := if 0 ≤ i.toInt ∧ i.toInt < (n : Int) then some (s.2 k i.toNatClampNeg) else none
def zlt (tab : List Int32) (i : Int32) : Option Int32 := if 0 ≤ i.toInt ∧ i.toInt < (tab.length : Int) then some (tab.getD i.toNatClampNeg 0) else none
def zla (n : Nat) (i : Int32) : Option Nat := if 0 ≤ i.toInt ∧ i.toInt < (n : Int) then some i.toNatClampNeg else none
def zst (s : zSt) (k n : Nat) (i v : Int32) : Option zSt := if 0 ≤ i.toInt ∧ i.toInt < (n : Int) then some (zw s k i.toNatClampNeg v) else none
def zstl (s : zSt) (k n : Nat) (i : Int32) (v : Int64) : Option zSt := if 0 ≤ i.toInt ∧ i.toInt < (n : Int) then some (zwl s k i.toNatClampNeg v) else none
def zdv (x y : Int32) : Option Int32 := if y = 0 then none else some (x / y)
def zrv (x y : Int32) : Option Int32 := if y = 0 then none else some (zrem x y)
def zdvl (x y : Int64) : Option Int64 := if y = 0 then none else some (x / y)
def zrvl (x y : Int64) : Option Int64 := if y = 0 then none else some (zremL x y)
def zbo (v : Int32) : Option Int32 := if v = 0 ∨ v = 1 then some v else none
def zmax (x y : Int32) : Int32 := if x < y then y else x
def zmin (x y : Int32) : Int32 := if y < x then y else x
def zmaxL (x y : Int64) : Int64 := if y < x then x else y
def zabsL (x : Int64) : Int64 := if 0 < x then x else -x
def zcps (s : zSt) (k0 k1 sp dp n : Nat) : zSt := (fun a => if a = k1 then va_cpy (s.1 k0) (s.1 k1) sp dp n else s.1 a, s.2)
def zcpsl (s : zSt) (k0 k1 sp dp n : Nat) : zSt := (s.1, fun a => if a = k1 then va_cpy (s.2 k0) (s.2 k1) sp dp n else s.2 a)
def zcpok (n0 n1 : Nat) (sp dp n : Int32) : Prop := ¬ sp < 0 ∧ ¬ dp < 0 ∧ ¬ n < 0 ∧ sp.toNatClampNeg + n.toNatClampNeg ≤ n0 ∧ dp.toNatClampNeg + n.toNatClampNeg ≤ n1
def zcp (s : zSt) (k0 n0 k1 n1 : Nat) (sp dp n : Int32) : Option zSt := if ¬ sp < 0 ∧ ¬ dp < 0 ∧ ¬ n < 0 ∧ sp.toNatClampNeg + n.toNatClampNeg ≤ n0 ∧ dp.toNatClampNeg + n.toNatClampNeg ≤ n1 then some (zcps s k0 k1 sp.toNatClampNeg dp.toNatClampNeg n.toNatClampNeg) else none
def zcpl (s : zSt) (k0 n0 k1 n1 : Nat) (sp dp n : Int32) : Option zSt := if ¬ sp < 0 ∧ ¬ dp < 0 ∧ ¬ n < 0 ∧ sp.toNatClampNeg + n.toNatClampNeg ≤ n0 ∧ dp.toNatClampNeg + n.toNatClampNeg ≤ n1 then some (zcpsl s k0 k1 sp.toNatClampNeg dp.toNatClampNeg n.toNatClampNeg) else none
theorem zIte {α : Type} {c : Prop} {dc : Decidable c} {A B : Option α} {r : α} {P : Prop} (hf : @ite (Option α) c dc A B = some r) (kt : c → A = some r → P) (kf : ¬ c → B = some r → P) : P := by
  by_cases h : c
  · rw [if_pos h] at hf; exact kt h hf
  · rw [if_neg h] at hf; exact kf h hf
theorem zBd {α β : Type} {X : Option α} {g : α → Option β} {r : β} {P : Prop} (hf : X.bind g = some r) (k : ∀ v, X = some v → g v = some r → P) : P := by
  obtain ⟨v, h1, h2⟩ := Option.bind_eq_some_iff.mp hf
  exact k v h1 h2
section ZB
variable {M : zM} {Λ : List zD} {d : Nat} {res : Option Value × zSt} {pc : Nat} {ls : List (Nat × Value)} {st rest : List Value} {s : zSt}
theorem zrun_ok (hL : zLok Λ = true) (hM : zMok M) : ∀ (n : Nat) (is : List (Nat × Instr × Nat)) (pc : Nat) (x : zS) (pc' : Nat) (y : zS), (∀ e ∈ is, e ∈ M.2.2.2.2.2) → zrun M.1 M.2.2.2.1 Λ n is pc x = some (pc', y) → zWA M Λ d res pc' y.1 y.2.1 y.2.2 → zWA M Λ d res pc x.1 x.2.1 x.2.2
  | 0, _, pc, x, pc', y, _, h, k => by
    cases h; exact k
  | n + 1, [], pc, x, pc', y, _, h, k => by cases h
  | n + 1, e :: is, pc, x, pc', y, hin, h, k => by
    unfold zrun at h
    cases hb : Nat.beq e.1 pc with
    | false => rw [hb] at h; cases h
    | true =>
      rw [hb] at h
      have e1 : e.1 = pc := Nat.eq_of_beq_eq_true hb
      subst e1
      simp only [cond_true] at h
      split at h
      · next m y1 hs =>
        cases hb2 : Nat.beq m e.2.2 with
        | false => rw [hb2] at h; cases h
        | true =>
          rw [hb2] at h
          have e2 : m = e.2.2 := Nat.eq_of_beq_eq_true hb2
          subst e2
          exact zstep_ok hL hs (hM.1 e (hin e List.mem_cons_self)) (zrun_ok hL hM n is _ y1 pc' y (fun a ha => hin a (List.mem_cons_of_mem _ ha)) h k)
      · cases h
/-- n straight-line instructions -/
theorem zB (hL : zLok Λ = true) (n : Nat) {pc' : Nat} {ls' : List (Nat × Value)} {st' : List Value} {s' : zSt} (h : zrun M.1 M.2.2.2.1 Λ n (zsuf pc M.2.2.2.2.2) pc (ls, st, s) = some (pc', ls', st', s')) (k : zWA M Λ d res pc' ls' st' s') : zWA M Λ d res pc ls st s :=
  fun hM => zrun_ok hL hM n _ pc (ls, st, s) pc' (ls', st', s') (fun e he => zsuf_in e he) h k hM
theorem zdec (hM : zMok M) {i : Instr} {n : Nat} (h : zlk M.2.2.2.2.2 pc = some (i, n)) : decode M.2.2.1 pc = .ok (i, n) := hM.1 (pc, i, n) (zlk_mem h)
/-- locals forgotten or put in another order: by their places -/
theorem zLoc {ls' : List (Nat × Value)} (ks : List Nat) (h : lv_pick ls ks = ls') (k : zWA M Λ d res pc ls' st s) : zWA M Λ d res pc ls st s := by
  intro hM p l e s0 m args below meth c D cA ad A C H locs lsC hP hD hS hl
  refine k hM p l e s0 m args below meth c D cA ad A C H locs lsC hP hD hS ⟨hl.1, hl.2.1, fun q hq => ?_⟩
  obtain ⟨q0, h0, rfl⟩ := List.mem_map.mp hq
  rw [← h] at h0
  obtain ⟨j, -, hj⟩ := List.mem_filterMap.mp h0
  exact hl.2.2 _ (List.mem_map.mpr ⟨q0, List.mem_of_getElem? hj, rfl⟩)
theorem zGoto {off : Int} {tgt : Nat} (h : zlk M.2.2.2.2.2 pc = some (.goto off, 3)) (ht : (pc : Int) + off = (tgt : Int)) (k : zWA M Λ d res tgt ls st s) : zWA M Λ d res pc ls st s := by
  intro hM p l e s0 m args below meth c D cA ad A C H locs lsC hP hD hS hl
  exact lv_goto C.1 C.2.1 (zdec hM h) ht (k hM p l e s0 m args below meth c D cA ad A C H locs lsC hP hD hS hl)
theorem zIeq {α : Type} {A B : Option α} {r : α} {x : Int32} {off : Int} {tgt : Nat} {dc : Decidable (x = 0)} (hf : @ite (Option α) (x = 0) dc A B = some r) (h : zlk M.2.2.2.2.2 pc = some (.ifCond .eq off, 3)) (ht : (pc : Int) + off = (tgt : Int)) (kt : x = 0 → A = some r → zWA M Λ d res tgt ls rest s) (kf : ¬ x = 0 → B = some r → zWA M Λ d res (pc + 3) ls rest s) : zWA M Λ d res pc ls (.int x :: rest) s := by
  intro hM p l e s0 m args below meth c D cA ad A0 C H locs lsC hP hD hS hl
  have h1 : ∀ z : x = 0, A = some r := fun z => by rw [if_pos z] at hf; exact hf
  have h2 : ∀ z : ¬ x = 0, B = some r := fun z => by rw [if_neg z] at hf; exact hf
  exact lv_if_eq C.1 C.2.1 (zdec hM h) ht (fun z => kt z (h1 z) hM p l e s0 m args below meth c D cA ad A0 C H locs lsC hP hD hS hl) (fun z => kf z (h2 z) hM p l e s0 m args below meth c D cA ad A0 C H locs lsC hP hD hS hl)
theorem zIeqT {x : Int32} {off : Int} {tgt : Nat} (hx : x = 0) (h : zlk M.2.2.2.2.2 pc = some (.ifCond .eq off, 3)) (ht : (pc : Int) + off = (tgt : Int)) (k : zWA M Λ d res tgt ls rest s) : zWA M Λ d res pc ls (.int x :: rest) s :=
  zIeq (A := some ()) (B := none) (r := ()) (dc := Classical.propDecidable _) (if_pos hx) h ht (fun _ _ => k) (fun _ q => by cases q)
theorem zIeqF {x : Int32} {off : Int} {tgt : Nat} (hx : ¬ x = 0) (h : zlk M.2.2.2.2.2 pc = some (.ifCond .eq off, 3)) (ht : (pc : Int) + off = (tgt : Int)) (k : zWA M Λ d res (pc + 3) ls rest s) : zWA M Λ d res pc ls (.int x :: rest) s :=
  zIeq (A := none) (B := some ()) (r := ()) (dc := Classical.propDecidable _) (if_neg hx) h ht (fun _ q => by cases q) (fun _ _ => k)
theorem zCeq {α : Type} {A B : Option α} {r : α} {x y : Int32} {off : Int} {tgt : Nat} {dc : Decidable (x = y)} (hf : @ite (Option α) (x = y) dc A B = some r) (h : zlk M.2.2.2.2.2 pc = some (.if_icmp .eq off, 3)) (ht : (pc : Int) + off = (tgt : Int)) (kt : x = y → A = some r → zWA M Λ d res tgt ls rest s) (kf : ¬ x = y → B = some r → zWA M Λ d res (pc + 3) ls rest s) : zWA M Λ d res pc ls (.int y :: .int x :: rest) s := by
  intro hM p l e s0 m args below meth c D cA ad A0 C H locs lsC hP hD hS hl
  have h1 : ∀ z : x = y, A = some r := fun z => by rw [if_pos z] at hf; exact hf
  have h2 : ∀ z : ¬ x = y, B = some r := fun z => by rw [if_neg z] at hf; exact hf
  exact lv_icmp_eq C.1 C.2.1 (zdec hM h) ht (fun z => kt z (h1 z) hM p l e s0 m args below meth c D cA ad A0 C H locs lsC hP hD hS hl) (fun z => kf z (h2 z) hM p l e s0 m args below meth c D cA ad A0 C H locs lsC hP hD hS hl)
theorem zCeqT {x y : Int32} {off : Int} {tgt : Nat} (hx : x = y) (h : zlk M.2.2.2.2.2 pc = some (.if_icmp .eq off, 3)) (ht : (pc : Int) + off = (tgt : Int)) (k : zWA M Λ d res tgt ls rest s) : zWA M Λ d res pc ls (.int y :: .int x :: rest) s :=
  zCeq (A := some ()) (B := none) (r := ()) (dc := Classical.propDecidable _) (if_pos hx) h ht (fun _ _ => k) (fun _ q => by cases q)
theorem zCeqF {x y : Int32} {off : Int} {tgt : Nat} (hx : ¬ x = y) (h : zlk M.2.2.2.2.2 pc = some (.if_icmp .eq off, 3)) (ht : (pc : Int) + off = (tgt : Int)) (k : zWA M Λ d res (pc + 3) ls rest s) : zWA M Λ d res pc ls (.int y :: .int x :: rest) s :=
  zCeq (A := none) (B := some ()) (r := ()) (dc := Classical.propDecidable _) (if_neg hx) h ht (fun _ q => by cases q) (fun _ _ => k)
theorem zIne {α : Type} {A B : Option α} {r : α} {x : Int32} {off : Int} {tgt : Nat} {dc : Decidable (x = 0)} (hf : @ite (Option α) (x = 0) dc A B = some r) (h : zlk M.2.2.2.2.2 pc = some (.ifCond .ne off, 3)) (ht : (pc : Int) + off = (tgt : Int)) (kt : x = 0 → A = some r → zWA M Λ d res (pc + 3) ls rest s) (kf : ¬ x = 0 → B = some r → zWA M Λ d res tgt ls rest s) : zWA M Λ d res pc ls (.int x :: rest) s := by
  intro hM p l e s0 m args below meth c D cA ad A0 C H locs lsC hP hD hS hl
  have h1 : ∀ z : x = 0, A = some r := fun z => by rw [if_pos z] at hf; exact hf
  have h2 : ∀ z : ¬ x = 0, B = some r := fun z => by rw [if_neg z] at hf; exact hf
  exact lv_if_ne C.1 C.2.1 (zdec hM h) ht (fun z => kf z (h2 z) hM p l e s0 m args below meth c D cA ad A0 C H locs lsC hP hD hS hl) (fun z => kt z (h1 z) hM p l e s0 m args below meth c D cA ad A0 C H locs lsC hP hD hS hl)
theorem zIneT {x : Int32} {off : Int} {tgt : Nat} (hx : x = 0) (h : zlk M.2.2.2.2.2 pc = some (.ifCond .ne off, 3)) (ht : (pc : Int) + off = (tgt : Int)) (k : zWA M Λ d res (pc + 3) ls rest s) : zWA M Λ d res pc ls (.int x :: rest) s :=
  zIne (A := some ()) (B := none) (r := ()) (dc := Classical.propDecidable _) (if_pos hx) h ht (fun _ _ => k) (fun _ q => by cases q)
theorem zIneF {x : Int32} {off : Int} {tgt : Nat} (hx : ¬ x = 0) (h : zlk M.2.2.2.2.2 pc = some (.ifCond .ne off, 3)) (ht : (pc : Int) + off = (tgt : Int)) (k : zWA M Λ d res tgt ls rest s) : zWA M Λ d res pc ls (.int x :: rest) s :=
  zIne (A := none) (B := some ()) (r := ()) (dc := Classical.propDecidable _) (if_neg hx) h ht (fun _ q => by cases q) (fun _ _ => k)
theorem zCne {α : Type} {A B : Option α} {r : α} {x y : Int32} {off : Int} {tgt : Nat} {dc : Decidable (x = y)} (hf : @ite (Option α) (x = y) dc A B = some r) (h : zlk M.2.2.2.2.2 pc = some (.if_icmp .ne off, 3)) (ht : (pc : Int) + off = (tgt : Int)) (kt : x = y → A = some r → zWA M Λ d res (pc + 3) ls rest s) (kf : ¬ x = y → B = some r → zWA M Λ d res tgt ls rest s) : zWA M Λ d res pc ls (.int y :: .int x :: rest) s := by
  intro hM p l e s0 m args below meth c D cA ad A0 C H locs lsC hP hD hS hl
  have h1 : ∀ z : x = y, A = some r := fun z => by rw [if_pos z] at hf; exact hf
  have h2 : ∀ z : ¬ x = y, B = some r := fun z => by rw [if_neg z] at hf; exact hf
  exact lv_icmp_ne C.1 C.2.1 (zdec hM h) ht (fun z => kf z (h2 z) hM p l e s0 m args below meth c D cA ad A0 C H locs lsC hP hD hS hl) (fun z => kt z (h1 z) hM p l e s0 m args below meth c D cA ad A0 C H locs lsC hP hD hS hl)
theorem zCneT {x y : Int32} {off : Int} {tgt : Nat} (hx : x = y) (h : zlk M.2.2.2.2.2 pc = some (.if_icmp .ne off, 3)) (ht : (pc : Int) + off = (tgt : Int)) (k : zWA M Λ d res (pc + 3) ls rest s) : zWA M Λ d res pc ls (.int y :: .int x :: rest) s :=
  zCne (A := some ()) (B := none) (r := ()) (dc := Classical.propDecidable _) (if_pos hx) h ht (fun _ _ => k) (fun _ q => by cases q)
theorem zCneF {x y : Int32} {off : Int} {tgt : Nat} (hx : ¬ x = y) (h : zlk M.2.2.2.2.2 pc = some (.if_icmp .ne off, 3)) (ht : (pc : Int) + off = (tgt : Int)) (k : zWA M Λ d res tgt ls rest s) : zWA M Λ d res pc ls (.int y :: .int x :: rest) s :=
  zCne (A := none) (B := some ()) (r := ()) (dc := Classical.propDecidable _) (if_neg hx) h ht (fun _ q => by cases q) (fun _ _ => k)
theorem zIlt {α : Type} {A B : Option α} {r : α} {x : Int32} {off : Int} {tgt : Nat} {dc : Decidable (x < 0)} (hf : @ite (Option α) (x < 0) dc A B = some r) (h : zlk M.2.2.2.2.2 pc = some (.ifCond .lt off, 3)) (ht : (pc : Int) + off = (tgt : Int)) (kt : x < 0 → A = some r → zWA M Λ d res tgt ls rest s) (kf : ¬ x < 0 → B = some r → zWA M Λ d res (pc + 3) ls rest s) : zWA M Λ d res pc ls (.int x :: rest) s := by
  intro hM p l e s0 m args below meth c D cA ad A0 C H locs lsC hP hD hS hl
  have h1 : ∀ z : x < 0, A = some r := fun z => by rw [if_pos z] at hf; exact hf
  have h2 : ∀ z : ¬ x < 0, B = some r := fun z => by rw [if_neg z] at hf; exact hf
  exact lv_if_lt C.1 C.2.1 (zdec hM h) ht (fun z => kt z (h1 z) hM p l e s0 m args below meth c D cA ad A0 C H locs lsC hP hD hS hl) (fun z => kf z (h2 z) hM p l e s0 m args below meth c D cA ad A0 C H locs lsC hP hD hS hl)
theorem zIltT {x : Int32} {off : Int} {tgt : Nat} (hx : x < 0) (h : zlk M.2.2.2.2.2 pc = some (.ifCond .lt off, 3)) (ht : (pc : Int) + off = (tgt : Int)) (k : zWA M Λ d res tgt ls rest s) : zWA M Λ d res pc ls (.int x :: rest) s :=
  zIlt (A := some ()) (B := none) (r := ()) (dc := Classical.propDecidable _) (if_pos hx) h ht (fun _ _ => k) (fun _ q => by cases q)
theorem zIltF {x : Int32} {off : Int} {tgt : Nat} (hx : ¬ x < 0) (h : zlk M.2.2.2.2.2 pc = some (.ifCond .lt off, 3)) (ht : (pc : Int) + off = (tgt : Int)) (k : zWA M Λ d res (pc + 3) ls rest s) : zWA M Λ d res pc ls (.int x :: rest) s :=
  zIlt (A := none) (B := some ()) (r := ()) (dc := Classical.propDecidable _) (if_neg hx) h ht (fun _ q => by cases q) (fun _ _ => k)
theorem zClt {α : Type} {A B : Option α} {r : α} {x y : Int32} {off : Int} {tgt : Nat} {dc : Decidable (x < y)} (hf : @ite (Option α) (x < y) dc A B = some r) (h : zlk M.2.2.2.2.2 pc = some (.if_icmp .lt off, 3)) (ht : (pc : Int) + off = (tgt : Int)) (kt : x < y → A = some r → zWA M Λ d res tgt ls rest s) (kf : ¬ x < y → B = some r → zWA M Λ d res (pc + 3) ls rest s) : zWA M Λ d res pc ls (.int y :: .int x :: rest) s := by
  intro hM p l e s0 m args below meth c D cA ad A0 C H locs lsC hP hD hS hl
  have h1 : ∀ z : x < y, A = some r := fun z => by rw [if_pos z] at hf; exact hf
  have h2 : ∀ z : ¬ x < y, B = some r := fun z => by rw [if_neg z] at hf; exact hf
  exact lv_icmp_lt C.1 C.2.1 (zdec hM h) ht (fun z => kt z (h1 z) hM p l e s0 m args below meth c D cA ad A0 C H locs lsC hP hD hS hl) (fun z => kf z (h2 z) hM p l e s0 m args below meth c D cA ad A0 C H locs lsC hP hD hS hl)
theorem zCltT {x y : Int32} {off : Int} {tgt : Nat} (hx : x < y) (h : zlk M.2.2.2.2.2 pc = some (.if_icmp .lt off, 3)) (ht : (pc : Int) + off = (tgt : Int)) (k : zWA M Λ d res tgt ls rest s) : zWA M Λ d res pc ls (.int y :: .int x :: rest) s :=
  zClt (A := some ()) (B := none) (r := ()) (dc := Classical.propDecidable _) (if_pos hx) h ht (fun _ _ => k) (fun _ q => by cases q)
theorem zCltF {x y : Int32} {off : Int} {tgt : Nat} (hx : ¬ x < y) (h : zlk M.2.2.2.2.2 pc = some (.if_icmp .lt off, 3)) (ht : (pc : Int) + off = (tgt : Int)) (k : zWA M Λ d res (pc + 3) ls rest s) : zWA M Λ d res pc ls (.int y :: .int x :: rest) s :=
  zClt (A := none) (B := some ()) (r := ()) (dc := Classical.propDecidable _) (if_neg hx) h ht (fun _ q => by cases q) (fun _ _ => k)
theorem zIge {α : Type} {A B : Option α} {r : α} {x : Int32} {off : Int} {tgt : Nat} {dc : Decidable (0 ≤ x)} (hf : @ite (Option α) (0 ≤ x) dc A B = some r) (h : zlk M.2.2.2.2.2 pc = some (.ifCond .ge off, 3)) (ht : (pc : Int) + off = (tgt : Int)) (kt : 0 ≤ x → A = some r → zWA M Λ d res tgt ls rest s) (kf : ¬ 0 ≤ x → B = some r → zWA M Λ d res (pc + 3) ls rest s) : zWA M Λ d res pc ls (.int x :: rest) s := by
  intro hM p l e s0 m args below meth c D cA ad A0 C H locs lsC hP hD hS hl
  have h1 : ∀ z : 0 ≤ x, A = some r := fun z => by rw [if_pos z] at hf; exact hf
  have h2 : ∀ z : ¬ 0 ≤ x, B = some r := fun z => by rw [if_neg z] at hf; exact hf
  exact lv_if_ge C.1 C.2.1 (zdec hM h) ht (fun z => kt z (h1 z) hM p l e s0 m args below meth c D cA ad A0 C H locs lsC hP hD hS hl) (fun z => kf z (h2 z) hM p l e s0 m args below meth c D cA ad A0 C H locs lsC hP hD hS hl)
theorem zIgeT {x : Int32} {off : Int} {tgt : Nat} (hx : 0 ≤ x) (h : zlk M.2.2.2.2.2 pc = some (.ifCond .ge off, 3)) (ht : (pc : Int) + off = (tgt : Int)) (k : zWA M Λ d res tgt ls rest s) : zWA M Λ d res pc ls (.int x :: rest) s :=
  zIge (A := some ()) (B := none) (r := ()) (dc := Classical.propDecidable _) (if_pos hx) h ht (fun _ _ => k) (fun _ q => by cases q)
theorem zIgeF {x : Int32} {off : Int} {tgt : Nat} (hx : ¬ 0 ≤ x) (h : zlk M.2.2.2.2.2 pc = some (.ifCond .ge off, 3)) (ht : (pc : Int) + off = (tgt : Int)) (k : zWA M Λ d res (pc + 3) ls rest s) : zWA M Λ d res pc ls (.int x :: rest) s :=
  zIge (A := none) (B := some ()) (r := ()) (dc := Classical.propDecidable _) (if_neg hx) h ht (fun _ q => by cases q) (fun _ _ => k)
theorem zCge {α : Type} {A B : Option α} {r : α} {x y : Int32} {off : Int} {tgt : Nat} {dc : Decidable (y ≤ x)} (hf : @ite (Option α) (y ≤ x) dc A B = some r) (h : zlk M.2.2.2.2.2 pc = some (.if_icmp .ge off, 3)) (ht : (pc : Int) + off = (tgt : Int)) (kt : y ≤ x → A = some r → zWA M Λ d res tgt ls rest s) (kf : ¬ y ≤ x → B = some r → zWA M Λ d res (pc + 3) ls rest s) : zWA M Λ d res pc ls (.int y :: .int x :: rest) s := by
  intro hM p l e s0 m args below meth c D cA ad A0 C H locs lsC hP hD hS hl
  have h1 : ∀ z : y ≤ x, A = some r := fun z => by rw [if_pos z] at hf; exact hf
  have h2 : ∀ z : ¬ y ≤ x, B = some r := fun z => by rw [if_neg z] at hf; exact hf
  exact lv_icmp_ge C.1 C.2.1 (zdec hM h) ht (fun z => kt z (h1 z) hM p l e s0 m args below meth c D cA ad A0 C H locs lsC hP hD hS hl) (fun z => kf z (h2 z) hM p l e s0 m args below meth c D cA ad A0 C H locs lsC hP hD hS hl)
theorem zCgeT {x y : Int32} {off : Int} {tgt : Nat} (hx : y ≤ x) (h : zlk M.2.2.2.2.2 pc = some (.if_icmp .ge off, 3)) (ht : (pc : Int) + off = (tgt : Int)) (k : zWA M Λ d res tgt ls rest s) : zWA M Λ d res pc ls (.int y :: .int x :: rest) s :=
  zCge (A := some ()) (B := none) (r := ()) (dc := Classical.propDecidable _) (if_pos hx) h ht (fun _ _ => k) (fun _ q => by cases q)
theorem zCgeF {x y : Int32} {off : Int} {tgt : Nat} (hx : ¬ y ≤ x) (h : zlk M.2.2.2.2.2 pc = some (.if_icmp .ge off, 3)) (ht : (pc : Int) + off = (tgt : Int)) (k : zWA M Λ d res (pc + 3) ls rest s) : zWA M Λ d res pc ls (.int y :: .int x :: rest) s :=
  zCge (A := none) (B := some ()) (r := ()) (dc := Classical.propDecidable _) (if_neg hx) h ht (fun _ q => by cases q) (fun _ _ => k)
theorem zIgt {α : Type} {A B : Option α} {r : α} {x : Int32} {off : Int} {tgt : Nat} {dc : Decidable (0 < x)} (hf : @ite (Option α) (0 < x) dc A B = some r) (h : zlk M.2.2.2.2.2 pc = some (.ifCond .gt off, 3)) (ht : (pc : Int) + off = (tgt : Int)) (kt : 0 < x → A = some r → zWA M Λ d res tgt ls rest s) (kf : ¬ 0 < x → B = some r → zWA M Λ d res (pc + 3) ls rest s) : zWA M Λ d res pc ls (.int x :: rest) s := by
  intro hM p l e s0 m args below meth c D cA ad A0 C H locs lsC hP hD hS hl
  have h1 : ∀ z : 0 < x, A = some r := fun z => by rw [if_pos z] at hf; exact hf
  have h2 : ∀ z : ¬ 0 < x, B = some r := fun z => by rw [if_neg z] at hf; exact hf
  exact lv_if_gt C.1 C.2.1 (zdec hM h) ht (fun z => kt z (h1 z) hM p l e s0 m args below meth c D cA ad A0 C H locs lsC hP hD hS hl) (fun z => kf z (h2 z) hM p l e s0 m args below meth c D cA ad A0 C H locs lsC hP hD hS hl)
theorem zIgtT {x : Int32} {off : Int} {tgt : Nat} (hx : 0 < x) (h : zlk M.2.2.2.2.2 pc = some (.ifCond .gt off, 3)) (ht : (pc : Int) + off = (tgt : Int)) (k : zWA M Λ d res tgt ls rest s) : zWA M Λ d res pc ls (.int x :: rest) s :=
  zIgt (A := some ()) (B := none) (r := ()) (dc := Classical.propDecidable _) (if_pos hx) h ht (fun _ _ => k) (fun _ q => by cases q)
theorem zIgtF {x : Int32} {off : Int} {tgt : Nat} (hx : ¬ 0 < x) (h : zlk M.2.2.2.2.2 pc = some (.ifCond .gt off, 3)) (ht : (pc : Int) + off = (tgt : Int)) (k : zWA M Λ d res (pc + 3) ls rest s) : zWA M Λ d res pc ls (.int x :: rest) s :=
  zIgt (A := none) (B := some ()) (r := ()) (dc := Classical.propDecidable _) (if_neg hx) h ht (fun _ q => by cases q) (fun _ _ => k)
theorem zCgt {α : Type} {A B : Option α} {r : α} {x y : Int32} {off : Int} {tgt : Nat} {dc : Decidable (y < x)} (hf : @ite (Option α) (y < x) dc A B = some r) (h : zlk M.2.2.2.2.2 pc = some (.if_icmp .gt off, 3)) (ht : (pc : Int) + off = (tgt : Int)) (kt : y < x → A = some r → zWA M Λ d res tgt ls rest s) (kf : ¬ y < x → B = some r → zWA M Λ d res (pc + 3) ls rest s) : zWA M Λ d res pc ls (.int y :: .int x :: rest) s := by
  intro hM p l e s0 m args below meth c D cA ad A0 C H locs lsC hP hD hS hl
  have h1 : ∀ z : y < x, A = some r := fun z => by rw [if_pos z] at hf; exact hf
  have h2 : ∀ z : ¬ y < x, B = some r := fun z => by rw [if_neg z] at hf; exact hf
  exact lv_icmp_gt C.1 C.2.1 (zdec hM h) ht (fun z => kt z (h1 z) hM p l e s0 m args below meth c D cA ad A0 C H locs lsC hP hD hS hl) (fun z => kf z (h2 z) hM p l e s0 m args below meth c D cA ad A0 C H locs lsC hP hD hS hl)
theorem zCgtT {x y : Int32} {off : Int} {tgt : Nat} (hx : y < x) (h : zlk M.2.2.2.2.2 pc = some (.if_icmp .gt off, 3)) (ht : (pc : Int) + off = (tgt : Int)) (k : zWA M Λ d res tgt ls rest s) : zWA M Λ d res pc ls (.int y :: .int x :: rest) s :=
  zCgt (A := some ()) (B := none) (r := ()) (dc := Classical.propDecidable _) (if_pos hx) h ht (fun _ _ => k) (fun _ q => by cases q)
theorem zCgtF {x y : Int32} {off : Int} {tgt : Nat} (hx : ¬ y < x) (h : zlk M.2.2.2.2.2 pc = some (.if_icmp .gt off, 3)) (ht : (pc : Int) + off = (tgt : Int)) (k : zWA M Λ d res (pc + 3) ls rest s) : zWA M Λ d res pc ls (.int y :: .int x :: rest) s :=
  zCgt (A := none) (B := some ()) (r := ()) (dc := Classical.propDecidable _) (if_neg hx) h ht (fun _ q => by cases q) (fun _ _ => k)
theorem zIle {α : Type} {A B : Option α} {r : α} {x : Int32} {off : Int} {tgt : Nat} {dc : Decidable (x ≤ 0)} (hf : @ite (Option α) (x ≤ 0) dc A B = some r) (h : zlk M.2.2.2.2.2 pc = some (.ifCond .le off, 3)) (ht : (pc : Int) + off = (tgt : Int)) (kt : x ≤ 0 → A = some r → zWA M Λ d res tgt ls rest s) (kf : ¬ x ≤ 0 → B = some r → zWA M Λ d res (pc + 3) ls rest s) : zWA M Λ d res pc ls (.int x :: rest) s := by
  intro hM p l e s0 m args below meth c D cA ad A0 C H locs lsC hP hD hS hl
  have h1 : ∀ z : x ≤ 0, A = some r := fun z => by rw [if_pos z] at hf; exact hf
  have h2 : ∀ z : ¬ x ≤ 0, B = some r := fun z => by rw [if_neg z] at hf; exact hf
  exact lv_if_le C.1 C.2.1 (zdec hM h) ht (fun z => kt z (h1 z) hM p l e s0 m args below meth c D cA ad A0 C H locs lsC hP hD hS hl) (fun z => kf z (h2 z) hM p l e s0 m args below meth c D cA ad A0 C H locs lsC hP hD hS hl)
theorem zIleT {x : Int32} {off : Int} {tgt : Nat} (hx : x ≤ 0) (h : zlk M.2.2.2.2.2 pc = some (.ifCond .le off, 3)) (ht : (pc : Int) + off = (tgt : Int)) (k : zWA M Λ d res tgt ls rest s) : zWA M Λ d res pc ls (.int x :: rest) s :=
  zIle (A := some ()) (B := none) (r := ()) (dc := Classical.propDecidable _) (if_pos hx) h ht (fun _ _ => k) (fun _ q => by cases q)
theorem zIleF {x : Int32} {off : Int} {tgt : Nat} (hx : ¬ x ≤ 0) (h : zlk M.2.2.2.2.2 pc = some (.ifCond .le off, 3)) (ht : (pc : Int) + off = (tgt : Int)) (k : zWA M Λ d res (pc + 3) ls rest s) : zWA M Λ d res pc ls (.int x :: rest) s :=
  zIle (A := none) (B := some ()) (r := ()) (dc := Classical.propDecidable _) (if_neg hx) h ht (fun _ q => by cases q) (fun _ _ => k)
theorem zCle {α : Type} {A B : Option α} {r : α} {x y : Int32} {off : Int} {tgt : Nat} {dc : Decidable (x ≤ y)} (hf : @ite (Option α) (x ≤ y) dc A B = some r) (h : zlk M.2.2.2.2.2 pc = some (.if_icmp .le off, 3)) (ht : (pc : Int) + off = (tgt : Int)) (kt : x ≤ y → A = some r → zWA M Λ d res tgt ls rest s) (kf : ¬ x ≤ y → B = some r → zWA M Λ d res (pc + 3) ls rest s) : zWA M Λ d res pc ls (.int y :: .int x :: rest) s := by
  intro hM p l e s0 m args below meth c D cA ad A0 C H locs lsC hP hD hS hl
  have h1 : ∀ z : x ≤ y, A = some r := fun z => by rw [if_pos z] at hf; exact hf
  have h2 : ∀ z : ¬ x ≤ y, B = some r := fun z => by rw [if_neg z] at hf; exact hf
  exact lv_icmp_le C.1 C.2.1 (zdec hM h) ht (fun z => kt z (h1 z) hM p l e s0 m args below meth c D cA ad A0 C H locs lsC hP hD hS hl) (fun z => kf z (h2 z) hM p l e s0 m args below meth c D cA ad A0 C H locs lsC hP hD hS hl)
theorem zCleT {x y : Int32} {off : Int} {tgt : Nat} (hx : x ≤ y) (h : zlk M.2.2.2.2.2 pc = some (.if_icmp .le off, 3)) (ht : (pc : Int) + off = (tgt : Int)) (k : zWA M Λ d res tgt ls rest s) : zWA M Λ d res pc ls (.int y :: .int x :: rest) s :=
  zCle (A := some ()) (B := none) (r := ()) (dc := Classical.propDecidable _) (if_pos hx) h ht (fun _ _ => k) (fun _ q => by cases q)
theorem zCleF {x y : Int32} {off : Int} {tgt : Nat} (hx : ¬ x ≤ y) (h : zlk M.2.2.2.2.2 pc = some (.if_icmp .le off, 3)) (ht : (pc : Int) + off = (tgt : Int)) (k : zWA M Λ d res (pc + 3) ls rest s) : zWA M Λ d res pc ls (.int y :: .int x :: rest) s :=
  zCle (A := none) (B := some ()) (r := ()) (dc := Classical.propDecidable _) (if_neg hx) h ht (fun _ q => by cases q) (fun _ _ => k)
theorem zNull {off : Int} {x : Nat} (h : zlk M.2.2.2.2.2 pc = some (.ifnull off, 3)) (k : zWA M Λ d res (pc + 3) ls rest s) : zWA M Λ d res pc ls (.ref x :: rest) s := by
  intro hM p l e s0 m args below meth c D cA ad A C H locs lsC hP hD hS hl
  exact lv_ifnull C.1 C.2.1 (zdec hM h) (k hM p l e s0 m args below meth c D cA ad A C H locs lsC hP hD hS hl)
theorem zNullN {off : Int} {tgt : Nat} (h : zlk M.2.2.2.2.2 pc = some (.ifnull off, 3)) (ht : (pc : Int) + off = (tgt : Int)) (k : zWA M Λ d res tgt ls rest s) : zWA M Λ d res pc ls (.null :: rest) s := by
  intro hM p l e s0 m args below meth c D cA ad A C H locs lsC hP hD hS hl
  exact lv_ifnullN C.1 C.2.1 (zdec hM h) ht (k hM p l e s0 m args below meth c D cA ad A C H locs lsC hP hD hS hl)
theorem zNon {off : Int} {x tgt : Nat} (h : zlk M.2.2.2.2.2 pc = some (.ifnonnull off, 3)) (ht : (pc : Int) + off = (tgt : Int)) (k : zWA M Λ d res tgt ls rest s) : zWA M Λ d res pc ls (.ref x :: rest) s := by
  intro hM p l e s0 m args below meth c D cA ad A C H locs lsC hP hD hS hl
  exact lv_ifnonnull C.1 C.2.1 (zdec hM h) ht (k hM p l e s0 m args below meth c D cA ad A C H locs lsC hP hD hS hl)
theorem zNonN {off : Int} (h : zlk M.2.2.2.2.2 pc = some (.ifnonnull off, 3)) (k : zWA M Λ d res (pc + 3) ls rest s) : zWA M Λ d res pc ls (.null :: rest) s := by
  intro hM p l e s0 m args below meth c D cA ad A C H locs lsC hP hD hS hl
  exact lv_ifnonnullN C.1 C.2.1 (zdec hM h) (k hM p l e s0 m args below meth c D cA ad A C H locs lsC hP hD hS hl)
theorem zIald {α : Type} {r : α} {k n b : Nat} {i : Int32} {g : Int32 → Option α} (hf : (zld s k n i).bind g = some r) (h : zlk M.2.2.2.2.2 pc = some (.iaload, 1)) (hc : Λ[k]? = some (.inr (0, n, b))) (kk : ∀ v, g v = some r → zWA M Λ d res (pc + 1) ls (.int v :: rest) s) : zWA M Λ d res pc ls (.int i :: .ref k :: rest) s := by
  refine zBd hf fun v h1 h2 => ?_
  unfold zld at h1
  refine zIte h1 (fun hin h1 => ?_) (fun _ h1 => by cases h1)
  cases h1
  intro hM p l e s0 m args below meth c D cA ad A C H locs lsC hP hD hS hl
  exact va_iald (tys := zTy cA) C.1 C.2.1 C.2.2.2.2.2.2.2.1 hP k 0 (zW_get hc) rfl (vp_in_iff.mpr hin) (zdec hM h) (kk _ h2 hM p l e s0 m args below meth c D cA ad A C H locs lsC hP hD hS hl)
theorem zLald {α : Type} {r : α} {k n b : Nat} {i : Int32} {g : Int64 → Option α} (hf : (zldl s k n i).bind g = some r) (h : zlk M.2.2.2.2.2 pc = some (.laload, 1)) (hc : Λ[k]? = some (.inr (1, n, b))) (kk : ∀ v, g v = some r → zWA M Λ d res (pc + 1) ls (.long v :: rest) s) : zWA M Λ d res pc ls (.int i :: .ref k :: rest) s := by
  refine zBd hf fun v h1 h2 => ?_
  unfold zldl at h1
  refine zIte h1 (fun hin h1 => ?_) (fun _ h1 => by cases h1)
  cases h1
  intro hM p l e s0 m args below meth c D cA ad A C H locs lsC hP hD hS hl
  exact va_lald (tys := zTy cA) C.1 C.2.1 C.2.2.2.2.2.2.2.1 hP k 1 (zW_get hc) rfl (vp_in_iff.mpr hin) (zdec hM h) (kk _ h2 hM p l e s0 m args below meth c D cA ad A C H locs lsC hP hD hS hl)
theorem zTald {α : Type} {r : α} {j : Nat} {i : Int32} {g : Int32 → Option α} {C0 n0 d0 : String} {tab : List Int32} (hf : (zlt tab i).bind g = some r) (h : zlk M.2.2.2.2.2 pc = some (.iaload, 1)) (hc : zTab[j]? = some (C0, n0, d0, .int, tab)) (kk : ∀ v, g v = some r → zWA M Λ d res (pc + 1) ls (.int v :: rest) s) : zWA M Λ d res pc ls (.int i :: .ref (1000 + j) :: rest) s := by
  refine zBd hf fun v h1 h2 => ?_
  unfold zlt at h1
  refine zIte h1 (fun hin h1 => ?_) (fun _ h1 => by cases h1)
  cases h1
  intro hM p l e s0 m args below meth c D cA ad A C H locs lsC hP hD hS hl
  exact va_ti C.1 C.2.1 (C.2.2.2.2.2.2.2.2.1.1 j _ hc).2 hS (vp_in_iff.mpr hin) rfl (zdec hM h) (kk _ h2 hM p l e s0 m args below meth c D cA ad A C H locs lsC hP hD hS hl)
theorem zTcald {α : Type} {r : α} {j : Nat} {i : Int32} {g : Int32 → Option α} {C0 n0 d0 : String} {tab : List Int32} (hf : (zlt tab i).bind g = some r) (h : zlk M.2.2.2.2.2 pc = some (.caload, 1)) (hc : zTab[j]? = some (C0, n0, d0, .char, tab)) (kk : ∀ v, g v = some r → zWA M Λ d res (pc + 1) ls (.int v :: rest) s) : zWA M Λ d res pc ls (.int i :: .ref (1000 + j) :: rest) s := by
  refine zBd hf fun v h1 h2 => ?_
  unfold zlt at h1
  refine zIte h1 (fun hin h1 => ?_) (fun _ h1 => by cases h1)
  cases h1
  intro hM p l e s0 m args below meth c D cA ad A C H locs lsC hP hD hS hl
  exact va_tc C.1 C.2.1 (C.2.2.2.2.2.2.2.2.1.1 j _ hc).2 hS (vp_in_iff.mpr hin) rfl (zdec hM h) (kk _ h2 hM p l e s0 m args below meth c D cA ad A C H locs lsC hP hD hS hl)
theorem zTlen {j : Nat} {C0 n0 d0 : String} {ty : FieldType} {tab : List Int32} {v : Int32} (h : zlk M.2.2.2.2.2 pc = some (.arraylength, 1)) (hc : zTab[j]? = some (C0, n0, d0, ty, tab)) (hv : Int32.ofNat tab.length = v) (kk : zWA M Λ d res (pc + 1) ls (.int v :: rest) s) : zWA M Λ d res pc ls (.ref (1000 + j) :: rest) s := by
  intro hM p l e s0 m args below meth c D cA ad A C H locs lsC hP hD hS hl
  exact va_tlen C.1 C.2.1 (C.2.2.2.2.2.2.2.2.1.1 j _ hc).2 hS hv (zdec hM h) (kk hM p l e s0 m args below meth c D cA ad A C H locs lsC hP hD hS hl)
theorem zAald {α : Type} {r : α} {k kd n b : Nat} {i : Int32} {g : Nat → Option α} (hf : (zla n i).bind g = some r) (h : zlk M.2.2.2.2.2 pc = some (.aaload, 1)) (hc : Λ[k]? = some (.inr (kd + 2, n, b))) (kk : ∀ v, v < n → g v = some r → zWA M Λ d res (pc + 1) ls (.ref (b + 2 * v) :: rest) s) : zWA M Λ d res pc ls (.int i :: .ref k :: rest) s := by
  refine zBd hf fun v h1 h2 => ?_
  unfold zla at h1
  refine zIte h1 (fun hin h1 => ?_) (fun _ h1 => by cases h1)
  cases h1
  intro hM p l e s0 m args below meth c D cA ad A C H locs lsC hP hD hS hl
  have hv := vp_in_iff.mpr hin
  exact va_aldq (tys := zTy cA) C.1 C.2.1 C.2.2.2.2.2.2.2.1 hP k 2 (zW_get hc) rfl hv (zdec hM h) (kk _ (Nat.not_le.mp fun q => hv (Or.inr q)) h2 hM p l e s0 m args below meth c D cA ad A C H locs lsC hP hD hS hl)
theorem zIast {α : Type} {r : α} {k n b : Nat} {i v : Int32} {g : zSt → Option α} (hf : (zst s k n i v).bind g = some r) (h : zlk M.2.2.2.2.2 pc = some (.iastore, 1)) (hc : Λ[k]? = some (.inr (0, n, b))) (kk : ∀ s', g s' = some r → zWA M Λ d res (pc + 1) ls rest s') : zWA M Λ d res pc ls (.int v :: .int i :: .ref k :: rest) s := by
  refine zBd hf fun s' h1 h2 => ?_
  unfold zst at h1
  refine zIte h1 (fun hin h1 => ?_) (fun _ h1 => by cases h1)
  cases h1
  intro hM p l e s0 m args below meth c D cA ad A C H locs lsC hP hD hS hl
  refine va_iast (tys := zTy cA) C.1 C.2.1 C.2.2.2.2.2.2.2.1 hP hD hS k 0 (zW_get hc) rfl (vp_in_iff.mpr hin) (zdec hM h) fun H1 locs1 hP1 hD1 hS1 => ?_
  have e2 : zC ad cA (zw s k i.toNatClampNeg v) k (.inr (0, n, b)) = .inl (cA 0, n, .inl (upd (s.1 k) i.toNatClampNeg v)) := by simp only [zC, zw_same]
  have e3 := zW_set (ad := ad) (cA := cA) hc (zw_ne s k i.toNatClampNeg v)
  rw [e2] at e3
  rw [e3] at hP1 hD1
  exact kk _ h2 hM p l e s0 m args below meth c D cA ad A C H1 locs1 lsC hP1 hD1 hS1 hl
theorem zLast {α : Type} {r : α} {k n b : Nat} {i : Int32} {v : Int64} {g : zSt → Option α} (hf : (zstl s k n i v).bind g = some r) (h : zlk M.2.2.2.2.2 pc = some (.lastore, 1)) (hc : Λ[k]? = some (.inr (1, n, b))) (kk : ∀ s', g s' = some r → zWA M Λ d res (pc + 1) ls rest s') : zWA M Λ d res pc ls (.long v :: .int i :: .ref k :: rest) s := by
  refine zBd hf fun s' h1 h2 => ?_
  unfold zstl at h1
  refine zIte h1 (fun hin h1 => ?_) (fun _ h1 => by cases h1)
  cases h1
  intro hM p l e s0 m args below meth c D cA ad A C H locs lsC hP hD hS hl
  refine va_last (tys := zTy cA) C.1 C.2.1 C.2.2.2.2.2.2.2.1 hP hD hS k 1 (zW_get hc) rfl (vp_in_iff.mpr hin) (zdec hM h) fun H1 locs1 hP1 hD1 hS1 => ?_
  have e2 : zC ad cA (zwl s k i.toNatClampNeg v) k (.inr (1, n, b)) = .inl (cA 1, n, .inr (.inl (vp_updL (s.2 k) i.toNatClampNeg v))) := by simp only [zC, zwl_same]
  have e3 := zW_set (ad := ad) (cA := cA) hc (zwl_ne s k i.toNatClampNeg v)
  rw [e2] at e3
  rw [e3] at hP1 hD1
  exact kk _ h2 hM p l e s0 m args below meth c D cA ad A C H1 locs1 lsC hP1 hD1 hS1 hl
theorem zDiv {α : Type} {r : α} {x y : Int32} {g : Int32 → Option α} (hf : (zdv x y).bind g = some r) (h : zlk M.2.2.2.2.2 pc = some (.idiv, 1)) (kk : ∀ v, g v = some r → zWA M Λ d res (pc + 1) ls (.int v :: rest) s) : zWA M Λ d res pc ls (.int y :: .int x :: rest) s := by
  refine zBd hf fun v h1 h2 => ?_
  unfold zdv at h1
  refine zIte h1 (fun _ h1 => by cases h1) (fun hne h1 => ?_)
  cases h1
  intro hM p l e s0 m args below meth c D cA ad A C H locs lsC hP hD hS hl
  exact lv_idiv C.1 C.2.1 (zdec hM h) hne (kk _ h2 hM p l e s0 m args below meth c D cA ad A C H locs lsC hP hD hS hl)
theorem zRem {α : Type} {r : α} {x y : Int32} {g : Int32 → Option α} (hf : (zrv x y).bind g = some r) (h : zlk M.2.2.2.2.2 pc = some (.irem, 1)) (kk : ∀ v, g v = some r → zWA M Λ d res (pc + 1) ls (.int v :: rest) s) : zWA M Λ d res pc ls (.int y :: .int x :: rest) s := by
  refine zBd hf fun v h1 h2 => ?_
  unfold zrv at h1
  refine zIte h1 (fun _ h1 => by cases h1) (fun hne h1 => ?_)
  cases h1
  intro hM p l e s0 m args below meth c D cA ad A C H locs lsC hP hD hS hl
  exact lv_irem C.1 C.2.1 (zdec hM h) hne (kk _ h2 hM p l e s0 m args below meth c D cA ad A C H locs lsC hP hD hS hl)
theorem zDivL {α : Type} {r : α} {x y : Int64} {g : Int64 → Option α} (hf : (zdvl x y).bind g = some r) (h : zlk M.2.2.2.2.2 pc = some (.ldiv, 1)) (kk : ∀ v, g v = some r → zWA M Λ d res (pc + 1) ls (.long v :: rest) s) : zWA M Λ d res pc ls (.long y :: .long x :: rest) s := by
  refine zBd hf fun v h1 h2 => ?_
  unfold zdvl at h1
  refine zIte h1 (fun _ h1 => by cases h1) (fun hne h1 => ?_)
  cases h1
  intro hM p l e s0 m args below meth c D cA ad A C H locs lsC hP hD hS hl
  exact lv_ldiv C.1 C.2.1 (zdec hM h) hne (kk _ h2 hM p l e s0 m args below meth c D cA ad A C H locs lsC hP hD hS hl)
theorem zRemL {α : Type} {r : α} {x y : Int64} {g : Int64 → Option α} (hf : (zrvl x y).bind g = some r) (h : zlk M.2.2.2.2.2 pc = some (.lrem, 1)) (kk : ∀ v, g v = some r → zWA M Λ d res (pc + 1) ls (.long v :: rest) s) : zWA M Λ d res pc ls (.long y :: .long x :: rest) s := by
  refine zBd hf fun v h1 h2 => ?_
  unfold zrvl at h1
  refine zIte h1 (fun _ h1 => by cases h1) (fun hne h1 => ?_)
  cases h1
  intro hM p l e s0 m args below meth c D cA ad A C H locs lsC hP hD hS hl
  exact lv_lrem C.1 C.2.1 (zdec hM h) hne (kk _ h2 hM p l e s0 m args below meth c D cA ad A C H locs lsC hP hD hS hl)
theorem zRetI {r : Int32 × zSt} {v : Int32} (hf : some (v, s) = some r) (h : zlk M.2.2.2.2.2 pc = some (.ireturn, 1)) (hr : M.2.2.2.2.1 = some .int) : zWA M Λ d (some (.int r.1), r.2) pc ls [.int v] s := by
  cases hf
  intro hM p l e s0 m args below meth c D cA ad A C H locs lsC hP hD hS hl
  exact W.iret (v := v) C.1 C.2.1 (C.2.2.2.1.trans hr) (fun t ht hW => ⟨rfl, by rw [ht]; exact hP, hS.F ht⟩) hS.2.2 (zdec hM h) C.2.2.2.2.1
theorem zRetZ {r : Int32 × zSt} {v : Int32} {g : Int32 → Option (Int32 × zSt)} (hf : (zbo v).bind (fun v => some (v, s)) = some r) (h : zlk M.2.2.2.2.2 pc = some (.ireturn, 1)) (hr : M.2.2.2.2.1 = some .boolean) : zWA M Λ d (some (.int r.1), r.2) pc ls [.int v] s := by
  refine zBd hf fun v' h1 h2 => ?_
  unfold zbo at h1
  refine zIte h1 (fun hv h1 => ?_) (fun _ h1 => by cases h1)
  cases h1
  cases h2
  intro hM p l e s0 m args below meth c D cA ad A C H locs lsC hP hD hS hl
  exact W.zret (v := v) C.1 C.2.1 (C.2.2.2.1.trans hr) (by rcases hv with rfl | rfl <;> rfl) (fun t ht hW => ⟨rfl, by rw [ht]; exact hP, hS.F ht⟩) hS.2.2 (zdec hM h) C.2.2.2.2.1
theorem zRetL {r : Int64 × zSt} {v : Int64} (hf : some (v, s) = some r) (h : zlk M.2.2.2.2.2 pc = some (.lreturn, 1)) (hr : M.2.2.2.2.1 = some .long) : zWA M Λ d (some (.long r.1), r.2) pc ls [.long v] s := by
  cases hf
  intro hM p l e s0 m args below meth c D cA ad A C H locs lsC hP hD hS hl
  exact W.lret (v := v) C.1 C.2.1 (C.2.2.2.1.trans hr) (fun t ht hW => ⟨rfl, by rw [ht]; exact hP, hS.F ht⟩) hS.2.2 (zdec hM h) C.2.2.2.2.1
theorem zRetV {r : zSt} (hf : some s = some r) (h : zlk M.2.2.2.2.2 pc = some (.return_, 1)) (hr : M.2.2.2.2.1 = none) : zWA M Λ d (none, r) pc ls [] s := by
  cases hf
  intro hM p l e s0 m args below meth c D cA ad A C H locs lsC hP hD hS hl
  exact W.vret C.1 C.2.1 (C.2.2.2.1.trans hr) (fun t ht hW => ⟨rfl, by rw [ht]; exact hP, hS.F ht⟩) hS.2.2 (zdec hM h) C.2.2.2.2.1
theorem zRetR {C0 : String} {v : Nat} (h : zlk M.2.2.2.2.2 pc = some (.areturn, 1)) (hr : M.2.2.2.2.1 = some (.object C0)) : zWA M Λ d (some (.ref v), s) pc ls [.ref v] s := by
  intro hM p l e s0 m args below meth c D cA ad A C H locs lsC hP hD hS hl
  exact W.aret (v := .ref (ad v)) C.1 C.2.1 (C.2.2.2.1.trans hr) (Or.inl ⟨_, rfl⟩) (Or.inr ⟨_, rfl⟩) (fun t ht hW => ⟨rfl, by rw [ht]; exact hP, hS.F ht⟩) hS.2.2 (zdec hM h) C.2.2.2.2.1
theorem zRetN {C0 : String} (h : zlk M.2.2.2.2.2 pc = some (.areturn, 1)) (hr : M.2.2.2.2.1 = some (.object C0)) : zWA M Λ d (some .null, s) pc ls [.null] s := by
  intro hM p l e s0 m args below meth c D cA ad A C H locs lsC hP hD hS hl
  exact W.aret (v := .null) C.1 C.2.1 (C.2.2.2.1.trans hr) (Or.inl ⟨_, rfl⟩) (Or.inl rfl) (fun t ht hW => ⟨rfl, by rw [ht]; exact hP, hS.F ht⟩) hS.2.2 (zdec hM h) C.2.2.2.2.1
theorem zTabIn {dflt lo hi : Int} {offs : Array Int} {len : Nat} {x : Int32} {off : Int} {tgt : Nat} (c : Int32) (hx : x = c) (h : zlk M.2.2.2.2.2 pc = some (.tableswitch dflt lo hi offs, len)) (h1 : ¬ c.toInt < lo) (h2 : ¬ hi < c.toInt) (ho : offs[(c.toInt - lo).toNat]? = some off) (ht : (pc : Int) + off = (tgt : Int)) (k : zWA M Λ d res tgt ls rest s) : zWA M Λ d res pc ls (.int x :: rest) s := by
  subst hx
  intro hM p l e s0 m args below meth c D cA ad A C H locs lsC hP hD hS hl
  exact lv_tableIn C.1 C.2.1 (zdec hM h) h1 h2 ho ht (k hM p l e s0 m args below meth c D cA ad A C H locs lsC hP hD hS hl)
theorem zTabOut {dflt lo hi : Int} {offs : Array Int} {len : Nat} {x : Int32} {tgt : Nat} (hx : x.toInt < lo ∨ hi < x.toInt) (h : zlk M.2.2.2.2.2 pc = some (.tableswitch dflt lo hi offs, len)) (ht : (pc : Int) + dflt = (tgt : Int)) (k : zWA M Λ d res tgt ls rest s) : zWA M Λ d res pc ls (.int x :: rest) s := by
  intro hM p l e s0 m args below meth c D cA ad A C H locs lsC hP hD hS hl
  exact lv_tableOut C.1 C.2.1 (zdec hM h) hx ht (k hM p l e s0 m args below meth c D cA ad A C H locs lsC hP hD hS hl)
theorem zLook {dflt : Int} {ps : Array (Int × Int)} {len : Nat} {x : Int32} {off : Int} {tgt : Nat} (c : Int32) (hx : x = c) (h : zlk M.2.2.2.2.2 pc = some (.lookupswitch dflt ps, len)) (hp : (ps.toList.zip (ps.toList.drop 1)).all (fun (a, next) => a.1 < next.1) = true) (ho : Op.lookupswitch.offset ps.toList dflt c.toInt = off) (ht : (pc : Int) + off = (tgt : Int)) (k : zWA M Λ d res tgt ls rest s) : zWA M Λ d res pc ls (.int x :: rest) s := by
  subst hx
  intro hM p l e s0 m args below meth c D cA ad A C H locs lsC hP hD hS hl
  exact lv_lookup C.1 C.2.1 (zdec hM h) hp ho ht (k hM p l e s0 m args below meth c D cA ad A C H locs lsC hP hD hS hl)
end ZB
