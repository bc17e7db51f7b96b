theorem zdr {d' d m : Nat} (h : d' + 1 ≤ d) (h2 : Nat.ble m 45 = true) : (Nat.ble (d' + 1) d && Nat.ble m 45) = true := by
  rw [h2, Nat.ble_eq_true_of_le h]; rfl
theorem zdr1 {d : Nat} (h : 1 ≤ d) : Nat.ble 1 d = true := Nat.ble_eq_true_of_le h
theorem zRetZb {M : zM} {Λ : List zD} {d : Nat} {pc : Nat} {ls : List (Nat × Value)} {s : zSt} {r : Int32 × zSt} {v : Int32} (hf : (zbo v).bind (fun v => some (v, s)) = some r) (h : zlk M.2.2.2.2.2 pc = some (.ireturn, 1)) (hr : M.2.2.2.2.1 = some .boolean) : zWA M Λ d (some (.int r.1), r.2) pc ls [.int v] s :=
  zRetZ (g := fun v => some (v, s)) hf h hr
