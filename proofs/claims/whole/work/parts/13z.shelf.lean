/-! shelfAt: null, or a shelf -/
theorem k_shelfAt (a : Int32) (s : zSt) : (0 ≤ a.toInt ∧ a.toInt < 6 → zKp zm_g_shelfAt ΛG 3 [.ref 0, .int a] s (some (.ref (40 + 2 * a.toNatClampNeg)), s)) ∧ (¬ (0 ≤ a.toInt ∧ a.toInt < 6) → zKp zm_g_shelfAt ΛG 3 [.ref 0, .int a] s (some .null, s)) := by
  have hin : 0 ≤ a.toInt ∧ a.toInt < 6 → f_g_isWithin a 0 5 s = some (1, s) := by
    intro h
    have h1 : ¬ a < 0 := by rw [Int32.lt_iff_toInt_lt]; show ¬ a.toInt < 0; omega
    have h2 : ¬ (5 : Int32) < a := by rw [Int32.lt_iff_toInt_lt]; show ¬ (5 : Int) < a.toInt; omega
    simp [f_g_isWithin, h1, h2]
  have hout : ¬ (0 ≤ a.toInt ∧ a.toInt < 6) → f_g_isWithin a 0 5 s = some (0, s) := by
    intro h
    by_cases h1 : a < 0
    · simp [f_g_isWithin, h1]
    · have h2 : (5 : Int32) < a := by
        rw [Int32.lt_iff_toInt_lt] at h1 ⊢
        change ¬ a.toInt < 0 at h1
        show (5 : Int) < a.toInt
        omega
      simp [f_g_isWithin, h1, h2]
  constructor
  · intro h
    refine zKp_of zmk_g_shelfAt rfl ?_
    show zWA _ _ _ _ _ [(0, .ref 0), (1, .int a)] _ _
    refine zB zlokG 3 (pc' := 3) (ls' := [(0, .ref 0), (1, .int a)]) (st' := [.int 5, .int 0, .int a]) (s' := s) rfl ?_
    refine zSI (X := f_g_isWithin a 0 5 s) (g := some) (r := (1, s)) (by rw [hin h]; rfl) (As := [.int a, .int 0, .int 5]) (rest := []) 3 zmk_g_isWithin zok_g_isWithin zl_340 rfl rfl rfl rfl rfl (fun _ e => k_g_isWithin _ _ _ _ _ e) (fun x hf => ?_)
    cases hf
    refine zIeqF (x := 1) (tgt := 18) (by decide) rfl (by decide) ?_
    refine zB zlokG 3 (pc' := 14) (ls' := [(0, .ref 0), (1, .int a)]) (st' := [.int a, .ref 39]) (s' := s) rfl ?_
    refine zAald (r := a.toNatClampNeg) (g := some) (n := 6) (b := 40) (by rw [zla, if_pos (show 0 ≤ a.toInt ∧ a.toInt < ((6 : Nat) : Int) from h)]; rfl) rfl (kd := 0) rfl (fun v _ hf => ?_)
    cases hf
    refine zGoto (tgt := 19) rfl (by decide) ?_
    exact zRetR rfl rfl
  · intro h
    refine zKp_of zmk_g_shelfAt rfl ?_
    show zWA _ _ _ _ _ [(0, .ref 0), (1, .int a)] _ _
    refine zB zlokG 3 (pc' := 3) (ls' := [(0, .ref 0), (1, .int a)]) (st' := [.int 5, .int 0, .int a]) (s' := s) rfl ?_
    refine zSI (X := f_g_isWithin a 0 5 s) (g := some) (r := (0, s)) (by rw [hout h]; rfl) (As := [.int a, .int 0, .int 5]) (rest := []) 3 zmk_g_isWithin zok_g_isWithin zl_340 rfl rfl rfl rfl rfl (fun _ e => k_g_isWithin _ _ _ _ _ e) (fun x hf => ?_)
    cases hf
    refine zIeqT (x := 0) (tgt := 18) (by decide) rfl (by decide) ?_
    refine zB zlokG 1 (pc' := 19) (ls' := [(0, .ref 0), (1, .int a)]) (st' := [.null]) (s' := s) rfl ?_
    exact zRetN rfl rfl
theorem zShelfAt {M : zM} {d : Nat} {res : Option Value × zSt} {pc : Nat} {ls : List (Nat × Value)} {rest : List Value} {s : zSt} {α : Type} {r : α} {a : Int32} {idx : Nat} {g : Nat → Option α} {B : Option α} (hf : (if 0 ≤ a.toInt ∧ a.toInt < 6 then (some a.toNatClampNeg).bind g else B) = some r) (hl : Cond.methodLink M.2.1.cls idx ⟨"LemonGate", "shelfAt", "(I)LLemonGate$Shelf;"⟩ ∈ tables_1) (h : zlk M.2.2.2.2.2 pc = some (.invokevirtual idx, 3)) (hR : (Nat.ble (3 + 1) d && Nat.ble zm_g_shelfAt.2.2.2.1 45) = true) (hc : Nat.ble ((rest.map fun v => v.category).sum) 8 = true)
    (k1 : ∀ j, j < 6 → g j = some r → zWA M ΛG d res (pc + 3) ls (.ref (40 + 2 * j) :: rest) s) (k2 : B = some r → zWA M ΛG d res (pc + 3) ls (.null :: rest) s) : zWA M ΛG d res pc ls (.int a :: .ref 0 :: rest) s := by
  refine zIte hf (fun hin hf => ?_) (fun hin hf => ?_)
  · refine zCallV (M' := zm_g_shelfAt) (As := [.int a]) (rest := rest) 1 zmk_g_shelfAt zok_g_shelfAt hl h rfl rfl rfl hR hc rfl rfl ((k_shelfAt a s).1 hin) (k1 _ ?_ hf)
    have hv := vp_in_iff.mpr (show 0 ≤ a.toInt ∧ a.toInt < ((6 : Nat) : Int) from hin)
    exact Nat.not_le.mp fun q => hv (Or.inr q)
  · exact zCallV (M' := zm_g_shelfAt) (As := [.int a]) (rest := rest) 1 zmk_g_shelfAt zok_g_shelfAt hl h rfl rfl rfl hR hc rfl rfl ((k_shelfAt a s).2 hin) (k2 hf)
