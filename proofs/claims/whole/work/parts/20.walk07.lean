/-! contracts: m_sums m_product m_one m_workOut m_law m_namesAll m_heldTo m_tasteOf m_buysOf m_taste m_draws m_makesOne m_passersIn m_quarterGoes m_dayGoes m_gainOf -/
set_option maxRecDepth 20000 in
theorem c_f_m_sums_44 (c_m_product : zSt → Option (Int32 × zSt)) {dd : Nat} (hdd : 9 ≤ dd) (hk_m_product : ∀ (s : zSt) (r : Int32 × zSt), c_m_product s = some r → zKp zm_m_product ΛM dd [.ref 0] s (some (.int r.1), r.2)) {r : Int32 × zSt} (k5 : Int32 → zSt → Option (Int32 × zSt)) (hk5 : ∀ (v1 : Int32) (s : zSt), k5 v1 s = some r → zWA zm_m_sums ΛM (dd + 1) (some (.int r.1), r.2) 5 [(0, .ref 0), (1, .int v1)] [] s) : ∀ (v1 : Int32) (w0 : Int32) (s : zSt), f_m_sums_44 c_m_product k5 v1 w0 s = some r → zWA zm_m_sums ΛM (dd + 1) (some (.int r.1), r.2) 44 [(0, .ref 0), (1, .int v1)] [.int w0] s := by
  intro v1 w0 s hf
  refine zB zlokM 8 (pc' := 56) (ls' := [(2, .int w0), (0, .ref 0), (1, .int v1)]) (st' := [.ref 0]) (s' := (zw s 0 15 ((s.1 0 15) + 1))) rfl ?_
  refine zXI hf (As := []) (rest := []) 0 zmk_m_product zok_m_product zl_1161 rfl rfl rfl rfl (zdr (by omega) rfl) rfl rfl rfl (fun _ e => hk_m_product _ _ e) (fun x5 hf => ?_)
  refine zB zlokM 2 (pc' := 61) (ls' := [(3, .int x5.1), (2, .int w0), (0, .ref 0), (1, .int v1)]) (st' := [.int w0]) (s' := x5.2) rfl ?_
  refine zIeq hf (tgt := 70) rfl (by decide) (fun hc hf => ?_) (fun hc hf => ?_)
  · refine zB zlokM 4 (pc' := 74) (ls' := [(1, .int (v1 - x5.1)), (3, .int x5.1), (2, .int w0), (0, .ref 0)]) (st' := []) (s' := x5.2) rfl ?_
    refine zGoto (tgt := 5) rfl (by decide) ?_
    refine zLoc [3, 0] rfl ?_
    exact hk5 _ _ hf
  · refine zB zlokM 3 (pc' := 67) (ls' := [(3, .int x5.1), (2, .int w0), (0, .ref 0), (1, .int v1)]) (st' := [.int (v1 + x5.1)]) (s' := x5.2) rfl ?_
    refine zGoto (tgt := 73) rfl (by decide) ?_
    refine zB zlokM 1 (pc' := 74) (ls' := [(1, .int (v1 + x5.1)), (3, .int x5.1), (2, .int w0), (0, .ref 0)]) (st' := []) (s' := x5.2) rfl ?_
    refine zGoto (tgt := 5) rfl (by decide) ?_
    refine zLoc [3, 0] rfl ?_
    exact hk5 _ _ hf
set_option maxRecDepth 20000 in
theorem c_f_m_sums_30 (c_m_product : zSt → Option (Int32 × zSt)) {dd : Nat} (hdd : 9 ≤ dd) (hk_m_product : ∀ (s : zSt) (r : Int32 × zSt), c_m_product s = some r → zKp zm_m_product ΛM dd [.ref 0] s (some (.int r.1), r.2)) {r : Int32 × zSt} (k5 : Int32 → zSt → Option (Int32 × zSt)) (hk5 : ∀ (v1 : Int32) (s : zSt), k5 v1 s = some r → zWA zm_m_sums ΛM (dd + 1) (some (.int r.1), r.2) 5 [(0, .ref 0), (1, .int v1)] [] s) : ∀ (v1 : Int32) (s : zSt), f_m_sums_30 c_m_product k5 v1 s = some r → zWA zm_m_sums ΛM (dd + 1) (some (.int r.1), r.2) 30 [(0, .ref 0), (1, .int v1)] [] s := by
  intro v1 s hf
  refine zB zlokM 1 (pc' := 31) (ls' := [(0, .ref 0), (1, .int v1)]) (st' := [.ref 0]) (s' := s) rfl ?_
  refine zXI hf (As := []) (rest := []) 0 zmk_m_byteAt zok_m_byteAt zl_1169 rfl rfl rfl rfl (zdr (by omega) rfl) rfl rfl rfl (fun _ e => k_m_byteAt _ _ e) (fun x4 hf => ?_)
  refine zB zlokM 1 (pc' := 36) (ls' := [(0, .ref 0), (1, .int v1)]) (st' := [.int 43, .int x4.1]) (s' := x4.2) rfl ?_
  refine zCne hf (tgt := 43) rfl (by decide) (fun hc hf => ?_) (fun hc hf => ?_)
  · refine zB zlokM 1 (pc' := 40) (ls' := [(0, .ref 0), (1, .int v1)]) (st' := [.int 1]) (s' := x4.2) rfl ?_
    refine zGoto (tgt := 44) rfl (by decide) ?_
    refine zLoc [0, 1] rfl ?_
    exact c_f_m_sums_44 _ hdd hk_m_product _ hk5 _ _ _ hf
  · refine zB zlokM 1 (pc' := 44) (ls' := [(0, .ref 0), (1, .int v1)]) (st' := [.int 0]) (s' := x4.2) rfl ?_
    refine zLoc [0, 1] rfl ?_
    exact c_f_m_sums_44 _ hdd hk_m_product _ hk5 _ _ _ hf
set_option maxRecDepth 20000 in
theorem c_f_m_sums_5 (c_m_product : zSt → Option (Int32 × zSt)) {dd : Nat} (hdd : 9 ≤ dd) (hk_m_product : ∀ (s : zSt) (r : Int32 × zSt), c_m_product s = some r → zKp zm_m_product ΛM dd [.ref 0] s (some (.int r.1), r.2)) {r : Int32 × zSt} : ∀ (n : Nat) (v1 : Int32) (s : zSt), f_m_sums_5 c_m_product n v1 s = some r → zWA zm_m_sums ΛM (dd + 1) (some (.int r.1), r.2) 5 [(0, .ref 0), (1, .int v1)] [] s := by
  intro n
  induction n with
  | zero => intro v1 s hf; cases hf
  | succ n ih =>
    intro v1 s hf
    refine zB zlokM 2 (pc' := 9) (ls' := [(0, .ref 0), (1, .int v1)]) (st' := [.int (s.1 0 17)]) (s' := s) rfl ?_
    refine zIge hf (tgt := 77) rfl (by decide) (fun hc hf => ?_) (fun hc hf => ?_)
    · refine zB zlokM 1 (pc' := 78) (ls' := [(0, .ref 0), (1, .int v1)]) (st' := [.int v1]) (s' := s) rfl ?_
      exact zRetI hf rfl rfl
    · refine zB zlokM 1 (pc' := 13) (ls' := [(0, .ref 0), (1, .int v1)]) (st' := [.ref 0]) (s' := s) rfl ?_
      refine zXI hf (As := []) (rest := []) 0 zmk_m_byteAt zok_m_byteAt zl_1169 rfl rfl rfl rfl (zdr (by omega) rfl) rfl rfl rfl (fun _ e => k_m_byteAt _ _ e) (fun x2 hf => ?_)
      refine zB zlokM 1 (pc' := 18) (ls' := [(0, .ref 0), (1, .int v1)]) (st' := [.int 43, .int x2.1]) (s' := x2.2) rfl ?_
      refine zCeq hf (tgt := 30) rfl (by decide) (fun hc hf => ?_) (fun hc hf => ?_)
      · refine zLoc [0, 1] rfl ?_
        exact c_f_m_sums_30 _ hdd hk_m_product _ ih _ _ hf
      · refine zB zlokM 1 (pc' := 22) (ls' := [(0, .ref 0), (1, .int v1)]) (st' := [.ref 0]) (s' := x2.2) rfl ?_
        refine zXI hf (As := []) (rest := []) 0 zmk_m_byteAt zok_m_byteAt zl_1169 rfl rfl rfl rfl (zdr (by omega) rfl) rfl rfl rfl (fun _ e => k_m_byteAt _ _ e) (fun x3 hf => ?_)
        refine zB zlokM 1 (pc' := 27) (ls' := [(0, .ref 0), (1, .int v1)]) (st' := [.int 45, .int x3.1]) (s' := x3.2) rfl ?_
        refine zCne hf (tgt := 77) rfl (by decide) (fun hc hf => ?_) (fun hc hf => ?_)
        · refine zLoc [0, 1] rfl ?_
          exact c_f_m_sums_30 _ hdd hk_m_product _ ih _ _ hf
        · refine zB zlokM 1 (pc' := 78) (ls' := [(0, .ref 0), (1, .int v1)]) (st' := [.int v1]) (s' := x3.2) rfl ?_
          exact zRetI hf rfl rfl
set_option maxRecDepth 20000 in
theorem kb_m_sums (c_m_product : zSt → Option (Int32 × zSt)) {dd : Nat} (hdd : 9 ≤ dd) (hk_m_product : ∀ (s : zSt) (r : Int32 × zSt), c_m_product s = some r → zKp zm_m_product ΛM dd [.ref 0] s (some (.int r.1), r.2)) (s : zSt) (r : Int32 × zSt) (hf : b_m_sums c_m_product s = some r) : zKp zm_m_sums ΛM (dd + 1) [.ref 0] s (some (.int r.1), r.2) := by
  refine zKp_of zmk_m_sums rfl ?_
  show zWA _ _ _ _ _ [(0, .ref 0)] _ _
  refine zB zlokM 1 (pc' := 1) (ls' := [(0, .ref 0)]) (st' := [.ref 0]) (s' := s) rfl ?_
  refine zXI hf (As := []) (rest := []) 0 zmk_m_product zok_m_product zl_1161 rfl rfl rfl rfl (zdr (by omega) rfl) rfl rfl rfl (fun _ e => hk_m_product _ _ e) (fun x1 hf => ?_)
  refine zB zlokM 1 (pc' := 5) (ls' := [(1, .int x1.1), (0, .ref 0)]) (st' := []) (s' := x1.2) rfl ?_
  refine zLoc [1, 0] rfl ?_
  exact c_f_m_sums_5 _ hdd hk_m_product zFu _ _ hf
set_option maxRecDepth 20000 in
theorem c_f_m_product_35 (c_m_one : zSt → Option (Int32 × zSt)) {dd : Nat} (hdd : 9 ≤ dd) (hk_m_one : ∀ (s : zSt) (r : Int32 × zSt), c_m_one s = some r → zKp zm_m_one ΛM dd [.ref 0] s (some (.int r.1), r.2)) {r : Int32 × zSt} (k10 : Int32 → Int32 → zSt → Option (Int32 × zSt)) (hk10 : ∀ (v1 : Int32) (v2 : Int32) (s : zSt), k10 v1 v2 s = some r → zWA zm_m_product ΛM (dd + 1) (some (.int r.1), r.2) 10 [(0, .ref 0), (1, .int v1), (2, .int v2)] [] s) : ∀ (v1 : Int32) (v2 : Int32) (s : zSt), f_m_product_35 c_m_one k10 v1 v2 s = some r → zWA zm_m_product ΛM (dd + 1) (some (.int r.1), r.2) 35 [(0, .ref 0), (1, .int v1), (2, .int v2)] [] s := by
  intro v1 v2 s hf
  refine zB zlokM 7 (pc' := 46) (ls' := [(0, .ref 0), (1, .int v1), (2, .int v2)]) (st' := [.ref 0]) (s' := (zw s 0 15 ((s.1 0 15) + 1))) rfl ?_
  refine zXI hf (As := []) (rest := []) 0 zmk_m_one zok_m_one zl_1165 rfl rfl rfl rfl (zdr (by omega) rfl) rfl rfl rfl (fun _ e => hk_m_one _ _ e) (fun x3 hf => ?_)
  refine zB zlokM 3 (pc' := 53) (ls' := [(3, .int x3.1), (0, .ref 0), (1, .int v1), (2, .int v2)]) (st' := [.int 42, .int v2]) (s' := x3.2) rfl ?_
  refine zCne hf (tgt := 62) rfl (by decide) (fun hc hf => ?_) (fun hc hf => ?_)
  · refine zB zlokM 3 (pc' := 59) (ls' := [(3, .int x3.1), (0, .ref 0), (1, .int v1), (2, .int v2)]) (st' := [.int (v1 * x3.1)]) (s' := x3.2) rfl ?_
    refine zGoto (tgt := 85) rfl (by decide) ?_
    refine zB zlokM 2 (pc' := 87) (ls' := [(1, .int (v1 * x3.1)), (3, .int x3.1), (0, .ref 0), (2, .int v2)]) (st' := [.ref 0]) (s' := x3.2) rfl ?_
    refine zXI hf (As := []) (rest := []) 0 zmk_m_byteAt zok_m_byteAt zl_1169 rfl rfl rfl rfl (zdr (by omega) rfl) rfl rfl rfl (fun _ e => k_m_byteAt _ _ e) (fun x4 hf => ?_)
    refine zB zlokM 1 (pc' := 91) (ls' := [(2, .int x4.1), (1, .int (v1 * x3.1)), (3, .int x3.1), (0, .ref 0)]) (st' := []) (s' := x4.2) rfl ?_
    refine zGoto (tgt := 10) rfl (by decide) ?_
    refine zLoc [3, 1, 0] rfl ?_
    exact hk10 _ _ _ hf
  · refine zB zlokM 1 (pc' := 63) (ls' := [(3, .int x3.1), (0, .ref 0), (1, .int v1), (2, .int v2)]) (st' := [.int x3.1]) (s' := x3.2) rfl ?_
    refine zIne hf (tgt := 70) rfl (by decide) (fun hc hf => ?_) (fun hc hf => ?_)
    · refine zB zlokM 1 (pc' := 67) (ls' := [(3, .int x3.1), (0, .ref 0), (1, .int v1), (2, .int v2)]) (st' := [.int 0]) (s' := x3.2) rfl ?_
      refine zGoto (tgt := 85) rfl (by decide) ?_
      refine zB zlokM 2 (pc' := 87) (ls' := [(1, .int 0), (3, .int x3.1), (0, .ref 0), (2, .int v2)]) (st' := [.ref 0]) (s' := x3.2) rfl ?_
      refine zXI hf (As := []) (rest := []) 0 zmk_m_byteAt zok_m_byteAt zl_1169 rfl rfl rfl rfl (zdr (by omega) rfl) rfl rfl rfl (fun _ e => k_m_byteAt _ _ e) (fun x5 hf => ?_)
      refine zB zlokM 1 (pc' := 91) (ls' := [(2, .int x5.1), (1, .int 0), (3, .int x3.1), (0, .ref 0)]) (st' := []) (s' := x5.2) rfl ?_
      refine zGoto (tgt := 10) rfl (by decide) ?_
      refine zLoc [3, 1, 0] rfl ?_
      exact hk10 _ _ _ hf
    · refine zB zlokM 2 (pc' := 73) (ls' := [(3, .int x3.1), (0, .ref 0), (1, .int v1), (2, .int v2)]) (st' := [.int 47, .int v2]) (s' := x3.2) rfl ?_
      refine zCne hf (tgt := 82) rfl (by decide) (fun hc hf => ?_) (fun hc hf => ?_)
      · refine zB zlokM 2 (pc' := 78) (ls' := [(3, .int x3.1), (0, .ref 0), (1, .int v1), (2, .int v2)]) (st' := [.int x3.1, .int v1]) (s' := x3.2) rfl ?_
        refine zDiv hf rfl (fun x6 hf => ?_)
        refine zGoto (tgt := 85) rfl (by decide) ?_
        refine zB zlokM 2 (pc' := 87) (ls' := [(1, .int x6), (3, .int x3.1), (0, .ref 0), (2, .int v2)]) (st' := [.ref 0]) (s' := x3.2) rfl ?_
        refine zXI hf (As := []) (rest := []) 0 zmk_m_byteAt zok_m_byteAt zl_1169 rfl rfl rfl rfl (zdr (by omega) rfl) rfl rfl rfl (fun _ e => k_m_byteAt _ _ e) (fun x7 hf => ?_)
        refine zB zlokM 1 (pc' := 91) (ls' := [(2, .int x7.1), (1, .int x6), (3, .int x3.1), (0, .ref 0)]) (st' := []) (s' := x7.2) rfl ?_
        refine zGoto (tgt := 10) rfl (by decide) ?_
        refine zLoc [3, 1, 0] rfl ?_
        exact hk10 _ _ _ hf
      · refine zB zlokM 2 (pc' := 84) (ls' := [(3, .int x3.1), (0, .ref 0), (1, .int v1), (2, .int v2)]) (st' := [.int x3.1, .int v1]) (s' := x3.2) rfl ?_
        refine zRem hf rfl (fun x8 hf => ?_)
        refine zB zlokM 2 (pc' := 87) (ls' := [(1, .int x8), (3, .int x3.1), (0, .ref 0), (2, .int v2)]) (st' := [.ref 0]) (s' := x3.2) rfl ?_
        refine zXI hf (As := []) (rest := []) 0 zmk_m_byteAt zok_m_byteAt zl_1169 rfl rfl rfl rfl (zdr (by omega) rfl) rfl rfl rfl (fun _ e => k_m_byteAt _ _ e) (fun x9 hf => ?_)
        refine zB zlokM 1 (pc' := 91) (ls' := [(2, .int x9.1), (1, .int x8), (3, .int x3.1), (0, .ref 0)]) (st' := []) (s' := x9.2) rfl ?_
        refine zGoto (tgt := 10) rfl (by decide) ?_
        refine zLoc [3, 1, 0] rfl ?_
        exact hk10 _ _ _ hf
set_option maxRecDepth 20000 in
theorem c_f_m_product_10 (c_m_one : zSt → Option (Int32 × zSt)) {dd : Nat} (hdd : 9 ≤ dd) (hk_m_one : ∀ (s : zSt) (r : Int32 × zSt), c_m_one s = some r → zKp zm_m_one ΛM dd [.ref 0] s (some (.int r.1), r.2)) {r : Int32 × zSt} : ∀ (n : Nat) (v1 : Int32) (v2 : Int32) (s : zSt), f_m_product_10 c_m_one n v1 v2 s = some r → zWA zm_m_product ΛM (dd + 1) (some (.int r.1), r.2) 10 [(0, .ref 0), (1, .int v1), (2, .int v2)] [] s := by
  intro n
  induction n with
  | zero => intro v1 v2 s hf; cases hf
  | succ n ih =>
    intro v1 v2 s hf
    refine zB zlokM 2 (pc' := 14) (ls' := [(0, .ref 0), (1, .int v1), (2, .int v2)]) (st' := [.int (s.1 0 17)]) (s' := s) rfl ?_
    refine zIge hf (tgt := 94) rfl (by decide) (fun hc hf => ?_) (fun hc hf => ?_)
    · refine zB zlokM 1 (pc' := 95) (ls' := [(0, .ref 0), (1, .int v1), (2, .int v2)]) (st' := [.int v1]) (s' := s) rfl ?_
      exact zRetI hf rfl rfl
    · refine zB zlokM 2 (pc' := 20) (ls' := [(0, .ref 0), (1, .int v1), (2, .int v2)]) (st' := [.int 42, .int v2]) (s' := s) rfl ?_
      refine zCeq hf (tgt := 35) rfl (by decide) (fun hc hf => ?_) (fun hc hf => ?_)
      · refine zLoc [0, 1, 2] rfl ?_
        exact c_f_m_product_35 _ hdd hk_m_one _ ih _ _ _ hf
      · refine zB zlokM 2 (pc' := 26) (ls' := [(0, .ref 0), (1, .int v1), (2, .int v2)]) (st' := [.int 47, .int v2]) (s' := s) rfl ?_
        refine zCeq hf (tgt := 35) rfl (by decide) (fun hc hf => ?_) (fun hc hf => ?_)
        · refine zLoc [0, 1, 2] rfl ?_
          exact c_f_m_product_35 _ hdd hk_m_one _ ih _ _ _ hf
        · refine zB zlokM 2 (pc' := 32) (ls' := [(0, .ref 0), (1, .int v1), (2, .int v2)]) (st' := [.int 37, .int v2]) (s' := s) rfl ?_
          refine zCne hf (tgt := 94) rfl (by decide) (fun hc hf => ?_) (fun hc hf => ?_)
          · refine zLoc [0, 1, 2] rfl ?_
            exact c_f_m_product_35 _ hdd hk_m_one _ ih _ _ _ hf
          · refine zB zlokM 1 (pc' := 95) (ls' := [(0, .ref 0), (1, .int v1), (2, .int v2)]) (st' := [.int v1]) (s' := s) rfl ?_
            exact zRetI hf rfl rfl
set_option maxRecDepth 20000 in
theorem kb_m_product (c_m_one : zSt → Option (Int32 × zSt)) {dd : Nat} (hdd : 9 ≤ dd) (hk_m_one : ∀ (s : zSt) (r : Int32 × zSt), c_m_one s = some r → zKp zm_m_one ΛM dd [.ref 0] s (some (.int r.1), r.2)) (s : zSt) (r : Int32 × zSt) (hf : b_m_product c_m_one s = some r) : zKp zm_m_product ΛM (dd + 1) [.ref 0] s (some (.int r.1), r.2) := by
  refine zKp_of zmk_m_product rfl ?_
  show zWA _ _ _ _ _ [(0, .ref 0)] _ _
  refine zB zlokM 1 (pc' := 1) (ls' := [(0, .ref 0)]) (st' := [.ref 0]) (s' := s) rfl ?_
  refine zXI hf (As := []) (rest := []) 0 zmk_m_one zok_m_one zl_1165 rfl rfl rfl rfl (zdr (by omega) rfl) rfl rfl rfl (fun _ e => hk_m_one _ _ e) (fun x1 hf => ?_)
  refine zB zlokM 2 (pc' := 6) (ls' := [(1, .int x1.1), (0, .ref 0)]) (st' := [.ref 0]) (s' := x1.2) rfl ?_
  refine zXI hf (As := []) (rest := []) 0 zmk_m_byteAt zok_m_byteAt zl_1169 rfl rfl rfl rfl (zdr (by omega) rfl) rfl rfl rfl (fun _ e => k_m_byteAt _ _ e) (fun x2 hf => ?_)
  refine zB zlokM 1 (pc' := 10) (ls' := [(2, .int x2.1), (1, .int x1.1), (0, .ref 0)]) (st' := []) (s' := x2.2) rfl ?_
  refine zLoc [2, 1, 0] rfl ?_
  exact c_f_m_product_10 _ hdd hk_m_one zFu _ _ _ hf
set_option maxRecDepth 20000 in
theorem c_f_m_one_104 (c_m_either : zSt → Option (Int32 × zSt)) (c_m_one : zSt → Option (Int32 × zSt)) {dd : Nat} (hdd : 9 ≤ dd) (hk_m_either : ∀ (s : zSt) (r : Int32 × zSt), c_m_either s = some r → zKp zm_m_either ΛM dd [.ref 0] s (some (.int r.1), r.2)) (hk_m_one : ∀ (s : zSt) (r : Int32 × zSt), c_m_one s = some r → zKp zm_m_one ΛM dd [.ref 0] s (some (.int r.1), r.2)) {r : Int32 × zSt} : ∀ (v1 : Int32) (v2 : Int32) (s : zSt), f_m_one_104 c_m_either c_m_one v1 v2 s = some r → zWA zm_m_one ΛM (dd + 1) (some (.int r.1), r.2) 104 [(0, .ref 0), (1, .int v1), (2, .int v2)] [] s := by
  intro v1 v2 s hf
  refine zB zlokM 8 (pc' := 117) (ls' := [(0, .ref 0), (1, .int v1), (2, .int v2)]) (st' := [.int 40, .int v1]) (s' := (zw s 0 18 ((s.1 0 18) - 1))) rfl ?_
  refine zCne hf (tgt := 124) rfl (by decide) (fun hc hf => ?_) (fun hc hf => ?_)
  · refine zB zlokM 1 (pc' := 121) (ls' := [(0, .ref 0), (1, .int v1), (2, .int v2)]) (st' := [.int v2]) (s' := (zw s 0 18 ((s.1 0 18) - 1))) rfl ?_
    refine zGoto (tgt := 144) rfl (by decide) ?_
    exact zRetI hf rfl rfl
  · refine zB zlokM 2 (pc' := 127) (ls' := [(0, .ref 0), (1, .int v1), (2, .int v2)]) (st' := [.int 45, .int v1]) (s' := (zw s 0 18 ((s.1 0 18) - 1))) rfl ?_
    refine zCne hf (tgt := 135) rfl (by decide) (fun hc hf => ?_) (fun hc hf => ?_)
    · refine zB zlokM 2 (pc' := 132) (ls' := [(0, .ref 0), (1, .int v1), (2, .int v2)]) (st' := [.int (-v2)]) (s' := (zw s 0 18 ((s.1 0 18) - 1))) rfl ?_
      refine zGoto (tgt := 144) rfl (by decide) ?_
      exact zRetI hf rfl rfl
    · refine zB zlokM 1 (pc' := 136) (ls' := [(0, .ref 0), (1, .int v1), (2, .int v2)]) (st' := [.int v2]) (s' := (zw s 0 18 ((s.1 0 18) - 1))) rfl ?_
      refine zIne hf (tgt := 143) rfl (by decide) (fun hc hf => ?_) (fun hc hf => ?_)
      · refine zB zlokM 1 (pc' := 140) (ls' := [(0, .ref 0), (1, .int v1), (2, .int v2)]) (st' := [.int 1]) (s' := (zw s 0 18 ((s.1 0 18) - 1))) rfl ?_
        refine zGoto (tgt := 144) rfl (by decide) ?_
        exact zRetI hf rfl rfl
      · refine zB zlokM 1 (pc' := 144) (ls' := [(0, .ref 0), (1, .int v1), (2, .int v2)]) (st' := [.int 0]) (s' := (zw s 0 18 ((s.1 0 18) - 1))) rfl ?_
        exact zRetI hf rfl rfl
set_option maxRecDepth 20000 in
theorem c_f_m_one_83 (c_m_either : zSt → Option (Int32 × zSt)) (c_m_one : zSt → Option (Int32 × zSt)) {dd : Nat} (hdd : 9 ≤ dd) (hk_m_either : ∀ (s : zSt) (r : Int32 × zSt), c_m_either s = some r → zKp zm_m_either ΛM dd [.ref 0] s (some (.int r.1), r.2)) (hk_m_one : ∀ (s : zSt) (r : Int32 × zSt), c_m_one s = some r → zKp zm_m_one ΛM dd [.ref 0] s (some (.int r.1), r.2)) {r : Int32 × zSt} : ∀ (v1 : Int32) (w0 : Int32) (s : zSt), f_m_one_83 c_m_either c_m_one v1 w0 s = some r → zWA zm_m_one ΛM (dd + 1) (some (.int r.1), r.2) 83 [(0, .ref 0), (1, .int v1)] [.int w0] s := by
  intro v1 w0 s hf
  refine zB zlokM 3 (pc' := 87) (ls' := [(2, .int w0), (0, .ref 0), (1, .int v1)]) (st' := [.int 40, .int v1]) (s' := s) rfl ?_
  refine zCne hf (tgt := 104) rfl (by decide) (fun hc hf => ?_) (fun hc hf => ?_)
  · refine zB zlokM 2 (pc' := 93) (ls' := [(2, .int w0), (0, .ref 0), (1, .int v1)]) (st' := [.int 41, .ref 0]) (s' := s) rfl ?_
    refine zXI hf (As := [.int 41]) (rest := []) 1 zmk_m_takes zok_m_takes zl_1177 rfl rfl rfl rfl (zdr (by omega) rfl) rfl rfl rfl (fun _ e => k_m_takes _ _ _ e) (fun x13 hf => ?_)
    refine zIne hf (tgt := 104) rfl (by decide) (fun hc hf => ?_) (fun hc hf => ?_)
    · refine zB zlokM 1 (pc' := 100) (ls' := [(2, .int w0), (0, .ref 0), (1, .int v1)]) (st' := [.ref 0]) (s' := x13.2) rfl ?_
      refine zXI hf (As := []) (rest := []) 0 zmk_m_wrong zok_m_wrong zl_1173 rfl rfl rfl rfl (zdr (by omega) rfl) rfl rfl rfl (fun _ e => k_m_wrong _ _ e) (fun x14 hf => ?_)
      exact zRetI hf rfl rfl
    · refine zLoc [1, 2, 0] rfl ?_
      exact c_f_m_one_104 _ _ hdd hk_m_either hk_m_one _ _ _ hf
  · refine zLoc [1, 2, 0] rfl ?_
    exact c_f_m_one_104 _ _ hdd hk_m_either hk_m_one _ _ _ hf
set_option maxRecDepth 20000 in
theorem c_f_m_one_32 (c_m_either : zSt → Option (Int32 × zSt)) (c_m_one : zSt → Option (Int32 × zSt)) {dd : Nat} (hdd : 9 ≤ dd) (hk_m_either : ∀ (s : zSt) (r : Int32 × zSt), c_m_either s = some r → zKp zm_m_either ΛM dd [.ref 0] s (some (.int r.1), r.2)) (hk_m_one : ∀ (s : zSt) (r : Int32 × zSt), c_m_one s = some r → zKp zm_m_one ΛM dd [.ref 0] s (some (.int r.1), r.2)) {r : Int32 × zSt} : ∀ (v1 : Int32) (s : zSt), f_m_one_32 c_m_either c_m_one v1 s = some r → zWA zm_m_one ΛM (dd + 1) (some (.int r.1), r.2) 32 [(0, .ref 0), (1, .int v1)] [] s := by
  intro v1 s hf
  refine zB zlokM 3 (pc' := 38) (ls' := [(0, .ref 0), (1, .int v1)]) (st' := [.int 6, .int (s.1 0 18)]) (s' := s) rfl ?_
  refine zCne hf (tgt := 46) rfl (by decide) (fun hc hf => ?_) (fun hc hf => ?_)
  · refine zB zlokM 1 (pc' := 42) (ls' := [(0, .ref 0), (1, .int v1)]) (st' := [.ref 0]) (s' := s) rfl ?_
    refine zXI hf (As := []) (rest := []) 0 zmk_m_wrong zok_m_wrong zl_1173 rfl rfl rfl rfl (zdr (by omega) rfl) rfl rfl rfl (fun _ e => k_m_wrong _ _ e) (fun x4 hf => ?_)
    exact zRetI hf rfl rfl
  · refine zB zlokM 14 (pc' := 69) (ls' := [(0, .ref 0), (1, .int v1)]) (st' := [.int 40, .int v1]) (s' := (zw (zw s 0 18 ((s.1 0 18) + 1)) 0 15 (((zw s 0 18 ((s.1 0 18) + 1)).1 0 15) + 1))) rfl ?_
    refine zCne hf (tgt := 79) rfl (by decide) (fun hc hf => ?_) (fun hc hf => ?_)
    · refine zB zlokM 1 (pc' := 73) (ls' := [(0, .ref 0), (1, .int v1)]) (st' := [.ref 0]) (s' := (zw (zw s 0 18 ((s.1 0 18) + 1)) 0 15 (((zw s 0 18 ((s.1 0 18) + 1)).1 0 15) + 1))) rfl ?_
      refine zXI hf (As := []) (rest := []) 0 zmk_m_either zok_m_either zl_1145 rfl rfl rfl rfl (zdr (by omega) rfl) rfl rfl rfl (fun _ e => hk_m_either _ _ e) (fun x5 hf => ?_)
      refine zGoto (tgt := 83) rfl (by decide) ?_
      refine zLoc [0, 1] rfl ?_
      exact c_f_m_one_83 _ _ hdd hk_m_either hk_m_one _ _ _ hf
    · refine zB zlokM 1 (pc' := 80) (ls' := [(0, .ref 0), (1, .int v1)]) (st' := [.ref 0]) (s' := (zw (zw s 0 18 ((s.1 0 18) + 1)) 0 15 (((zw s 0 18 ((s.1 0 18) + 1)).1 0 15) + 1))) rfl ?_
      refine zXI hf (As := []) (rest := []) 0 zmk_m_one zok_m_one zl_1165 rfl rfl rfl rfl (zdr (by omega) rfl) rfl rfl rfl (fun _ e => hk_m_one _ _ e) (fun x6 hf => ?_)
      refine zLoc [0, 1] rfl ?_
      exact c_f_m_one_83 _ _ hdd hk_m_either hk_m_one _ _ _ hf
set_option maxRecDepth 20000 in
theorem c_f_m_one_176 (c_m_either : zSt → Option (Int32 × zSt)) (c_m_one : zSt → Option (Int32 × zSt)) {dd : Nat} (hdd : 9 ≤ dd) (hk_m_either : ∀ (s : zSt) (r : Int32 × zSt), c_m_either s = some r → zKp zm_m_either ΛM dd [.ref 0] s (some (.int r.1), r.2)) (hk_m_one : ∀ (s : zSt) (r : Int32 × zSt), c_m_one s = some r → zKp zm_m_one ΛM dd [.ref 0] s (some (.int r.1), r.2)) {r : Int32 × zSt} : ∀ (n : Nat) (v3 : Int32) (v4 : Int32) (s : zSt), f_m_one_176 c_m_either c_m_one n v3 v4 s = some r → zWA zm_m_one ΛM (dd + 1) (some (.int r.1), r.2) 176 [(0, .ref 0), (3, .int v3), (4, .int v4)] [] s := by
  intro n
  induction n with
  | zero => intro v3 v4 s hf; cases hf
  | succ n ih =>
    intro v3 v4 s hf
    refine zB zlokM 2 (pc' := 179) (ls' := [(0, .ref 0), (3, .int v3), (4, .int v4)]) (st' := [.int 4, .int v4]) (s' := s) rfl ?_
    refine zCge hf (tgt := 229) rfl (by decide) (fun hc hf => ?_) (fun hc hf => ?_)
    · refine zB zlokM 1 (pc' := 231) (ls' := [(0, .ref 0), (3, .int v3), (4, .int v4)]) (st' := [.int v4]) (s' := s) rfl ?_
      refine zIne hf (tgt := 241) rfl (by decide) (fun hc hf => ?_) (fun hc hf => ?_)
      · refine zB zlokM 1 (pc' := 235) (ls' := [(0, .ref 0), (3, .int v3), (4, .int v4)]) (st' := [.ref 0]) (s' := s) rfl ?_
        refine zXI hf (As := []) (rest := []) 0 zmk_m_wrong zok_m_wrong zl_1173 rfl rfl rfl rfl (zdr (by omega) rfl) rfl rfl rfl (fun _ e => k_m_wrong _ _ e) (fun x7 hf => ?_)
        refine zGoto (tgt := 242) rfl (by decide) ?_
        exact zRetI hf rfl rfl
      · refine zB zlokM 1 (pc' := 242) (ls' := [(0, .ref 0), (3, .int v3), (4, .int v4)]) (st' := [.int v3]) (s' := s) rfl ?_
        exact zRetI hf rfl rfl
    · refine zB zlokM 1 (pc' := 183) (ls' := [(0, .ref 0), (3, .int v3), (4, .int v4)]) (st' := [.ref 0]) (s' := s) rfl ?_
      refine zXI hf (As := []) (rest := []) 0 zmk_m_byteAt zok_m_byteAt zl_1169 rfl rfl rfl rfl (zdr (by omega) rfl) rfl rfl rfl (fun _ e => k_m_byteAt _ _ e) (fun x8 hf => ?_)
      refine zB zlokM 1 (pc' := 188) (ls' := [(0, .ref 0), (3, .int v3), (4, .int v4)]) (st' := [.int 48, .int x8.1]) (s' := x8.2) rfl ?_
      refine zClt hf (tgt := 229) rfl (by decide) (fun hc hf => ?_) (fun hc hf => ?_)
      · refine zB zlokM 1 (pc' := 231) (ls' := [(0, .ref 0), (3, .int v3), (4, .int v4)]) (st' := [.int v4]) (s' := x8.2) rfl ?_
        refine zIne hf (tgt := 241) rfl (by decide) (fun hc hf => ?_) (fun hc hf => ?_)
        · refine zB zlokM 1 (pc' := 235) (ls' := [(0, .ref 0), (3, .int v3), (4, .int v4)]) (st' := [.ref 0]) (s' := x8.2) rfl ?_
          refine zXI hf (As := []) (rest := []) 0 zmk_m_wrong zok_m_wrong zl_1173 rfl rfl rfl rfl (zdr (by omega) rfl) rfl rfl rfl (fun _ e => k_m_wrong _ _ e) (fun x9 hf => ?_)
          refine zGoto (tgt := 242) rfl (by decide) ?_
          exact zRetI hf rfl rfl
        · refine zB zlokM 1 (pc' := 242) (ls' := [(0, .ref 0), (3, .int v3), (4, .int v4)]) (st' := [.int v3]) (s' := x8.2) rfl ?_
          exact zRetI hf rfl rfl
      · refine zB zlokM 1 (pc' := 192) (ls' := [(0, .ref 0), (3, .int v3), (4, .int v4)]) (st' := [.ref 0]) (s' := x8.2) rfl ?_
        refine zXI hf (As := []) (rest := []) 0 zmk_m_byteAt zok_m_byteAt zl_1169 rfl rfl rfl rfl (zdr (by omega) rfl) rfl rfl rfl (fun _ e => k_m_byteAt _ _ e) (fun x10 hf => ?_)
        refine zB zlokM 1 (pc' := 197) (ls' := [(0, .ref 0), (3, .int v3), (4, .int v4)]) (st' := [.int 57, .int x10.1]) (s' := x10.2) rfl ?_
        refine zCgt hf (tgt := 229) rfl (by decide) (fun hc hf => ?_) (fun hc hf => ?_)
        · refine zB zlokM 1 (pc' := 231) (ls' := [(0, .ref 0), (3, .int v3), (4, .int v4)]) (st' := [.int v4]) (s' := x10.2) rfl ?_
          refine zIne hf (tgt := 241) rfl (by decide) (fun hc hf => ?_) (fun hc hf => ?_)
          · refine zB zlokM 1 (pc' := 235) (ls' := [(0, .ref 0), (3, .int v3), (4, .int v4)]) (st' := [.ref 0]) (s' := x10.2) rfl ?_
            refine zXI hf (As := []) (rest := []) 0 zmk_m_wrong zok_m_wrong zl_1173 rfl rfl rfl rfl (zdr (by omega) rfl) rfl rfl rfl (fun _ e => k_m_wrong _ _ e) (fun x11 hf => ?_)
            refine zGoto (tgt := 242) rfl (by decide) ?_
            exact zRetI hf rfl rfl
          · refine zB zlokM 1 (pc' := 242) (ls' := [(0, .ref 0), (3, .int v3), (4, .int v4)]) (st' := [.int v3]) (s' := x10.2) rfl ?_
            exact zRetI hf rfl rfl
        · refine zB zlokM 4 (pc' := 205) (ls' := [(0, .ref 0), (3, .int v3), (4, .int v4)]) (st' := [.ref 0, .int (10 * v3)]) (s' := x10.2) rfl ?_
          refine zXI hf (As := []) (rest := [.int (10 * v3)]) 0 zmk_m_byteAt zok_m_byteAt zl_1169 rfl rfl rfl rfl (zdr (by omega) rfl) rfl rfl rfl (fun _ e => k_m_byteAt _ _ e) (fun x12 hf => ?_)
          refine zB zlokM 11 (pc' := 226) (ls' := [(4, .int (v4 + 1)), (3, .int (((10 * v3) + x12.1) - 48)), (0, .ref 0)]) (st' := []) (s' := (zw x12.2 0 15 ((x12.2.1 0 15) + 1))) rfl ?_
          refine zGoto (tgt := 176) rfl (by decide) ?_
          refine zLoc [2, 1, 0] rfl ?_
          exact ih _ _ _ hf
set_option maxRecDepth 20000 in
theorem kb_m_one (c_m_either : zSt → Option (Int32 × zSt)) (c_m_one : zSt → Option (Int32 × zSt)) {dd : Nat} (hdd : 9 ≤ dd) (hk_m_either : ∀ (s : zSt) (r : Int32 × zSt), c_m_either s = some r → zKp zm_m_either ΛM dd [.ref 0] s (some (.int r.1), r.2)) (hk_m_one : ∀ (s : zSt) (r : Int32 × zSt), c_m_one s = some r → zKp zm_m_one ΛM dd [.ref 0] s (some (.int r.1), r.2)) (s : zSt) (r : Int32 × zSt) (hf : b_m_one c_m_either c_m_one s = some r) : zKp zm_m_one ΛM (dd + 1) [.ref 0] s (some (.int r.1), r.2) := by
  refine zKp_of zmk_m_one rfl ?_
  show zWA _ _ _ _ _ [(0, .ref 0)] _ _
  refine zB zlokM 2 (pc' := 4) (ls' := [(0, .ref 0)]) (st' := [.int (s.1 0 17)]) (s' := s) rfl ?_
  refine zIlt hf (tgt := 9) rfl (by decide) (fun hc hf => ?_) (fun hc hf => ?_)
  · refine zB zlokM 1 (pc' := 10) (ls' := [(0, .ref 0)]) (st' := [.ref 0]) (s' := s) rfl ?_
    refine zXI hf (As := []) (rest := []) 0 zmk_m_byteAt zok_m_byteAt zl_1169 rfl rfl rfl rfl (zdr (by omega) rfl) rfl rfl rfl (fun _ e => k_m_byteAt _ _ e) (fun x1 hf => ?_)
    refine zB zlokM 3 (pc' := 17) (ls' := [(1, .int x1.1), (0, .ref 0)]) (st' := [.int 33, .int x1.1]) (s' := x1.2) rfl ?_
    refine zCeq hf (tgt := 32) rfl (by decide) (fun hc hf => ?_) (fun hc hf => ?_)
    · refine zLoc [1, 0] rfl ?_
      exact c_f_m_one_32 _ _ hdd hk_m_either hk_m_one _ _ hf
    · refine zB zlokM 2 (pc' := 23) (ls' := [(1, .int x1.1), (0, .ref 0)]) (st' := [.int 45, .int x1.1]) (s' := x1.2) rfl ?_
      refine zCeq hf (tgt := 32) rfl (by decide) (fun hc hf => ?_) (fun hc hf => ?_)
      · refine zLoc [1, 0] rfl ?_
        exact c_f_m_one_32 _ _ hdd hk_m_either hk_m_one _ _ hf
      · refine zB zlokM 2 (pc' := 29) (ls' := [(1, .int x1.1), (0, .ref 0)]) (st' := [.int 40, .int x1.1]) (s' := x1.2) rfl ?_
        refine zCne hf (tgt := 145) rfl (by decide) (fun hc hf => ?_) (fun hc hf => ?_)
        · refine zLoc [1, 0] rfl ?_
          exact c_f_m_one_32 _ _ hdd hk_m_either hk_m_one _ _ hf
        · refine zB zlokM 1 (pc' := 146) (ls' := [(1, .int x1.1), (0, .ref 0)]) (st' := [.int x1.1]) (s' := x1.2) rfl ?_
          refine zSI hf (As := [.int x1.1]) (rest := []) 1 zmk_m_nameOf zok_m_nameOf zl_1181 rfl (zdr (by omega) rfl) rfl rfl rfl (fun _ e => k_m_nameOf _ _ _ e) (fun x2 hf => ?_)
          refine zB zlokM 2 (pc' := 151) (ls' := [(2, .int x2.1), (1, .int x1.1), (0, .ref 0)]) (st' := [.int x2.1]) (s' := x2.2) rfl ?_
          refine zIlt hf (tgt := 171) rfl (by decide) (fun hc hf => ?_) (fun hc hf => ?_)
          · refine zB zlokM 4 (pc' := 176) (ls' := [(4, .int 0), (3, .int 0), (2, .int x2.1), (1, .int x1.1), (0, .ref 0)]) (st' := []) (s' := x2.2) rfl ?_
            refine zLoc [4, 1, 0] rfl ?_
            exact c_f_m_one_176 _ _ hdd hk_m_either hk_m_one zFu _ _ _ hf
          · refine zB zlokM 9 (pc' := 169) (ls' := [(2, .int x2.1), (1, .int x1.1), (0, .ref 0)]) (st' := [.int x2.1, .ref 11]) (s' := (zw x2.2 0 15 ((x2.2.1 0 15) + 1))) rfl ?_
            refine zIald hf rfl (by rfl) (fun x3 hf => ?_)
            exact zRetI hf rfl rfl
  · refine zB zlokM 1 (pc' := 8) (ls' := [(0, .ref 0)]) (st' := [.int 0]) (s' := s) rfl ?_
    exact zRetI hf rfl rfl
theorem K_m : ∀ n : Nat, (∀ s r, F_m n 0 s = some r → zKp zm_m_either ΛM (n + 9) [.ref 0] s (some (.int r.1), r.2)) ∧ (∀ s r, F_m n 1 s = some r → zKp zm_m_both ΛM (n + 9) [.ref 0] s (some (.int r.1), r.2)) ∧ (∀ s r, F_m n 2 s = some r → zKp zm_m_compared ΛM (n + 9) [.ref 0] s (some (.int r.1), r.2)) ∧ (∀ s r, F_m n 3 s = some r → zKp zm_m_sums ΛM (n + 9) [.ref 0] s (some (.int r.1), r.2)) ∧ (∀ s r, F_m n 4 s = some r → zKp zm_m_product ΛM (n + 9) [.ref 0] s (some (.int r.1), r.2)) ∧ (∀ s r, F_m n 5 s = some r → zKp zm_m_one ΛM (n + 9) [.ref 0] s (some (.int r.1), r.2))
  | 0 => ⟨fun _ _ h => (by cases h), fun _ _ h => (by cases h), fun _ _ h => (by cases h), fun _ _ h => (by cases h), fun _ _ h => (by cases h), fun _ _ h => (by cases h)⟩
  | n + 1 => by
    obtain ⟨h0, h1, h2, h3, h4, h5⟩ := K_m n
    have e : n + 1 + 9 = n + 9 + 1 := by omega
    rw [e]
    exact ⟨fun s r h => kb_m_either _ (by omega) h1 s r h, fun s r h => kb_m_both _ (by omega) h2 s r h, fun s r h => kb_m_compared _ (by omega) h3 s r h, fun s r h => kb_m_sums _ (by omega) h4 s r h, fun s r h => kb_m_product _ (by omega) h5 s r h, fun s r h => kb_m_one _ _ (by omega) h0 h5 s r h⟩
theorem k_m_either (s : zSt) (r : Int32 × zSt) (hf : f_m_either s = some r) : zKp zm_m_either ΛM 79 [.ref 0] s (some (.int r.1), r.2) := (K_m 70).1 s r hf
set_option maxRecDepth 20000 in
theorem c_f_m_workOut_74 {r : Int32 × zSt} (k33 : Int32 → Int32 → Int32 → zSt → Option (Int32 × zSt)) (hk33 : ∀ (v3 : Int32) (v4 : Int32) (v5 : Int32) (s : zSt), k33 v3 v4 v5 s = some r → zWA zm_m_workOut ΛM 80 (some (.int r.1), r.2) 33 [(0, .ref 0), (3, .int v3), (4, .int v4), (5, .int v5)] [] s) : ∀ (v3 : Int32) (v4 : Int32) (v6 : Int32) (v7 : Int32) (s : zSt), f_m_workOut_74 k33 v3 v4 v6 v7 s = some r → zWA zm_m_workOut ΛM 80 (some (.int r.1), r.2) 74 [(0, .ref 0), (3, .int v3), (4, .int v4), (6, .int v6), (7, .int v7)] [] s := by
  intro v3 v4 v6 v7 s hf
  refine zB zlokM 2 (pc' := 78) (ls' := [(0, .ref 0), (3, .int v3), (4, .int v4), (6, .int v6), (7, .int v7)]) (st' := [.int (s.1 0 17)]) (s' := s) rfl ?_
  refine zIge hf (tgt := 96) rfl (by decide) (fun hc hf => ?_) (fun hc hf => ?_)
  · refine zB zlokM 2 (pc' := 99) (ls' := [(0, .ref 0), (3, .int v3), (4, .int v4), (6, .int v6), (7, .int v7)]) (st' := [.int 59, .ref 0]) (s' := s) rfl ?_
    refine zXI hf (As := [.int 59]) (rest := []) 1 zmk_m_takes zok_m_takes zl_1177 rfl rfl rfl rfl rfl rfl rfl rfl (fun _ e => k_m_takes _ _ _ e) (fun x4 hf => ?_)
    refine zB zlokM 1 (pc' := 104) (ls' := [(5, .int x4.1), (0, .ref 0), (3, .int v3), (4, .int v4), (6, .int v6), (7, .int v7)]) (st' := []) (s' := x4.2) rfl ?_
    refine zGoto (tgt := 33) rfl (by decide) ?_
    refine zLoc [1, 2, 3, 0] rfl ?_
    exact hk33 _ _ _ _ hf
  · refine zB zlokM 1 (pc' := 83) (ls' := [(0, .ref 0), (3, .int v3), (4, .int v4), (6, .int v6), (7, .int v7)]) (st' := [.int v7]) (s' := s) rfl ?_
    refine zIeq hf (tgt := 96) rfl (by decide) (fun hc hf => ?_) (fun hc hf => ?_)
    · refine zB zlokM 2 (pc' := 99) (ls' := [(0, .ref 0), (3, .int v3), (4, .int v4), (6, .int v6), (7, .int v7)]) (st' := [.int 59, .ref 0]) (s' := s) rfl ?_
      refine zXI hf (As := [.int 59]) (rest := []) 1 zmk_m_takes zok_m_takes zl_1177 rfl rfl rfl rfl rfl rfl rfl rfl (fun _ e => k_m_takes _ _ _ e) (fun x5 hf => ?_)
      refine zB zlokM 1 (pc' := 104) (ls' := [(5, .int x5.1), (0, .ref 0), (3, .int v3), (4, .int v4), (6, .int v6), (7, .int v7)]) (st' := []) (s' := x5.2) rfl ?_
      refine zGoto (tgt := 33) rfl (by decide) ?_
      refine zLoc [1, 2, 3, 0] rfl ?_
      exact hk33 _ _ _ _ hf
    · refine zB zlokM 1 (pc' := 87) (ls' := [(0, .ref 0), (3, .int v3), (4, .int v4), (6, .int v6), (7, .int v7)]) (st' := [.int v3]) (s' := s) rfl ?_
      refine zIne hf (tgt := 96) rfl (by decide) (fun hc hf => ?_) (fun hc hf => ?_)
      · refine zB zlokM 6 (pc' := 99) (ls' := [(4, .int v6), (3, .int 1), (0, .ref 0), (6, .int v6), (7, .int v7)]) (st' := [.int 59, .ref 0]) (s' := s) rfl ?_
        refine zXI hf (As := [.int 59]) (rest := []) 1 zmk_m_takes zok_m_takes zl_1177 rfl rfl rfl rfl rfl rfl rfl rfl (fun _ e => k_m_takes _ _ _ e) (fun x6 hf => ?_)
        refine zB zlokM 1 (pc' := 104) (ls' := [(5, .int x6.1), (4, .int v6), (3, .int 1), (0, .ref 0), (6, .int v6), (7, .int v7)]) (st' := []) (s' := x6.2) rfl ?_
        refine zGoto (tgt := 33) rfl (by decide) ?_
        refine zLoc [3, 2, 1, 0] rfl ?_
        exact hk33 _ _ _ _ hf
      · refine zB zlokM 2 (pc' := 99) (ls' := [(0, .ref 0), (3, .int v3), (4, .int v4), (6, .int v6), (7, .int v7)]) (st' := [.int 59, .ref 0]) (s' := s) rfl ?_
        refine zXI hf (As := [.int 59]) (rest := []) 1 zmk_m_takes zok_m_takes zl_1177 rfl rfl rfl rfl rfl rfl rfl rfl (fun _ e => k_m_takes _ _ _ e) (fun x7 hf => ?_)
        refine zB zlokM 1 (pc' := 104) (ls' := [(5, .int x7.1), (0, .ref 0), (3, .int v3), (4, .int v4), (6, .int v6), (7, .int v7)]) (st' := []) (s' := x7.2) rfl ?_
        refine zGoto (tgt := 33) rfl (by decide) ?_
        refine zLoc [1, 2, 3, 0] rfl ?_
        exact hk33 _ _ _ _ hf
set_option maxRecDepth 20000 in
theorem c_f_m_workOut_66 {r : Int32 × zSt} (k33 : Int32 → Int32 → Int32 → zSt → Option (Int32 × zSt)) (hk33 : ∀ (v3 : Int32) (v4 : Int32) (v5 : Int32) (s : zSt), k33 v3 v4 v5 s = some r → zWA zm_m_workOut ΛM 80 (some (.int r.1), r.2) 33 [(0, .ref 0), (3, .int v3), (4, .int v4), (5, .int v5)] [] s) : ∀ (v3 : Int32) (v4 : Int32) (w0 : Int32) (s : zSt), f_m_workOut_66 k33 v3 v4 w0 s = some r → zWA zm_m_workOut ΛM 80 (some (.int r.1), r.2) 66 [(0, .ref 0), (3, .int v3), (4, .int v4)] [.int w0] s := by
  intro v3 v4 w0 s hf
  refine zB zlokM 2 (pc' := 69) (ls' := [(7, .int w0), (0, .ref 0), (3, .int v3), (4, .int v4)]) (st' := [.ref 0]) (s' := s) rfl ?_
  refine zXI hf (As := []) (rest := []) 0 zmk_m_either zok_m_either zl_1145 rfl rfl rfl rfl rfl rfl rfl rfl (fun _ e => k_m_either _ _ e) (fun x8 hf => ?_)
  refine zB zlokM 1 (pc' := 74) (ls' := [(6, .int x8.1), (7, .int w0), (0, .ref 0), (3, .int v3), (4, .int v4)]) (st' := []) (s' := x8.2) rfl ?_
  refine zLoc [2, 3, 4, 0, 1] rfl ?_
  exact c_f_m_workOut_74 _ hk33 _ _ _ _ _ hf
set_option maxRecDepth 20000 in
theorem c_f_m_workOut_33 {r : Int32 × zSt} : ∀ (n : Nat) (v3 : Int32) (v4 : Int32) (v5 : Int32) (s : zSt), f_m_workOut_33 n v3 v4 v5 s = some r → zWA zm_m_workOut ΛM 80 (some (.int r.1), r.2) 33 [(0, .ref 0), (3, .int v3), (4, .int v4), (5, .int v5)] [] s := by
  intro n
  induction n with
  | zero => intro v3 v4 v5 s hf; cases hf
  | succ n ih =>
    intro v3 v4 v5 s hf
    refine zB zlokM 1 (pc' := 35) (ls' := [(0, .ref 0), (3, .int v3), (4, .int v4), (5, .int v5)]) (st' := [.int v5]) (s' := s) rfl ?_
    refine zIeq hf (tgt := 107) rfl (by decide) (fun hc hf => ?_) (fun hc hf => ?_)
    · refine zB zlokM 2 (pc' := 111) (ls' := [(0, .ref 0), (3, .int v3), (4, .int v4), (5, .int v5)]) (st' := [.int (s.1 0 17)]) (s' := s) rfl ?_
      refine zIge hf (tgt := 130) rfl (by decide) (fun hc hf => ?_) (fun hc hf => ?_)
      · refine zB zlokM 1 (pc' := 132) (ls' := [(0, .ref 0), (3, .int v3), (4, .int v4), (5, .int v5)]) (st' := [.int v4]) (s' := s) rfl ?_
        exact zRetI hf rfl rfl
      · refine zB zlokM 4 (pc' := 122) (ls' := [(0, .ref 0), (3, .int v3), (4, .int v4), (5, .int v5)]) (st' := [.int (s.1 0 16), .int (s.1 0 15)]) (s' := s) rfl ?_
        refine zCge hf (tgt := 130) rfl (by decide) (fun hc hf => ?_) (fun hc hf => ?_)
        · refine zB zlokM 1 (pc' := 132) (ls' := [(0, .ref 0), (3, .int v3), (4, .int v4), (5, .int v5)]) (st' := [.int v4]) (s' := s) rfl ?_
          exact zRetI hf rfl rfl
        · refine zB zlokM 1 (pc' := 126) (ls' := [(0, .ref 0), (3, .int v3), (4, .int v4), (5, .int v5)]) (st' := [.ref 0]) (s' := s) rfl ?_
          refine zXI hf (As := []) (rest := []) 0 zmk_m_wrong zok_m_wrong zl_1173 rfl rfl rfl rfl rfl rfl rfl rfl (fun _ e => k_m_wrong _ _ e) (fun x1 hf => ?_)
          exact zRetI hf rfl rfl
    · refine zB zlokM 1 (pc' := 39) (ls' := [(0, .ref 0), (3, .int v3), (4, .int v4), (5, .int v5)]) (st' := [.ref 0]) (s' := s) rfl ?_
      refine zXI hf (As := []) (rest := []) 0 zmk_m_either zok_m_either zl_1145 rfl rfl rfl rfl rfl rfl rfl rfl (fun _ e => k_m_either _ _ e) (fun x2 hf => ?_)
      refine zB zlokM 5 (pc' := 50) (ls' := [(7, .int 1), (6, .int x2.1), (0, .ref 0), (3, .int v3), (4, .int v4), (5, .int v5)]) (st' := [.int 63, .ref 0]) (s' := x2.2) rfl ?_
      refine zXI hf (As := [.int 63]) (rest := []) 1 zmk_m_takes zok_m_takes zl_1177 rfl rfl rfl rfl rfl rfl rfl rfl (fun _ e => k_m_takes _ _ _ e) (fun x3 hf => ?_)
      refine zIeq hf (tgt := 74) rfl (by decide) (fun hc hf => ?_) (fun hc hf => ?_)
      · refine zLoc [2, 3, 4, 1, 0] rfl ?_
        exact c_f_m_workOut_74 _ ih _ _ _ _ _ hf
      · refine zB zlokM 1 (pc' := 58) (ls' := [(7, .int 1), (6, .int x2.1), (0, .ref 0), (3, .int v3), (4, .int v4), (5, .int v5)]) (st' := [.int x2.1]) (s' := x3.2) rfl ?_
        refine zIeq hf (tgt := 65) rfl (by decide) (fun hc hf => ?_) (fun hc hf => ?_)
        · refine zB zlokM 1 (pc' := 66) (ls' := [(7, .int 1), (6, .int x2.1), (0, .ref 0), (3, .int v3), (4, .int v4), (5, .int v5)]) (st' := [.int 0]) (s' := x3.2) rfl ?_
          refine zLoc [2, 3, 4] rfl ?_
          exact c_f_m_workOut_66 _ ih _ _ _ _ hf
        · refine zB zlokM 1 (pc' := 62) (ls' := [(7, .int 1), (6, .int x2.1), (0, .ref 0), (3, .int v3), (4, .int v4), (5, .int v5)]) (st' := [.int 1]) (s' := x3.2) rfl ?_
          refine zGoto (tgt := 66) rfl (by decide) ?_
          refine zLoc [2, 3, 4] rfl ?_
          exact c_f_m_workOut_66 _ ih _ _ _ _ hf
set_option maxRecDepth 20000 in
theorem k_m_workOut (a0 : Int32) (a1 : Int32) (s : zSt) (r : Int32 × zSt) (hf : f_m_workOut a0 a1 s = some r) : zKp zm_m_workOut ΛM 80 [.ref 0, .int a0, .int a1] s (some (.int r.1), r.2) := by
  refine zKp_of zmk_m_workOut rfl ?_
  show zWA _ _ _ _ _ [(0, .ref 0), (1, .int a0), (2, .int a1)] _ _
  refine zB zlokM 21 (pc' := 33) (ls' := [(5, .int 1), (4, .int 0), (3, .int 0), (0, .ref 0), (1, .int a0), (2, .int a1)]) (st' := []) (s' := (zw (zw (zw (zw (zw s 0 14 a0) 0 15 0) 0 16 a1) 0 17 (-1)) 0 18 0)) rfl ?_
  refine zLoc [3, 2, 1, 0] rfl ?_
  exact c_f_m_workOut_33 zFu _ _ _ _ hf
set_option maxRecDepth 20000 in
theorem c_f_m_law_50 {r : Int32 × zSt} : ∀ (n : Nat) (v1 : Int32) (v3 : Int32) (v4 : Int32) (s : zSt), f_m_law_50 n v1 v3 v4 s = some r → zWA zm_m_law ΛM 81 (some (.int r.1), r.2) 50 [(0, .ref 0), (1, .int v1), (3, .int v3), (4, .int v4)] [] s := by
  intro n
  induction n with
  | zero => intro v1 v3 v4 s hf; cases hf
  | succ n ih =>
    intro v1 v3 v4 s hf
    refine zB zlokM 2 (pc' := 53) (ls' := [(0, .ref 0), (1, .int v1), (3, .int v3), (4, .int v4)]) (st' := [.int v3, .int v4]) (s' := s) rfl ?_
    refine zCge hf (tgt := 81) rfl (by decide) (fun hc hf => ?_) (fun hc hf => ?_)
    · refine zB zlokM 4 (pc' := 87) (ls' := [(0, .ref 0), (1, .int v1), (3, .int v3), (4, .int v4)]) (st' := [.int v3, .int v1, .ref 10]) (s' := s) rfl ?_
      refine zIast hf rfl (by rfl) (fun s3 hf => ?_)
      refine zB zlokM 1 (pc' := 89) (ls' := [(0, .ref 0), (1, .int v1), (3, .int v3), (4, .int v4)]) (st' := [.int 1]) (s' := s3) rfl ?_
      exact zRetI hf rfl rfl
    · refine zB zlokM 10 (pc' := 73) (ls' := [(0, .ref 0), (1, .int v1), (3, .int v3), (4, .int v4)]) (st' := [.int v4, .ref 8, .int ((120 * v1) + v4), .ref 9]) (s' := s) rfl ?_
      refine zIald hf rfl (by rfl) (fun x4 hf => ?_)
      refine zIast hf rfl (by rfl) (fun s5 hf => ?_)
      refine zB zlokM 1 (pc' := 78) (ls' := [(4, .int (v4 + 1)), (0, .ref 0), (1, .int v1), (3, .int v3)]) (st' := []) (s' := s5) rfl ?_
      refine zGoto (tgt := 50) rfl (by decide) ?_
      refine zLoc [1, 2, 3, 0] rfl ?_
      exact ih _ _ _ _ hf
set_option maxRecDepth 20000 in
theorem k_m_law (a0 : Int32) (s : zSt) (r : Int32 × zSt) (hf : f_m_law a0 s = some r) : zKp zm_m_law ΛM 81 [.ref 0, .int a0] s (some (.int r.1), r.2) := by
  refine zKp_of zmk_m_law rfl ?_
  show zWA _ _ _ _ _ [(0, .ref 0), (1, .int a0)] _ _
  refine zB zlokM 4 (pc' := 4) (ls' := [(0, .ref 0), (1, .int a0)]) (st' := [.long 1, .long 0, .long (a0 : Int32).toInt64]) (s' := s) rfl ?_
  refine zSI hf (As := [.long (a0 : Int32).toInt64, .long 0, .long 1]) (rest := []) 3 zmk_m_within zok_m_within zl_1072 rfl rfl rfl rfl rfl (fun _ e => k_m_within _ _ _ _ _ e) (fun x1 hf => ?_)
  refine zIne hf (tgt := 12) rfl (by decide) (fun hc hf => ?_) (fun hc hf => ?_)
  · refine zB zlokM 1 (pc' := 11) (ls' := [(0, .ref 0), (1, .int a0)]) (st' := [.int (-1)]) (s' := x1.2) rfl ?_
    exact zRetI hf rfl rfl
  · refine zB zlokM 4 (pc' := 18) (ls' := [(0, .ref 0), (1, .int a0)]) (st' := [.int (x1.2.1 0 11), .int (-1), .ref 0]) (s' := x1.2) rfl ?_
    refine zXI hf (As := [.int (-1), .int (x1.2.1 0 11)]) (rest := []) 2 zmk_m_workOut zok_m_workOut zl_1141 rfl rfl rfl rfl rfl rfl rfl rfl (fun _ e => k_m_workOut _ _ _ _ e) (fun x2 hf => ?_)
    refine zB zlokM 9 (pc' := 36) (ls' := [(3, .int (x2.2.1 0 11)), (2, .int x2.1), (0, .ref 0), (1, .int a0)]) (st' := [.int ((zw x2.2 0 11 0).1 0 17)]) (s' := (zw x2.2 0 11 0)) rfl ?_
    refine zIlt hf (tgt := 47) rfl (by decide) (fun hc hf => ?_) (fun hc hf => ?_)
    · refine zB zlokM 2 (pc' := 50) (ls' := [(4, .int 0), (3, .int (x2.2.1 0 11)), (2, .int x2.1), (0, .ref 0), (1, .int a0)]) (st' := []) (s' := (zw x2.2 0 11 0)) rfl ?_
      refine zLoc [3, 4, 1, 0] rfl ?_
      exact c_f_m_law_50 zFu _ _ _ _ hf
    · refine zB zlokM 4 (pc' := 46) (ls' := [(3, .int (x2.2.1 0 11)), (2, .int x2.1), (0, .ref 0), (1, .int a0)]) (st' := [.int ((-100) - ((zw x2.2 0 11 0).1 0 17))]) (s' := (zw x2.2 0 11 0)) rfl ?_
      exact zRetI hf rfl rfl
set_option maxRecDepth 20000 in
theorem k_m_namesAll (a0 : Int32) (a1 : Int32) (a2 : Int32) (s : zSt) (r : zSt) (hf : f_m_namesAll a0 a1 a2 s = some r) : zKp zm_m_namesAll ΛM 0 [.ref 0, .int a0, .int a1, .int a2] s (none, r) := by
  refine zKp_of zmk_m_namesAll rfl ?_
  show zWA _ _ _ _ _ [(0, .ref 0), (1, .int a0), (2, .int a1), (3, .int a2)] _ _
  refine zB zlokM 6 (pc' := 10) (ls' := [(0, .ref 0), (1, .int a0), (2, .int a1), (3, .int a2)]) (st' := [.int 0, .ref 1, .int 0, .ref 11]) (s' := s) rfl ?_
  refine zIald hf rfl (by rfl) (fun x1 hf => ?_)
  refine zIast hf rfl (by rfl) (fun s2 hf => ?_)
  refine zB zlokM 6 (pc' := 22) (ls' := [(0, .ref 0), (1, .int a0), (2, .int a1), (3, .int a2)]) (st' := [.int 1, .ref 1, .int 1, .ref 11]) (s' := s2) rfl ?_
  refine zIald hf rfl (by rfl) (fun x3 hf => ?_)
  refine zIast hf rfl (by rfl) (fun s4 hf => ?_)
  refine zB zlokM 6 (pc' := 34) (ls' := [(0, .ref 0), (1, .int a0), (2, .int a1), (3, .int a2)]) (st' := [.int 2, .ref 1, .int 2, .ref 11]) (s' := s4) rfl ?_
  refine zIald hf rfl (by rfl) (fun x5 hf => ?_)
  refine zIast hf rfl (by rfl) (fun s6 hf => ?_)
  refine zB zlokM 4 (pc' := 42) (ls' := [(0, .ref 0), (1, .int a0), (2, .int a1), (3, .int a2)]) (st' := [.int a1, .int 3, .ref 11]) (s' := s6) rfl ?_
  refine zIast hf rfl (by rfl) (fun s7 hf => ?_)
  refine zB zlokM 6 (pc' := 53) (ls' := [(0, .ref 0), (1, .int a0), (2, .int a1), (3, .int a2)]) (st' := [.int a0, .ref 5, .int 4, .ref 11]) (s' := s7) rfl ?_
  refine zIald hf rfl (by rfl) (fun x8 hf => ?_)
  refine zIast hf rfl (by rfl) (fun s9 hf => ?_)
  refine zB zlokM 4 (pc' := 61) (ls' := [(0, .ref 0), (1, .int a0), (2, .int a1), (3, .int a2)]) (st' := [.int a2, .int 5, .ref 11]) (s' := s9) rfl ?_
  refine zIast hf rfl (by rfl) (fun s10 hf => ?_)
  refine zB zlokM 6 (pc' := 73) (ls' := [(0, .ref 0), (1, .int a0), (2, .int a1), (3, .int a2)]) (st' := [.int 3, .ref 1, .int 6, .ref 11]) (s' := s10) rfl ?_
  refine zIald hf rfl (by rfl) (fun x11 hf => ?_)
  refine zIast hf rfl (by rfl) (fun s12 hf => ?_)
  refine zB zlokM 6 (pc' := 86) (ls' := [(0, .ref 0), (1, .int a0), (2, .int a1), (3, .int a2)]) (st' := [.int 4, .ref 1, .int 7, .ref 11]) (s' := s12) rfl ?_
  refine zIald hf rfl (by rfl) (fun x13 hf => ?_)
  refine zIast hf rfl (by rfl) (fun s14 hf => ?_)
  refine zB zlokM 4 (pc' := 95) (ls' := [(0, .ref 0), (1, .int a0), (2, .int a1), (3, .int a2)]) (st' := [.int a0, .int 8, .ref 11]) (s' := s14) rfl ?_
  refine zIast hf rfl (by rfl) (fun s15 hf => ?_)
  exact zRetV hf rfl rfl
set_option maxRecDepth 20000 in
theorem k_m_heldTo (a0 : Int32) (a1 : Int32) (s : zSt) (r : Int32 × zSt) (hf : f_m_heldTo a0 a1 s = some r) : zKp zm_m_heldTo ΛM 0 [.int a0, .int a1] s (some (.int r.1), r.2) := by
  refine zKp_of zmk_m_heldTo rfl ?_
  show zWA _ _ _ _ _ [(0, .int a0), (1, .int a1)] _ _
  refine zB zlokM 1 (pc' := 1) (ls' := [(0, .int a0), (1, .int a1)]) (st' := [.int a0]) (s' := s) rfl ?_
  refine zIge hf (tgt := 8) rfl (by decide) (fun hc hf => ?_) (fun hc hf => ?_)
  · refine zB zlokM 2 (pc' := 10) (ls' := [(0, .int a0), (1, .int a1)]) (st' := [.int a1, .int a0]) (s' := s) rfl ?_
    refine zCle hf (tgt := 17) rfl (by decide) (fun hc hf => ?_) (fun hc hf => ?_)
    · refine zB zlokM 1 (pc' := 18) (ls' := [(0, .int a0), (1, .int a1)]) (st' := [.int a0]) (s' := s) rfl ?_
      exact zRetI hf rfl rfl
    · refine zB zlokM 1 (pc' := 14) (ls' := [(0, .int a0), (1, .int a1)]) (st' := [.int a1]) (s' := s) rfl ?_
      refine zGoto (tgt := 18) rfl (by decide) ?_
      exact zRetI hf rfl rfl
  · refine zB zlokM 1 (pc' := 5) (ls' := [(0, .int a0), (1, .int a1)]) (st' := [.int 0]) (s' := s) rfl ?_
    refine zGoto (tgt := 18) rfl (by decide) ?_
    exact zRetI hf rfl rfl
set_option maxRecDepth 20000 in
theorem k_m_tasteOf (a0 : Int32) (a1 : Int32) (s : zSt) (r : Int32 × zSt) (hf : f_m_tasteOf a0 a1 s = some r) : zKp zm_m_tasteOf ΛM 81 [.ref 0, .int a0, .int a1] s (some (.int r.1), r.2) := by
  refine zKp_of zmk_m_tasteOf rfl ?_
  show zWA _ _ _ _ _ [(0, .ref 0), (1, .int a0), (2, .int a1)] _ _
  refine zB zlokM 4 (pc' := 6) (ls' := [(0, .ref 0), (1, .int a0), (2, .int a1)]) (st' := [.int 5, .ref 1, .int a1]) (s' := s) rfl ?_
  refine zIald hf rfl (by rfl) (fun x1 hf => ?_)
  refine zClt hf (tgt := 12) rfl (by decide) (fun hc hf => ?_) (fun hc hf => ?_)
  · refine zB zlokM 3 (pc' := 17) (ls' := [(0, .ref 0), (1, .int a0), (2, .int a1)]) (st' := [.int 0, .ref 1]) (s' := s) rfl ?_
    refine zIald hf rfl (by rfl) (fun x2 hf => ?_)
    refine zB zlokM 3 (pc' := 23) (ls' := [(0, .ref 0), (1, .int a0), (2, .int a1)]) (st' := [.int 1, .ref 1, .int x2]) (s' := s) rfl ?_
    refine zIald hf rfl (by rfl) (fun x3 hf => ?_)
    refine zB zlokM 4 (pc' := 30) (ls' := [(0, .ref 0), (1, .int a0), (2, .int a1)]) (st' := [.int 2, .ref 1, .int (x2 + x3)]) (s' := s) rfl ?_
    refine zIald hf rfl (by rfl) (fun x4 hf => ?_)
    refine zB zlokM 7 (pc' := 40) (ls' := [(3, .int ((x2 + x3) - (x4 / 3))), (0, .ref 0), (1, .int a0), (2, .int a1)]) (st' := [.int 0, .ref 10]) (s' := s) rfl ?_
    refine zIald hf rfl (by rfl) (fun x5 hf => ?_)
    refine zIlt hf (tgt := 63) rfl (by decide) (fun hc hf => ?_) (fun hc hf => ?_)
    · refine zB zlokM 2 (pc' := 66) (ls' := [(3, .int ((x2 + x3) - (x4 / 3))), (0, .ref 0), (1, .int a0), (2, .int a1)]) (st' := [.int 9, .int ((x2 + x3) - (x4 / 3))]) (s' := s) rfl ?_
      refine zSI hf (As := [.int ((x2 + x3) - (x4 / 3)), .int 9]) (rest := []) 2 zmk_m_heldTo zok_m_heldTo zl_1196 rfl rfl rfl rfl rfl (fun _ e => k_m_heldTo _ _ _ _ e) (fun x6 hf => ?_)
      exact zRetI hf rfl rfl
    · refine zB zlokM 4 (pc' := 48) (ls' := [(3, .int ((x2 + x3) - (x4 / 3))), (0, .ref 0), (1, .int a0), (2, .int a1)]) (st' := [.int 0, .int a1, .int a0, .ref 0]) (s' := s) rfl ?_
      refine zXV hf (As := [.int a0, .int a1, .int 0]) (rest := []) 3 zmk_m_namesAll zok_m_namesAll zl_1192 rfl rfl rfl rfl rfl rfl rfl rfl (fun _ e => k_m_namesAll _ _ _ _ _ e) (fun x7 hf => ?_)
      refine zB zlokM 5 (pc' := 58) (ls' := [(3, .int ((x2 + x3) - (x4 / 3))), (0, .ref 0), (1, .int a0), (2, .int a1)]) (st' := [.int 0, .ref 10, .int 0, .ref 0]) (s' := x7) rfl ?_
      refine zIald hf rfl (by rfl) (fun x8 hf => ?_)
      refine zXI hf (As := [.int 0, .int x8]) (rest := []) 2 zmk_m_workOut zok_m_workOut zl_1141 rfl rfl rfl rfl rfl rfl rfl rfl (fun _ e => k_m_workOut _ _ _ _ e) (fun x9 hf => ?_)
      refine zB zlokM 3 (pc' := 66) (ls' := [(3, .int x9.1), (0, .ref 0), (1, .int a0), (2, .int a1)]) (st' := [.int 9, .int x9.1]) (s' := x9.2) rfl ?_
      refine zSI hf (As := [.int x9.1, .int 9]) (rest := []) 2 zmk_m_heldTo zok_m_heldTo zl_1196 rfl rfl rfl rfl rfl (fun _ e => k_m_heldTo _ _ _ _ e) (fun x10 hf => ?_)
      exact zRetI hf rfl rfl
  · refine zB zlokM 1 (pc' := 11) (ls' := [(0, .ref 0), (1, .int a0), (2, .int a1)]) (st' := [.int 0]) (s' := s) rfl ?_
    exact zRetI hf rfl rfl
set_option maxRecDepth 20000 in
theorem k_m_buysOf (a0 : Int32) (a1 : Int32) (s : zSt) (r : Int32 × zSt) (hf : f_m_buysOf a0 a1 s = some r) : zKp zm_m_buysOf ΛM 82 [.ref 0, .int a0, .int a1] s (some (.int r.1), r.2) := by
  refine zKp_of zmk_m_buysOf rfl ?_
  show zWA _ _ _ _ _ [(0, .ref 0), (1, .int a0), (2, .int a1)] _ _
  refine zB zlokM 3 (pc' := 3) (ls' := [(0, .ref 0), (1, .int a0), (2, .int a1)]) (st' := [.int a1, .int a0, .ref 0]) (s' := s) rfl ?_
  refine zXI hf (As := [.int a0, .int a1]) (rest := []) 2 zmk_m_tasteOf zok_m_tasteOf zl_1188 rfl rfl rfl rfl rfl rfl rfl rfl (fun _ e => k_m_tasteOf _ _ _ _ e) (fun x1 hf => ?_)
  refine zB zlokM 5 (pc' := 13) (ls' := [(3, .int x1.1), (0, .ref 0), (1, .int a0), (2, .int a1)]) (st' := [.int a0, .ref 5, .int x1.1]) (s' := x1.2) rfl ?_
  refine zIald hf rfl (by rfl) (fun x2 hf => ?_)
  refine zB zlokM 6 (pc' := 22) (ls' := [(3, .int x1.1), (0, .ref 0), (1, .int a0), (2, .int a1)]) (st' := [.int 3, .ref 1, .int (x1.1 + (x2 / 5))]) (s' := x1.2) rfl ?_
  refine zIald hf rfl (by rfl) (fun x3 hf => ?_)
  refine zB zlokM 6 (pc' := 31) (ls' := [(3, .int x1.1), (0, .ref 0), (1, .int a0), (2, .int a1)]) (st' := [.int 4, .ref 1, .int ((x1.1 + (x2 / 5)) - (x3 / 4))]) (s' := x1.2) rfl ?_
  refine zIald hf rfl (by rfl) (fun x4 hf => ?_)
  refine zB zlokM 7 (pc' := 42) (ls' := [(4, .int (((x1.1 + (x2 / 5)) - (x3 / 4)) + (x4 / 4))), (3, .int x1.1), (0, .ref 0), (1, .int a0), (2, .int a1)]) (st' := [.int 1, .ref 10]) (s' := x1.2) rfl ?_
  refine zIald hf rfl (by rfl) (fun x5 hf => ?_)
  refine zIlt hf (tgt := 67) rfl (by decide) (fun hc hf => ?_) (fun hc hf => ?_)
  · refine zB zlokM 2 (pc' := 71) (ls' := [(4, .int (((x1.1 + (x2 / 5)) - (x3 / 4)) + (x4 / 4))), (3, .int x1.1), (0, .ref 0), (1, .int a0), (2, .int a1)]) (st' := [.int 12, .int (((x1.1 + (x2 / 5)) - (x3 / 4)) + (x4 / 4))]) (s' := x1.2) rfl ?_
    refine zSI hf (As := [.int (((x1.1 + (x2 / 5)) - (x3 / 4)) + (x4 / 4)), .int 12]) (rest := []) 2 zmk_m_heldTo zok_m_heldTo zl_1196 rfl rfl rfl rfl rfl (fun _ e => k_m_heldTo _ _ _ _ e) (fun x6 hf => ?_)
    exact zRetI hf rfl rfl
  · refine zB zlokM 4 (pc' := 50) (ls' := [(4, .int (((x1.1 + (x2 / 5)) - (x3 / 4)) + (x4 / 4))), (3, .int x1.1), (0, .ref 0), (1, .int a0), (2, .int a1)]) (st' := [.int x1.1, .int a1, .int a0, .ref 0]) (s' := x1.2) rfl ?_
    refine zXV hf (As := [.int a0, .int a1, .int x1.1]) (rest := []) 3 zmk_m_namesAll zok_m_namesAll zl_1192 rfl rfl rfl rfl rfl rfl rfl rfl (fun _ e => k_m_namesAll _ _ _ _ _ e) (fun x7 hf => ?_)
    refine zB zlokM 5 (pc' := 61) (ls' := [(4, .int (((x1.1 + (x2 / 5)) - (x3 / 4)) + (x4 / 4))), (3, .int x1.1), (0, .ref 0), (1, .int a0), (2, .int a1)]) (st' := [.int 1, .ref 10, .int 120, .ref 0]) (s' := x7) rfl ?_
    refine zIald hf rfl (by rfl) (fun x8 hf => ?_)
    refine zXI hf (As := [.int 120, .int x8]) (rest := []) 2 zmk_m_workOut zok_m_workOut zl_1141 rfl rfl rfl rfl rfl rfl rfl rfl (fun _ e => k_m_workOut _ _ _ _ e) (fun x9 hf => ?_)
    refine zB zlokM 3 (pc' := 71) (ls' := [(4, .int x9.1), (3, .int x1.1), (0, .ref 0), (1, .int a0), (2, .int a1)]) (st' := [.int 12, .int x9.1]) (s' := x9.2) rfl ?_
    refine zSI hf (As := [.int x9.1, .int 12]) (rest := []) 2 zmk_m_heldTo zok_m_heldTo zl_1196 rfl rfl rfl rfl rfl (fun _ e => k_m_heldTo _ _ _ _ e) (fun x10 hf => ?_)
    exact zRetI hf rfl rfl
set_option maxRecDepth 20000 in
theorem k_m_taste (a0 : Int32) (a1 : Int32) (a2 : Int32) (s : zSt) (r : Int32 × zSt) (hf : f_m_taste a0 a1 a2 s = some r) : zKp zm_m_taste ΛM 83 [.ref 0, .int a0, .int a1, .int a2] s (some (.int r.1), r.2) := by
  refine zKp_of zmk_m_taste rfl ?_
  show zWA _ _ _ _ _ [(0, .ref 0), (1, .int a0), (2, .int a1), (3, .int a2)] _ _
  refine zB zlokM 1 (pc' := 1) (ls' := [(0, .ref 0), (1, .int a0), (2, .int a1), (3, .int a2)]) (st' := [.int a0]) (s' := s) rfl ?_
  refine zSI hf (As := [.int a0]) (rest := []) 1 zmk_m_isQuarter zok_m_isQuarter zl_1068 rfl rfl rfl rfl rfl (fun _ e => k_m_isQuarter _ _ _ e) (fun x1 hf => ?_)
  refine zIeq hf (tgt := 29) rfl (by decide) (fun hc hf => ?_) (fun hc hf => ?_)
  · refine zB zlokM 1 (pc' := 30) (ls' := [(0, .ref 0), (1, .int a0), (2, .int a1), (3, .int a2)]) (st' := [.int (-1)]) (s' := x1.2) rfl ?_
    exact zRetI hf rfl rfl
  · refine zB zlokM 4 (pc' := 13) (ls' := [(0, .ref 0), (1, .int a0), (2, .int a1), (3, .int a2)]) (st' := [.long 32, .long 0, .long (a1 : Int32).toInt64]) (s' := x1.2) rfl ?_
    refine zSI hf (As := [.long (a1 : Int32).toInt64, .long 0, .long 32]) (rest := []) 3 zmk_m_within zok_m_within zl_1072 rfl rfl rfl rfl rfl (fun _ e => k_m_within _ _ _ _ _ e) (fun x2 hf => ?_)
    refine zIeq hf (tgt := 29) rfl (by decide) (fun hc hf => ?_) (fun hc hf => ?_)
    · refine zB zlokM 1 (pc' := 30) (ls' := [(0, .ref 0), (1, .int a0), (2, .int a1), (3, .int a2)]) (st' := [.int (-1)]) (s' := x2.2) rfl ?_
      exact zRetI hf rfl rfl
    · refine zB zlokM 4 (pc' := 23) (ls' := [(0, .ref 0), (1, .int a0), (2, .int a1), (3, .int a2)]) (st' := [.long 1, .long 0, .long (a2 : Int32).toInt64]) (s' := x2.2) rfl ?_
      refine zSI hf (As := [.long (a2 : Int32).toInt64, .long 0, .long 1]) (rest := []) 3 zmk_m_within zok_m_within zl_1072 rfl rfl rfl rfl rfl (fun _ e => k_m_within _ _ _ _ _ e) (fun x3 hf => ?_)
      refine zIne hf (tgt := 31) rfl (by decide) (fun hc hf => ?_) (fun hc hf => ?_)
      · refine zB zlokM 1 (pc' := 30) (ls' := [(0, .ref 0), (1, .int a0), (2, .int a1), (3, .int a2)]) (st' := [.int (-1)]) (s' := x3.2) rfl ?_
        exact zRetI hf rfl rfl
      · refine zB zlokM 1 (pc' := 32) (ls' := [(0, .ref 0), (1, .int a0), (2, .int a1), (3, .int a2)]) (st' := [.int a2]) (s' := x3.2) rfl ?_
        refine zIne hf (tgt := 44) rfl (by decide) (fun hc hf => ?_) (fun hc hf => ?_)
        · refine zB zlokM 3 (pc' := 38) (ls' := [(0, .ref 0), (1, .int a0), (2, .int a1), (3, .int a2)]) (st' := [.int a1, .int a0, .ref 0]) (s' := x3.2) rfl ?_
          refine zXI hf (As := [.int a0, .int a1]) (rest := []) 2 zmk_m_tasteOf zok_m_tasteOf zl_1188 rfl rfl rfl rfl rfl rfl rfl rfl (fun _ e => k_m_tasteOf _ _ _ _ e) (fun x4 hf => ?_)
          refine zGoto (tgt := 50) rfl (by decide) ?_
          exact zRetI hf rfl rfl
        · refine zB zlokM 3 (pc' := 47) (ls' := [(0, .ref 0), (1, .int a0), (2, .int a1), (3, .int a2)]) (st' := [.int a1, .int a0, .ref 0]) (s' := x3.2) rfl ?_
          refine zXI hf (As := [.int a0, .int a1]) (rest := []) 2 zmk_m_buysOf zok_m_buysOf zl_1199 rfl rfl rfl rfl rfl rfl rfl rfl (fun _ e => k_m_buysOf _ _ _ _ e) (fun x5 hf => ?_)
          exact zRetI hf rfl rfl
set_option maxRecDepth 20000 in
theorem k_m_draws (s : zSt) (r : Int32 × zSt) (hf : f_m_draws s = some r) : zKp zm_m_draws ΛM 0 [.ref 0] s (some (.int r.1), r.2) := by
  refine zKp_of zmk_m_draws rfl ?_
  show zWA _ _ _ _ _ [(0, .ref 0)] _ _
  refine zB zlokM 14 (pc' := 25) (ls' := [(0, .ref 0)]) (st' := [.int (zrem (zush ((zw s 0 21 (((s.1 0 21) * 1103515245) + 12345)).1 0 21) 8) 12)]) (s' := (zw s 0 21 (((s.1 0 21) * 1103515245) + 12345))) rfl ?_
  exact zRetI hf rfl rfl
set_option maxRecDepth 20000 in
theorem k_m_makesOne (s : zSt) (r : zSt) (hf : f_m_makesOne s = some r) : zKp zm_m_makesOne ΛM 0 [.ref 0] s (none, r) := by
  refine zKp_of zmk_m_makesOne rfl ?_
  show zWA _ _ _ _ _ [(0, .ref 0)] _ _
  refine zB zlokM 2 (pc' := 4) (ls' := [(0, .ref 0)]) (st' := [.int (s.1 0 22)]) (s' := s) rfl ?_
  refine zIne hf (tgt := 46) rfl (by decide) (fun hc hf => ?_) (fun hc hf => ?_)
  · refine zB zlokM 5 (pc' := 17) (ls' := [(0, .ref 0)]) (st' := [.int 7, .ref 1, .int (s.1 0 24)]) (s' := s) rfl ?_
    refine zIald hf rfl (by rfl) (fun x1 hf => ?_)
    refine zCge hf (tgt := 46) rfl (by decide) (fun hc hf => ?_) (fun hc hf => ?_)
    · exact zRetV hf rfl rfl
    · refine zB zlokM 10 (pc' := 37) (ls' := [(0, .ref 0)]) (st' := [.int 2, .ref 1, .ref 0]) (s' := (zw s 0 24 ((s.1 0 24) + 1))) rfl ?_
      refine zIald hf rfl (by rfl) (fun x2 hf => ?_)
      refine zB zlokM 4 (pc' := 46) (ls' := [(0, .ref 0)]) (st' := []) (s' := (zw (zw (zw s 0 24 ((s.1 0 24) + 1)) 0 22 x2) 0 23 0)) rfl ?_
      exact zRetV hf rfl rfl
  · exact zRetV hf rfl rfl
set_option maxRecDepth 20000 in
theorem k_m_passersIn (a0 : Int32) (s : zSt) (r : Int32 × zSt) (hf : f_m_passersIn a0 s = some r) : zKp zm_m_passersIn ΛM 2 [.ref 0, .int a0] s (some (.int r.1), r.2) := by
  refine zKp_of zmk_m_passersIn rfl ?_
  show zWA _ _ _ _ _ [(0, .ref 0), (1, .int a0)] _ _
  refine zB zlokM 4 (pc' := 6) (ls' := [(0, .ref 0), (1, .int a0)]) (st' := [.int a0, .ref 6, .ref 0]) (s' := s) rfl ?_
  refine zIald hf rfl (by rfl) (fun x1 hf => ?_)
  refine zXI hf (As := [.int x1]) (rest := []) 1 zmk_m_isPlace zok_m_isPlace zl_1093 rfl rfl rfl rfl rfl rfl rfl rfl (fun _ e => k_m_isPlace _ _ _ e) (fun x2 hf => ?_)
  refine zIeq hf (tgt := 32) rfl (by decide) (fun hc hf => ?_) (fun hc hf => ?_)
  · refine zB zlokM 1 (pc' := 33) (ls' := [(0, .ref 0), (1, .int a0)]) (st' := [.int 0]) (s' := x2.2) rfl ?_
    exact zRetI hf rfl rfl
  · refine zB zlokM 6 (pc' := 24) (ls' := [(0, .ref 0), (1, .int a0)]) (st' := [.int a0, .ref 6, .int 32, .ref 7]) (s' := x2.2) rfl ?_
    refine zIald hf rfl (by rfl) (fun x3 hf => ?_)
    refine zB zlokM 3 (pc' := 28) (ls' := [(0, .ref 0), (1, .int a0)]) (st' := [.int ((32 * x3) + a0), .ref 7]) (s' := x2.2) rfl ?_
    refine zIald hf rfl (by rfl) (fun x4 hf => ?_)
    refine zGoto (tgt := 33) rfl (by decide) ?_
    exact zRetI hf rfl rfl
set_option maxRecDepth 20000 in
theorem c_f_m_quarterGoes_122 {r : zSt} : ∀ (s : zSt), f_m_quarterGoes_122 s = some r → zWA zm_m_quarterGoes ΛM 83 (none, r) 122 [(0, .ref 0)] [] s := by
  intro s hf
  refine zB zlokM 2 (pc' := 126) (ls' := [(0, .ref 0)]) (st' := [.int (s.1 0 22)]) (s' := s) rfl ?_
  refine zIle hf (tgt := 179) rfl (by decide) (fun hc hf => ?_) (fun hc hf => ?_)
  · exact zRetV hf rfl rfl
  · refine zB zlokM 7 (pc' := 140) (ls' := [(0, .ref 0)]) (st' := [.int 5, .ref 1, .int ((s.1 0 23) + 1)]) (s' := s) rfl ?_
    refine zIald hf rfl (by rfl) (fun x11 hf => ?_)
    refine zClt hf (tgt := 169) rfl (by decide) (fun hc hf => ?_) (fun hc hf => ?_)
    · refine zB zlokM 6 (pc' := 179) (ls' := [(0, .ref 0)]) (st' := []) (s' := (zw s 0 23 ((s.1 0 23) + 1))) rfl ?_
      exact zRetV hf rfl rfl
    · refine zB zlokM 11 (pc' := 163) (ls' := [(0, .ref 0)]) (st' := [.ref 0]) (s' := (zw (zw s 0 26 ((s.1 0 26) + (s.1 0 22))) 0 22 0)) rfl ?_
      refine zXV hf (As := []) (rest := []) 0 zmk_m_makesOne zok_m_makesOne zl_1211 rfl rfl rfl rfl rfl rfl rfl rfl (fun _ e => k_m_makesOne _ _ e) (fun x12 hf => ?_)
      refine zGoto (tgt := 179) rfl (by decide) ?_
      exact zRetV hf rfl rfl
set_option maxRecDepth 20000 in
theorem c_f_m_quarterGoes_15 {r : zSt} : ∀ (n : Nat) (v1 : Int32) (v2 : Int32) (v3 : Int32) (s : zSt), f_m_quarterGoes_15 n v1 v2 v3 s = some r → zWA zm_m_quarterGoes ΛM 83 (none, r) 15 [(0, .ref 0), (1, .int v1), (2, .int v2), (3, .int v3)] [] s := by
  intro n
  induction n with
  | zero => intro v1 v2 v3 s hf; cases hf
  | succ n ih =>
    intro v1 v2 v3 s hf
    refine zB zlokM 2 (pc' := 17) (ls' := [(0, .ref 0), (1, .int v1), (2, .int v2), (3, .int v3)]) (st' := [.int v2, .int v3]) (s' := s) rfl ?_
    refine zCge hf (tgt := 77) rfl (by decide) (fun hc hf => ?_) (fun hc hf => ?_)
    · refine zB zlokM 1 (pc' := 78) (ls' := [(0, .ref 0), (1, .int v1), (2, .int v2), (3, .int v3)]) (st' := [.ref 0]) (s' := s) rfl ?_
      refine zXI hf (As := []) (rest := []) 0 zmk_m_draws zok_m_draws zl_1223 rfl rfl rfl rfl rfl rfl rfl rfl (fun _ e => k_m_draws _ _ e) (fun x3 hf => ?_)
      refine zB zlokM 3 (pc' := 87) (ls' := [(0, .ref 0), (1, .int v1), (2, .int v2), (3, .int v3)]) (st' := [.int 6, .ref 1, .int x3.1]) (s' := x3.2) rfl ?_
      refine zIald hf rfl (by rfl) (fun x4 hf => ?_)
      refine zCge hf (tgt := 122) rfl (by decide) (fun hc hf => ?_) (fun hc hf => ?_)
      · refine zLoc [0] rfl ?_
        exact c_f_m_quarterGoes_122 _ hf
      · refine zB zlokM 2 (pc' := 95) (ls' := [(0, .ref 0), (1, .int v1), (2, .int v2), (3, .int v3)]) (st' := [.int (x3.2.1 0 22)]) (s' := x3.2) rfl ?_
        refine zIle hf (tgt := 122) rfl (by decide) (fun hc hf => ?_) (fun hc hf => ?_)
        · refine zLoc [0] rfl ?_
          exact c_f_m_quarterGoes_122 _ hf
        · refine zB zlokM 13 (pc' := 119) (ls' := [(0, .ref 0), (1, .int v1), (2, .int v2), (3, .int v3)]) (st' := [.ref 0]) (s' := (zw (zw x3.2 0 22 ((x3.2.1 0 22) - 1)) 0 25 (((zw x3.2 0 22 ((x3.2.1 0 22) - 1)).1 0 25) + 1))) rfl ?_
          refine zXV hf (As := []) (rest := []) 0 zmk_m_makesOne zok_m_makesOne zl_1211 rfl rfl rfl rfl rfl rfl rfl rfl (fun _ e => k_m_makesOne _ _ e) (fun x5 hf => ?_)
          refine zLoc [0] rfl ?_
          exact c_f_m_quarterGoes_122 _ hf
    · refine zB zlokM 1 (pc' := 21) (ls' := [(0, .ref 0), (1, .int v1), (2, .int v2), (3, .int v3)]) (st' := [.ref 0]) (s' := s) rfl ?_
      refine zXI hf (As := []) (rest := []) 0 zmk_m_draws zok_m_draws zl_1223 rfl rfl rfl rfl rfl rfl rfl rfl (fun _ e => k_m_draws _ _ e) (fun x6 hf => ?_)
      refine zB zlokM 3 (pc' := 30) (ls' := [(4, .int x6.1), (0, .ref 0), (1, .int v1), (2, .int v2), (3, .int v3)]) (st' := [.int (x6.2.1 0 22)]) (s' := x6.2) rfl ?_
      refine zIle hf (tgt := 71) rfl (by decide) (fun hc hf => ?_) (fun hc hf => ?_)
      · refine zB zlokM 1 (pc' := 74) (ls' := [(3, .int (v3 + 1)), (4, .int x6.1), (0, .ref 0), (1, .int v1), (2, .int v2)]) (st' := []) (s' := x6.2) rfl ?_
        refine zGoto (tgt := 15) rfl (by decide) ?_
        refine zLoc [2, 3, 4, 0] rfl ?_
        exact ih _ _ _ _ hf
      · refine zB zlokM 5 (pc' := 41) (ls' := [(4, .int x6.1), (0, .ref 0), (1, .int v1), (2, .int v2), (3, .int v3)]) (st' := [.int (x6.2.1 0 23), .int v1, .ref 0, .int x6.1]) (s' := x6.2) rfl ?_
        refine zXI hf (As := [.int v1, .int (x6.2.1 0 23)]) (rest := [.int x6.1]) 2 zmk_m_buysOf zok_m_buysOf zl_1199 rfl rfl rfl rfl rfl rfl rfl rfl (fun _ e => k_m_buysOf _ _ _ _ e) (fun x7 hf => ?_)
        refine zCge hf (tgt := 71) rfl (by decide) (fun hc hf => ?_) (fun hc hf => ?_)
        · refine zB zlokM 1 (pc' := 74) (ls' := [(3, .int (v3 + 1)), (4, .int x6.1), (0, .ref 0), (1, .int v1), (2, .int v2)]) (st' := []) (s' := x7.2) rfl ?_
          refine zGoto (tgt := 15) rfl (by decide) ?_
          refine zLoc [2, 3, 4, 0] rfl ?_
          exact ih _ _ _ _ hf
        · refine zB zlokM 10 (pc' := 63) (ls' := [(4, .int x6.1), (0, .ref 0), (1, .int v1), (2, .int v2), (3, .int v3)]) (st' := [.int v1, .ref 12, .int v1, .ref 12]) (s' := (zw x7.2 0 22 ((x7.2.1 0 22) - 1))) rfl ?_
          refine zIald hf rfl (by rfl) (fun x8 hf => ?_)
          refine zB zlokM 2 (pc' := 66) (ls' := [(4, .int x6.1), (0, .ref 0), (1, .int v1), (2, .int v2), (3, .int v3)]) (st' := [.int (x8 + 1), .int v1, .ref 12]) (s' := (zw x7.2 0 22 ((x7.2.1 0 22) - 1))) rfl ?_
          refine zIast hf rfl (by rfl) (fun s9 hf => ?_)
          refine zB zlokM 1 (pc' := 68) (ls' := [(4, .int x6.1), (0, .ref 0), (1, .int v1), (2, .int v2), (3, .int v3)]) (st' := [.ref 0]) (s' := s9) rfl ?_
          refine zXV hf (As := []) (rest := []) 0 zmk_m_makesOne zok_m_makesOne zl_1211 rfl rfl rfl rfl rfl rfl rfl rfl (fun _ e => k_m_makesOne _ _ e) (fun x10 hf => ?_)
          refine zB zlokM 1 (pc' := 74) (ls' := [(3, .int (v3 + 1)), (4, .int x6.1), (0, .ref 0), (1, .int v1), (2, .int v2)]) (st' := []) (s' := x10) rfl ?_
          refine zGoto (tgt := 15) rfl (by decide) ?_
          refine zLoc [2, 3, 4, 0] rfl ?_
          exact ih _ _ _ _ hf
set_option maxRecDepth 20000 in
theorem k_m_quarterGoes (a0 : Int32) (s : zSt) (r : zSt) (hf : f_m_quarterGoes a0 s = some r) : zKp zm_m_quarterGoes ΛM 83 [.ref 0, .int a0] s (none, r) := by
  refine zKp_of zmk_m_quarterGoes rfl ?_
  show zWA _ _ _ _ _ [(0, .ref 0), (1, .int a0)] _ _
  refine zB zlokM 4 (pc' := 6) (ls' := [(0, .ref 0), (1, .int a0)]) (st' := [.int 0, .int a0, .ref 12]) (s' := s) rfl ?_
  refine zIast hf rfl (by rfl) (fun s1 hf => ?_)
  refine zB zlokM 2 (pc' := 9) (ls' := [(0, .ref 0), (1, .int a0)]) (st' := [.int a0, .ref 0]) (s' := s1) rfl ?_
  refine zXI hf (As := [.int a0]) (rest := []) 1 zmk_m_passersIn zok_m_passersIn zl_1219 rfl rfl rfl rfl rfl rfl rfl rfl (fun _ e => k_m_passersIn _ _ _ e) (fun x2 hf => ?_)
  refine zB zlokM 3 (pc' := 15) (ls' := [(3, .int 0), (2, .int x2.1), (0, .ref 0), (1, .int a0)]) (st' := []) (s' := x2.2) rfl ?_
  refine zLoc [2, 3, 1, 0] rfl ?_
  exact c_f_m_quarterGoes_15 zFu _ _ _ _ hf
set_option maxRecDepth 20000 in
theorem c_f_m_dayGoes_33 {r : Int32 × zSt} : ∀ (n : Nat) (v2 : Int32) (v3 : Int32) (s : zSt), f_m_dayGoes_33 n v2 v3 s = some r → zWA zm_m_dayGoes ΛM 84 (some (.int r.1), r.2) 33 [(0, .ref 0), (2, .int v2), (3, .int v3)] [] s := by
  intro n
  induction n with
  | zero => intro v2 v3 s hf; cases hf
  | succ n ih =>
    intro v2 v3 s hf
    refine zB zlokM 2 (pc' := 36) (ls' := [(0, .ref 0), (2, .int v2), (3, .int v3)]) (st' := [.int 32, .int v3]) (s' := s) rfl ?_
    refine zCge hf (tgt := 59) rfl (by decide) (fun hc hf => ?_) (fun hc hf => ?_)
    · refine zB zlokM 1 (pc' := 60) (ls' := [(0, .ref 0), (2, .int v2), (3, .int v3)]) (st' := [.int v2]) (s' := s) rfl ?_
      exact zRetI hf rfl rfl
    · refine zB zlokM 2 (pc' := 41) (ls' := [(0, .ref 0), (2, .int v2), (3, .int v3)]) (st' := [.int v3, .ref 0]) (s' := s) rfl ?_
      refine zXV hf (As := [.int v3]) (rest := []) 1 zmk_m_quarterGoes zok_m_quarterGoes zl_1215 rfl rfl rfl rfl rfl rfl rfl rfl (fun _ e => k_m_quarterGoes _ _ _ e) (fun x2 hf => ?_)
      refine zB zlokM 4 (pc' := 50) (ls' := [(0, .ref 0), (2, .int v2), (3, .int v3)]) (st' := [.int v3, .ref 12, .int v2]) (s' := x2) rfl ?_
      refine zIald hf rfl (by rfl) (fun x3 hf => ?_)
      refine zB zlokM 3 (pc' := 56) (ls' := [(3, .int (v3 + 1)), (2, .int (v2 + x3)), (0, .ref 0)]) (st' := []) (s' := x2) rfl ?_
      refine zGoto (tgt := 33) rfl (by decide) ?_
      refine zLoc [2, 1, 0] rfl ?_
      exact ih _ _ _ hf
set_option maxRecDepth 20000 in
theorem k_m_dayGoes (a0 : Int32) (s : zSt) (r : Int32 × zSt) (hf : f_m_dayGoes a0 s = some r) : zKp zm_m_dayGoes ΛM 84 [.ref 0, .int a0] s (some (.int r.1), r.2) := by
  refine zKp_of zmk_m_dayGoes rfl ?_
  show zWA _ _ _ _ _ [(0, .ref 0), (1, .int a0)] _ _
  refine zB zlokM 16 (pc' := 26) (ls' := [(0, .ref 0), (1, .int a0)]) (st' := [.ref 0]) (s' := (zw (zw (zw (zw (zw s 0 21 a0) 0 22 0) 0 24 0) 0 25 0) 0 26 0)) rfl ?_
  refine zXV hf (As := []) (rest := []) 0 zmk_m_makesOne zok_m_makesOne zl_1211 rfl rfl rfl rfl rfl rfl rfl rfl (fun _ e => k_m_makesOne _ _ e) (fun x1 hf => ?_)
  refine zB zlokM 4 (pc' := 33) (ls' := [(3, .int 0), (2, .int 0), (0, .ref 0), (1, .int a0)]) (st' := []) (s' := x1) rfl ?_
  refine zLoc [2, 1, 0] rfl ?_
  exact c_f_m_dayGoes_33 zFu _ _ _ hf
set_option maxRecDepth 20000 in
theorem k_m_gainOf (a0 : Int32) (s : zSt) (r : Int32 × zSt) (hf : f_m_gainOf a0 s = some r) : zKp zm_m_gainOf ΛM 85 [.ref 0, .int a0] s (some (.int r.1), r.2) := by
  refine zKp_of zmk_m_gainOf rfl ?_
  show zWA _ _ _ _ _ [(0, .ref 0), (1, .int a0)] _ _
  refine zB zlokM 2 (pc' := 2) (ls' := [(0, .ref 0), (1, .int a0)]) (st' := [.int a0, .ref 0]) (s' := s) rfl ?_
  refine zXI hf (As := [.int a0]) (rest := []) 1 zmk_m_dayGoes zok_m_dayGoes zl_1207 rfl rfl rfl rfl rfl rfl rfl rfl (fun _ e => k_m_dayGoes _ _ _ e) (fun x1 hf => ?_)
  refine zB zlokM 5 (pc' := 12) (ls' := [(2, .int x1.1), (0, .ref 0), (1, .int a0)]) (st' := [.int 3, .ref 1, .int x1.1]) (s' := x1.2) rfl ?_
  refine zIald hf rfl (by rfl) (fun x2 hf => ?_)
  refine zB zlokM 4 (pc' := 19) (ls' := [(2, .int x1.1), (0, .ref 0), (1, .int a0)]) (st' := [.ref 0, .int (x1.2.1 0 24), .int (x1.1 * x2)]) (s' := x1.2) rfl ?_
  refine zXI hf (As := []) (rest := [.int (x1.2.1 0 24), .int (x1.1 * x2)]) 0 zmk_m_jugCost zok_m_jugCost zl_1125 rfl rfl rfl rfl rfl rfl rfl rfl (fun _ e => k_m_jugCost _ _ e) (fun x3 hf => ?_)
  refine zB zlokM 2 (pc' := 24) (ls' := [(2, .int x1.1), (0, .ref 0), (1, .int a0)]) (st' := [.int ((x1.1 * x2) - ((x1.2.1 0 24) * x3.1))]) (s' := x3.2) rfl ?_
  exact zRetI hf rfl rfl
