/-! contracts: m_day m_told m_best m_passesAt m_mayFollow m_passesBy m_where m_dayIs m_firstFalse m_judge m_seeded m_common m_partOf m_make -/
set_option maxRecDepth 20000 in
theorem c_f_m_day_119 {r : Int32 × zSt} : ∀ (n : Nat) (v2 : Int32) (v3 : Int32) (s : zSt), f_m_day_119 n v2 v3 s = some r → zWA zm_m_day ΛM 85 (some (.int r.1), r.2) 119 [(0, .ref 0), (2, .int v2), (3, .int v3)] [] s := by
  intro n
  induction n with
  | zero => intro v2 v3 s hf; cases hf
  | succ n ih =>
    intro v2 v3 s hf
    refine zB zlokM 2 (pc' := 122) (ls' := [(0, .ref 0), (2, .int v2), (3, .int v3)]) (st' := [.int 32, .int v3]) (s' := s) rfl ?_
    refine zCge hf (tgt := 143) rfl (by decide) (fun hc hf => ?_) (fun hc hf => ?_)
    · refine zB zlokM 1 (pc' := 144) (ls' := [(0, .ref 0), (2, .int v2), (3, .int v3)]) (st' := [.int v2]) (s' := s) rfl ?_
      exact zRetI hf rfl rfl
    · refine zB zlokM 6 (pc' := 135) (ls' := [(0, .ref 0), (2, .int v2), (3, .int v3)]) (st' := [.int v3, .ref 12, .int v3, .ref 14]) (s' := s) rfl ?_
      refine zIald hf rfl (by rfl) (fun x14 hf => ?_)
      refine zIast hf rfl (by rfl) (fun s15 hf => ?_)
      refine zB zlokM 1 (pc' := 140) (ls' := [(3, .int (v3 + 1)), (0, .ref 0), (2, .int v2)]) (st' := []) (s' := s15) rfl ?_
      refine zGoto (tgt := 119) rfl (by decide) ?_
      refine zLoc [1, 2, 0] rfl ?_
      exact ih _ _ _ hf
set_option maxRecDepth 20000 in
theorem k_m_day (a0 : Int32) (s : zSt) (r : Int32 × zSt) (hf : f_m_day a0 s = some r) : zKp zm_m_day ΛM 85 [.ref 0, .int a0] s (some (.int r.1), r.2) := by
  refine zKp_of zmk_m_day rfl ?_
  show zWA _ _ _ _ _ [(0, .ref 0), (1, .int a0)] _ _
  refine zB zlokM 2 (pc' := 2) (ls' := [(0, .ref 0), (1, .int a0)]) (st' := [.int a0, .ref 0]) (s' := s) rfl ?_
  refine zXI hf (As := [.int a0]) (rest := []) 1 zmk_m_dayGoes zok_m_dayGoes zl_1207 rfl rfl rfl rfl rfl rfl rfl rfl (fun _ e => k_m_dayGoes _ _ _ e) (fun x1 hf => ?_)
  refine zB zlokM 8 (pc' := 17) (ls' := [(2, .int x1.1), (0, .ref 0), (1, .int a0)]) (st' := [.int 3, .ref 1, .ref 0]) (s' := (zw x1.2 0 27 1)) rfl ?_
  refine zIald hf rfl (by rfl) (fun x2 hf => ?_)
  refine zB zlokM 5 (pc' := 27) (ls' := [(2, .int x1.1), (0, .ref 0), (1, .int a0)]) (st' := [.int x1.1, .int 0, .ref 13]) (s' := (zw (zw x1.2 0 27 1) 0 30 x2)) rfl ?_
  refine zIast hf rfl (by rfl) (fun s3 hf => ?_)
  refine zB zlokM 7 (pc' := 39) (ls' := [(2, .int x1.1), (0, .ref 0), (1, .int a0)]) (st' := [.int (x1.1 * (s3.1 0 30)), .int 1, .ref 13]) (s' := s3) rfl ?_
  refine zIast hf rfl (by rfl) (fun s4 hf => ?_)
  refine zB zlokM 5 (pc' := 49) (ls' := [(2, .int x1.1), (0, .ref 0), (1, .int a0)]) (st' := [.int (s4.1 0 25), .int 2, .ref 13]) (s' := s4) rfl ?_
  refine zIast hf rfl (by rfl) (fun s5 hf => ?_)
  refine zB zlokM 5 (pc' := 59) (ls' := [(2, .int x1.1), (0, .ref 0), (1, .int a0)]) (st' := [.int (s5.1 0 26), .int 3, .ref 13]) (s' := s5) rfl ?_
  refine zIast hf rfl (by rfl) (fun s6 hf => ?_)
  refine zB zlokM 5 (pc' := 69) (ls' := [(2, .int x1.1), (0, .ref 0), (1, .int a0)]) (st' := [.int (s6.1 0 22), .int 4, .ref 13]) (s' := s6) rfl ?_
  refine zIast hf rfl (by rfl) (fun s7 hf => ?_)
  refine zB zlokM 5 (pc' := 79) (ls' := [(2, .int x1.1), (0, .ref 0), (1, .int a0)]) (st' := [.int (s7.1 0 24), .int 5, .ref 13]) (s' := s7) rfl ?_
  refine zIast hf rfl (by rfl) (fun s8 hf => ?_)
  refine zB zlokM 6 (pc' := 91) (ls' := [(2, .int x1.1), (0, .ref 0), (1, .int a0)]) (st' := [.ref 0, .int (s8.1 0 24), .int 6, .ref 13]) (s' := s8) rfl ?_
  refine zXI hf (As := []) (rest := [.int (s8.1 0 24), .int 6, .ref 13]) 0 zmk_m_jugCost zok_m_jugCost zl_1125 rfl rfl rfl rfl rfl rfl rfl rfl (fun _ e => k_m_jugCost _ _ e) (fun x9 hf => ?_)
  refine zB zlokM 1 (pc' := 95) (ls' := [(2, .int x1.1), (0, .ref 0), (1, .int a0)]) (st' := [.int ((s8.1 0 24) * x9.1), .int 6, .ref 13]) (s' := x9.2) rfl ?_
  refine zIast hf rfl (by rfl) (fun s10 hf => ?_)
  refine zB zlokM 6 (pc' := 107) (ls' := [(2, .int x1.1), (0, .ref 0), (1, .int a0)]) (st' := [.int 1, .ref 13, .int 7, .ref 13]) (s' := s10) rfl ?_
  refine zIald hf rfl (by rfl) (fun x11 hf => ?_)
  refine zB zlokM 3 (pc' := 114) (ls' := [(2, .int x1.1), (0, .ref 0), (1, .int a0)]) (st' := [.int 6, .ref 13, .int x11, .int 7, .ref 13]) (s' := s10) rfl ?_
  refine zIald hf rfl (by rfl) (fun x12 hf => ?_)
  refine zB zlokM 1 (pc' := 116) (ls' := [(2, .int x1.1), (0, .ref 0), (1, .int a0)]) (st' := [.int (x11 - x12), .int 7, .ref 13]) (s' := s10) rfl ?_
  refine zIast hf rfl (by rfl) (fun s13 hf => ?_)
  refine zB zlokM 2 (pc' := 119) (ls' := [(3, .int 0), (2, .int x1.1), (0, .ref 0), (1, .int a0)]) (st' := []) (s' := s13) rfl ?_
  refine zLoc [2, 1, 0] rfl ?_
  exact c_f_m_day_119 zFu _ _ _ hf
set_option maxRecDepth 20000 in
theorem c_f_m_told_49 {r : Int32 × zSt} : ∀ (v1 : Int32) (s : zSt), f_m_told_49 v1 s = some r → zWA zm_m_told ΛM 2 (some (.int r.1), r.2) 49 [(0, .ref 0), (1, .int v1)] [] s := by
  intro v1 s hf
  refine zB zlokM 2 (pc' := 53) (ls' := [(0, .ref 0), (1, .int v1)]) (st' := [.int (s.1 0 27)]) (s' := s) rfl ?_
  refine zIne hf (tgt := 59) rfl (by decide) (fun hc hf => ?_) (fun hc hf => ?_)
  · refine zB zlokM 1 (pc' := 58) (ls' := [(0, .ref 0), (1, .int v1)]) (st' := [.int (-5)]) (s' := s) rfl ?_
    exact zRetI hf rfl rfl
  · refine zB zlokM 2 (pc' := 62) (ls' := [(0, .ref 0), (1, .int v1)]) (st' := [.int 8, .int v1]) (s' := s) rfl ?_
    refine zCge hf (tgt := 74) rfl (by decide) (fun hc hf => ?_) (fun hc hf => ?_)
    · refine zB zlokM 2 (pc' := 78) (ls' := [(0, .ref 0), (1, .int v1)]) (st' := [.int 200, .int v1]) (s' := s) rfl ?_
      refine zCge hf (tgt := 93) rfl (by decide) (fun hc hf => ?_) (fun hc hf => ?_)
      · refine zB zlokM 5 (pc' := 102) (ls' := [(0, .ref 0), (1, .int v1)]) (st' := [.int (v1 - 200), .ref 14]) (s' := s) rfl ?_
        refine zIald hf rfl (by rfl) (fun x4 hf => ?_)
        refine zB zlokM 3 (pc' := 108) (ls' := [(0, .ref 0), (1, .int v1)]) (st' := [.int (x4 * (s.1 0 30))]) (s' := s) rfl ?_
        exact zRetI hf rfl rfl
      · refine zB zlokM 5 (pc' := 89) (ls' := [(0, .ref 0), (1, .int v1)]) (st' := [.int (v1 - 100), .ref 14]) (s' := s) rfl ?_
        refine zIald hf rfl (by rfl) (fun x5 hf => ?_)
        refine zGoto (tgt := 108) rfl (by decide) ?_
        exact zRetI hf rfl rfl
    · refine zB zlokM 3 (pc' := 70) (ls' := [(0, .ref 0), (1, .int v1)]) (st' := [.int v1, .ref 13]) (s' := s) rfl ?_
      refine zIald hf rfl (by rfl) (fun x6 hf => ?_)
      refine zGoto (tgt := 108) rfl (by decide) ?_
      exact zRetI hf rfl rfl
set_option maxRecDepth 20000 in
theorem c_f_m_told_29 {r : Int32 × zSt} : ∀ (v1 : Int32) (w0 : Int32) (s : zSt), f_m_told_29 v1 w0 s = some r → zWA zm_m_told ΛM 2 (some (.int r.1), r.2) 29 [(0, .ref 0), (1, .int v1)] [.int w0] s := by
  intro v1 w0 s hf
  refine zB zlokM 5 (pc' := 36) (ls' := [(2, .int w0), (0, .ref 0), (1, .int v1)]) (st' := [.long 7, .long 0, .long (v1 : Int32).toInt64]) (s' := s) rfl ?_
  refine zSI hf (As := [.long (v1 : Int32).toInt64, .long 0, .long 7]) (rest := []) 3 zmk_m_within zok_m_within zl_1072 rfl rfl rfl rfl rfl (fun _ e => k_m_within _ _ _ _ _ e) (fun x3 hf => ?_)
  refine zIne hf (tgt := 49) rfl (by decide) (fun hc hf => ?_) (fun hc hf => ?_)
  · refine zB zlokM 1 (pc' := 43) (ls' := [(2, .int w0), (0, .ref 0), (1, .int v1)]) (st' := [.int w0]) (s' := x3.2) rfl ?_
    refine zIne hf (tgt := 49) rfl (by decide) (fun hc hf => ?_) (fun hc hf => ?_)
    · refine zB zlokM 1 (pc' := 48) (ls' := [(2, .int w0), (0, .ref 0), (1, .int v1)]) (st' := [.int (-2000000000)]) (s' := x3.2) rfl ?_
      exact zRetI hf rfl rfl
    · refine zLoc [1, 2] rfl ?_
      exact c_f_m_told_49 _ _ hf
  · refine zLoc [1, 2] rfl ?_
    exact c_f_m_told_49 _ _ hf
set_option maxRecDepth 20000 in
theorem c_f_m_told_28 {r : Int32 × zSt} : ∀ (v1 : Int32) (s : zSt), f_m_told_28 v1 s = some r → zWA zm_m_told ΛM 2 (some (.int r.1), r.2) 28 [(0, .ref 0), (1, .int v1)] [] s := by
  intro v1 s hf
  refine zB zlokM 1 (pc' := 29) (ls' := [(0, .ref 0), (1, .int v1)]) (st' := [.int 0]) (s' := s) rfl ?_
  refine zLoc [0, 1] rfl ?_
  exact c_f_m_told_29 _ _ _ hf
set_option maxRecDepth 20000 in
theorem k_m_told (a0 : Int32) (s : zSt) (r : Int32 × zSt) (hf : f_m_told a0 s = some r) : zKp zm_m_told ΛM 2 [.ref 0, .int a0] s (some (.int r.1), r.2) := by
  refine zKp_of zmk_m_told rfl ?_
  show zWA _ _ _ _ _ [(0, .ref 0), (1, .int a0)] _ _
  refine zB zlokM 4 (pc' := 8) (ls' := [(0, .ref 0), (1, .int a0)]) (st' := [.long 299, .long 100, .long (a0 : Int32).toInt64]) (s' := s) rfl ?_
  refine zSI hf (As := [.long (a0 : Int32).toInt64, .long 100, .long 299]) (rest := []) 3 zmk_m_within zok_m_within zl_1072 rfl rfl rfl rfl rfl (fun _ e => k_m_within _ _ _ _ _ e) (fun x1 hf => ?_)
  refine zIeq hf (tgt := 28) rfl (by decide) (fun hc hf => ?_) (fun hc hf => ?_)
  · refine zLoc [0, 1] rfl ?_
    exact c_f_m_told_28 _ _ hf
  · refine zB zlokM 3 (pc' := 18) (ls' := [(0, .ref 0), (1, .int a0)]) (st' := [.int (zrem a0 100)]) (s' := x1.2) rfl ?_
    refine zSI hf (As := [.int (zrem a0 100)]) (rest := []) 1 zmk_m_isQuarter zok_m_isQuarter zl_1068 rfl rfl rfl rfl rfl (fun _ e => k_m_isQuarter _ _ _ e) (fun x2 hf => ?_)
    refine zIeq hf (tgt := 28) rfl (by decide) (fun hc hf => ?_) (fun hc hf => ?_)
    · refine zLoc [0, 1] rfl ?_
      exact c_f_m_told_28 _ _ hf
    · refine zB zlokM 1 (pc' := 25) (ls' := [(0, .ref 0), (1, .int a0)]) (st' := [.int 1]) (s' := x2.2) rfl ?_
      refine zGoto (tgt := 29) rfl (by decide) ?_
      refine zLoc [0, 1] rfl ?_
      exact c_f_m_told_29 _ _ _ hf
set_option maxRecDepth 20000 in
theorem c_f_m_best_53 {r : Int32 × zSt} (k40 : Int32 → Int32 → Int32 → Int32 → Int32 → Int32 → Int32 → zSt → Option (Int32 × zSt)) (hk40 : ∀ (v1 : Int32) (v2 : Int32) (v3 : Int32) (v4 : Int32) (v5 : Int32) (v6 : Int32) (v7 : Int32) (s : zSt), k40 v1 v2 v3 v4 v5 v6 v7 s = some r → zWA zm_m_best ΛM 86 (some (.int r.1), r.2) 40 [(0, .ref 0), (1, .int v1), (2, .int v2), (3, .int v3), (4, .int v4), (5, .int v5), (6, .int v6), (7, .int v7)] [] s) : ∀ (v1 : Int32) (v2 : Int32) (v3 : Int32) (v4 : Int32) (v5 : Int32) (v6 : Int32) (v7 : Int32) (w0 : Int32) (w1 : Int32) (s : zSt), f_m_best_53 k40 v1 v2 v3 v4 v5 v6 v7 w0 w1 s = some r → zWA zm_m_best ΛM 86 (some (.int r.1), r.2) 53 [(0, .ref 0), (1, .int v1), (2, .int v2), (3, .int v3), (4, .int v4), (5, .int v5), (6, .int v6), (7, .int v7)] [.int w0, .int w1] s := by
  intro v1 v2 v3 v4 v5 v6 v7 w0 w1 s hf
  refine zCgt hf (tgt := 97) rfl (by decide) (fun hc hf => ?_) (fun hc hf => ?_)
  · refine zB zlokM 4 (pc' := 104) (ls' := [(0, .ref 0), (1, .int v1), (2, .int v2), (3, .int v3), (4, .int v4), (5, .int v5), (6, .int v6), (7, .int v7)]) (st' := [.int v4, .int v3, .ref 1]) (s' := s) rfl ?_
    refine zIast hf rfl (by rfl) (fun s3 hf => ?_)
    refine zB zlokM 1 (pc' := 107) (ls' := [(0, .ref 0), (1, .int v1), (2, .int v2), (3, .int v3), (4, .int v4), (5, .int v5), (6, .int v6), (7, .int v7)]) (st' := [.int v5]) (s' := s3) rfl ?_
    exact zRetI hf rfl rfl
  · refine zB zlokM 4 (pc' := 63) (ls' := [(0, .ref 0), (1, .int v1), (2, .int v2), (3, .int v3), (4, .int v4), (5, .int v5), (6, .int v6), (7, .int v7)]) (st' := [.int v7, .int v3, .ref 1]) (s' := s) rfl ?_
    refine zIast hf rfl (by rfl) (fun s4 hf => ?_)
    refine zB zlokM 2 (pc' := 66) (ls' := [(0, .ref 0), (1, .int v1), (2, .int v2), (3, .int v3), (4, .int v4), (5, .int v5), (6, .int v6), (7, .int v7)]) (st' := [.int v1, .ref 0]) (s' := s4) rfl ?_
    refine zXI hf (As := [.int v1]) (rest := []) 1 zmk_m_gainOf zok_m_gainOf zl_1236 rfl rfl rfl rfl rfl rfl rfl rfl (fun _ e => k_m_gainOf _ _ _ e) (fun x5 hf => ?_)
    refine zB zlokM 2 (pc' := 73) (ls' := [(8, .int x5.1), (0, .ref 0), (1, .int v1), (2, .int v2), (3, .int v3), (4, .int v4), (5, .int v5), (6, .int v6), (7, .int v7)]) (st' := [.int v5]) (s' := x5.2) rfl ?_
    refine zIlt hf (tgt := 83) rfl (by decide) (fun hc hf => ?_) (fun hc hf => ?_)
    · refine zB zlokM 5 (pc' := 94) (ls' := [(7, .int (v7 + 1)), (6, .int x5.1), (5, .int v7), (8, .int x5.1), (0, .ref 0), (1, .int v1), (2, .int v2), (3, .int v3), (4, .int v4)]) (st' := []) (s' := x5.2) rfl ?_
      refine zGoto (tgt := 40) rfl (by decide) ?_
      refine zLoc [4, 5, 6, 7, 8, 2, 1, 0] rfl ?_
      exact hk40 _ _ _ _ _ _ _ _ hf
    · refine zB zlokM 2 (pc' := 80) (ls' := [(8, .int x5.1), (0, .ref 0), (1, .int v1), (2, .int v2), (3, .int v3), (4, .int v4), (5, .int v5), (6, .int v6), (7, .int v7)]) (st' := [.int v6, .int x5.1]) (s' := x5.2) rfl ?_
      refine zCle hf (tgt := 91) rfl (by decide) (fun hc hf => ?_) (fun hc hf => ?_)
      · refine zB zlokM 1 (pc' := 94) (ls' := [(7, .int (v7 + 1)), (8, .int x5.1), (0, .ref 0), (1, .int v1), (2, .int v2), (3, .int v3), (4, .int v4), (5, .int v5), (6, .int v6)]) (st' := []) (s' := x5.2) rfl ?_
        refine zGoto (tgt := 40) rfl (by decide) ?_
        refine zLoc [2, 3, 4, 5, 6, 7, 8, 0] rfl ?_
        exact hk40 _ _ _ _ _ _ _ _ hf
      · refine zB zlokM 5 (pc' := 94) (ls' := [(7, .int (v7 + 1)), (6, .int x5.1), (5, .int v7), (8, .int x5.1), (0, .ref 0), (1, .int v1), (2, .int v2), (3, .int v3), (4, .int v4)]) (st' := []) (s' := x5.2) rfl ?_
        refine zGoto (tgt := 40) rfl (by decide) ?_
        refine zLoc [4, 5, 6, 7, 8, 2, 1, 0] rfl ?_
        exact hk40 _ _ _ _ _ _ _ _ hf
set_option maxRecDepth 20000 in
theorem c_f_m_best_40 {r : Int32 × zSt} : ∀ (n : Nat) (v1 : Int32) (v2 : Int32) (v3 : Int32) (v4 : Int32) (v5 : Int32) (v6 : Int32) (v7 : Int32) (s : zSt), f_m_best_40 n v1 v2 v3 v4 v5 v6 v7 s = some r → zWA zm_m_best ΛM 86 (some (.int r.1), r.2) 40 [(0, .ref 0), (1, .int v1), (2, .int v2), (3, .int v3), (4, .int v4), (5, .int v5), (6, .int v6), (7, .int v7)] [] s := by
  intro n
  induction n with
  | zero => intro v1 v2 v3 v4 v5 v6 v7 s hf; cases hf
  | succ n ih =>
    intro v1 v2 v3 v4 v5 v6 v7 s hf
    refine zB zlokM 2 (pc' := 43) (ls' := [(0, .ref 0), (1, .int v1), (2, .int v2), (3, .int v3), (4, .int v4), (5, .int v5), (6, .int v6), (7, .int v7)]) (st' := [.int v2, .int v7]) (s' := s) rfl ?_
    refine zIne hf (tgt := 51) rfl (by decide) (fun hc hf => ?_) (fun hc hf => ?_)
    · refine zB zlokM 1 (pc' := 48) (ls' := [(0, .ref 0), (1, .int v1), (2, .int v2), (3, .int v3), (4, .int v4), (5, .int v5), (6, .int v6), (7, .int v7)]) (st' := [.int 50, .int v7]) (s' := s) rfl ?_
      refine zGoto (tgt := 53) rfl (by decide) ?_
      refine zLoc [0, 1, 2, 3, 4, 5, 6, 7] rfl ?_
      exact c_f_m_best_53 _ ih _ _ _ _ _ _ _ _ _ _ hf
    · refine zB zlokM 1 (pc' := 53) (ls' := [(0, .ref 0), (1, .int v1), (2, .int v2), (3, .int v3), (4, .int v4), (5, .int v5), (6, .int v6), (7, .int v7)]) (st' := [.int 9, .int v7]) (s' := s) rfl ?_
      refine zLoc [0, 1, 2, 3, 4, 5, 6, 7] rfl ?_
      exact c_f_m_best_53 _ ih _ _ _ _ _ _ _ _ _ _ hf
set_option maxRecDepth 20000 in
theorem c_f_m_best_22 {r : Int32 × zSt} : ∀ (v1 : Int32) (v2 : Int32) (w0 : Int32) (s : zSt), f_m_best_22 v1 v2 w0 s = some r → zWA zm_m_best ΛM 86 (some (.int r.1), r.2) 22 [(0, .ref 0), (1, .int v1), (2, .int v2)] [.int w0] s := by
  intro v1 v2 w0 s hf
  refine zB zlokM 4 (pc' := 28) (ls' := [(3, .int w0), (0, .ref 0), (1, .int v1), (2, .int v2)]) (st' := [.int w0, .ref 1]) (s' := s) rfl ?_
  refine zIald hf rfl (by rfl) (fun x2 hf => ?_)
  refine zB zlokM 7 (pc' := 40) (ls' := [(7, .int 0), (6, .int 0), (5, .int (-1)), (4, .int x2), (3, .int w0), (0, .ref 0), (1, .int v1), (2, .int v2)]) (st' := []) (s' := s) rfl ?_
  refine zLoc [5, 6, 7, 4, 3, 2, 1, 0] rfl ?_
  exact c_f_m_best_40 zFu _ _ _ _ _ _ _ _ hf
set_option maxRecDepth 20000 in
theorem k_m_best (a0 : Int32) (a1 : Int32) (s : zSt) (r : Int32 × zSt) (hf : f_m_best a0 a1 s = some r) : zKp zm_m_best ΛM 86 [.ref 0, .int a0, .int a1] s (some (.int r.1), r.2) := by
  refine zKp_of zmk_m_best rfl ?_
  show zWA _ _ _ _ _ [(0, .ref 0), (1, .int a0), (2, .int a1)] _ _
  refine zB zlokM 4 (pc' := 4) (ls' := [(0, .ref 0), (1, .int a0), (2, .int a1)]) (st' := [.long 1, .long 0, .long (a1 : Int32).toInt64]) (s' := s) rfl ?_
  refine zSI hf (As := [.long (a1 : Int32).toInt64, .long 0, .long 1]) (rest := []) 3 zmk_m_within zok_m_within zl_1072 rfl rfl rfl rfl rfl (fun _ e => k_m_within _ _ _ _ _ e) (fun x1 hf => ?_)
  refine zIne hf (tgt := 12) rfl (by decide) (fun hc hf => ?_) (fun hc hf => ?_)
  · refine zB zlokM 1 (pc' := 11) (ls' := [(0, .ref 0), (1, .int a0), (2, .int a1)]) (st' := [.int (-1)]) (s' := x1.2) rfl ?_
    exact zRetI hf rfl rfl
  · refine zB zlokM 1 (pc' := 13) (ls' := [(0, .ref 0), (1, .int a0), (2, .int a1)]) (st' := [.int a1]) (s' := x1.2) rfl ?_
    refine zIne hf (tgt := 20) rfl (by decide) (fun hc hf => ?_) (fun hc hf => ?_)
    · refine zB zlokM 1 (pc' := 17) (ls' := [(0, .ref 0), (1, .int a0), (2, .int a1)]) (st' := [.int 3]) (s' := x1.2) rfl ?_
      refine zGoto (tgt := 22) rfl (by decide) ?_
      refine zLoc [0, 1, 2] rfl ?_
      exact c_f_m_best_22 _ _ _ _ hf
    · refine zB zlokM 1 (pc' := 22) (ls' := [(0, .ref 0), (1, .int a0), (2, .int a1)]) (st' := [.int 7]) (s' := x1.2) rfl ?_
      refine zLoc [0, 1, 2] rfl ?_
      exact c_f_m_best_22 _ _ _ _ hf
set_option maxRecDepth 20000 in
theorem k_m_passesAt (a0 : Int32) (a1 : Int32) (s : zSt) (r : Int32 × zSt) (hf : f_m_passesAt a0 a1 s = some r) : zKp zm_m_passesAt ΛM 0 [.ref 0, .int a0, .int a1] s (some (.int r.1), r.2) := by
  refine zKp_of zmk_m_passesAt rfl ?_
  show zWA _ _ _ _ _ [(0, .ref 0), (1, .int a0), (2, .int a1)] _ _
  refine zB zlokM 1 (pc' := 1) (ls' := [(0, .ref 0), (1, .int a0), (2, .int a1)]) (st' := [.int a1]) (s' := s) rfl ?_
  refine zIge hf (tgt := 8) rfl (by decide) (fun hc hf => ?_) (fun hc hf => ?_)
  · refine zB zlokM 7 (pc' := 18) (ls' := [(0, .ref 0), (1, .int a0), (2, .int a1)]) (st' := [.int ((32 * a1) + a0), .ref 7]) (s' := s) rfl ?_
    refine zIald hf rfl (by rfl) (fun x1 hf => ?_)
    exact zRetI hf rfl rfl
  · refine zB zlokM 1 (pc' := 5) (ls' := [(0, .ref 0), (1, .int a0), (2, .int a1)]) (st' := [.int 0]) (s' := s) rfl ?_
    refine zGoto (tgt := 19) rfl (by decide) ?_
    exact zRetI hf rfl rfl
set_option maxRecDepth 20000 in
theorem k_m_mayFollow (a0 : Int32) (a1 : Int32) (s : zSt) (r : Int32 × zSt) (hf : f_m_mayFollow a0 a1 s = some r) : zKp zm_m_mayFollow ΛM 0 [.int a0, .int a1] s (some (.int r.1), r.2) := by
  refine zKp_of zmk_m_mayFollow rfl ?_
  show zWA _ _ _ _ _ [(0, .int a0), (1, .int a1)] _ _
  refine zB zlokM 1 (pc' := 1) (ls' := [(0, .int a0), (1, .int a1)]) (st' := [.int a0]) (s' := s) rfl ?_
  refine zIlt hf (tgt := 13) rfl (by decide) (fun hc hf => ?_) (fun hc hf => ?_)
  · refine zB zlokM 1 (pc' := 14) (ls' := [(0, .int a0), (1, .int a1)]) (st' := [.int 1]) (s' := s) rfl ?_
    refine zGoto (tgt := 18) rfl (by decide) ?_
    exact zRetZc hf (by decide) rfl rfl
  · refine zB zlokM 1 (pc' := 5) (ls' := [(0, .int a0), (1, .int a1)]) (st' := [.int a1]) (s' := s) rfl ?_
    refine zIlt hf (tgt := 13) rfl (by decide) (fun hc hf => ?_) (fun hc hf => ?_)
    · refine zB zlokM 1 (pc' := 14) (ls' := [(0, .int a0), (1, .int a1)]) (st' := [.int 1]) (s' := s) rfl ?_
      refine zGoto (tgt := 18) rfl (by decide) ?_
      exact zRetZc hf (by decide) rfl rfl
    · refine zB zlokM 2 (pc' := 10) (ls' := [(0, .int a0), (1, .int a1)]) (st' := [.int a1, .int a0]) (s' := s) rfl ?_
      refine zCne hf (tgt := 17) rfl (by decide) (fun hc hf => ?_) (fun hc hf => ?_)
      · refine zB zlokM 1 (pc' := 14) (ls' := [(0, .int a0), (1, .int a1)]) (st' := [.int 1]) (s' := s) rfl ?_
        refine zGoto (tgt := 18) rfl (by decide) ?_
        exact zRetZc hf (by decide) rfl rfl
      · refine zB zlokM 1 (pc' := 18) (ls' := [(0, .int a0), (1, .int a1)]) (st' := [.int 0]) (s' := s) rfl ?_
        exact zRetZc hf (by decide) rfl rfl
set_option maxRecDepth 20000 in
theorem k_m_passesBy (a0 : Int32) (a1 : Int32) (s : zSt) (r : Int32 × zSt) (hf : f_m_passesBy a0 a1 s = some r) : zKp zm_m_passesBy ΛM 1 [.ref 0, .int a0, .int a1] s (some (.int r.1), r.2) := by
  refine zKp_of zmk_m_passesBy rfl ?_
  show zWA _ _ _ _ _ [(0, .ref 0), (1, .int a0), (2, .int a1)] _ _
  refine zB zlokM 3 (pc' := 3) (ls' := [(0, .ref 0), (1, .int a0), (2, .int a1)]) (st' := [.int a1, .int a0, .ref 0]) (s' := s) rfl ?_
  refine zXI hf (As := [.int a0, .int a1]) (rest := []) 2 zmk_m_passesAt zok_m_passesAt zl_1251 rfl rfl rfl rfl rfl rfl rfl rfl (fun _ e => k_m_passesAt _ _ _ _ e) (fun x1 hf => ?_)
  refine zB zlokM 11 (pc' := 19) (ls' := [(0, .ref 0), (1, .int a0), (2, .int a1)]) (st' := [.int (((5 * (a0 + 1)) + a1) + 1), .ref 15, .int x1.1]) (s' := x1.2) rfl ?_
  refine zIald hf rfl (by rfl) (fun x2 hf => ?_)
  refine zB zlokM 1 (pc' := 21) (ls' := [(0, .ref 0), (1, .int a0), (2, .int a1)]) (st' := [.int (x1.1 + x2)]) (s' := x1.2) rfl ?_
  exact zRetI hf rfl rfl
set_option maxRecDepth 20000 in
theorem c_f_m_where_112 {r : Int32 × zSt} (k85 : Int32 → Int32 → Int32 → zSt → Option (Int32 × zSt)) (k97 : Int32 → Int32 → Int32 → Int32 → zSt → Option (Int32 × zSt)) (hk85 : ∀ (v1 : Int32) (v2 : Int32) (v4 : Int32) (s : zSt), k85 v1 v2 v4 s = some r → zWA zm_m_where ΛM 3 (some (.int r.1), r.2) 85 [(0, .ref 0), (1, .int v1), (2, .int v2), (4, .int v4)] [] s) (hk97 : ∀ (v1 : Int32) (v2 : Int32) (v4 : Int32) (v5 : Int32) (s : zSt), k97 v1 v2 v4 v5 s = some r → zWA zm_m_where ΛM 3 (some (.int r.1), r.2) 97 [(0, .ref 0), (1, .int v1), (2, .int v2), (4, .int v4), (5, .int v5)] [] s) : ∀ (n : Nat) (v1 : Int32) (v2 : Int32) (v4 : Int32) (v5 : Int32) (v6 : Int32) (v7 : Int32) (s : zSt), f_m_where_112 k85 k97 n v1 v2 v4 v5 v6 v7 s = some r → zWA zm_m_where ΛM 3 (some (.int r.1), r.2) 112 [(0, .ref 0), (1, .int v1), (2, .int v2), (4, .int v4), (5, .int v5), (6, .int v6), (7, .int v7)] [] s := by
  intro n
  induction n with
  | zero => intro v1 v2 v4 v5 v6 v7 s hf; cases hf
  | succ n ih =>
    intro v1 v2 v4 v5 v6 v7 s hf
    refine zB zlokM 3 (pc' := 118) (ls' := [(0, .ref 0), (1, .int v1), (2, .int v2), (4, .int v4), (5, .int v5), (6, .int v6), (7, .int v7)]) (st' := [.int (s.1 0 8), .int v7]) (s' := s) rfl ?_
    refine zCge hf (tgt := 167) rfl (by decide) (fun hc hf => ?_) (fun hc hf => ?_)
    · refine zB zlokM 10 (pc' := 182) (ls' := [(0, .ref 0), (1, .int v1), (2, .int v2), (4, .int v4), (5, .int v5), (6, .int v6), (7, .int v7)]) (st' := [.int v6, .int (((5 * v4) + v5) + 1), .ref 15]) (s' := s) rfl ?_
      refine zIast hf rfl (by rfl) (fun s8 hf => ?_)
      refine zB zlokM 1 (pc' := 186) (ls' := [(5, .int (v5 + 1)), (0, .ref 0), (1, .int v1), (2, .int v2), (4, .int v4), (6, .int v6), (7, .int v7)]) (st' := []) (s' := s8) rfl ?_
      refine zGoto (tgt := 97) rfl (by decide) ?_
      refine zLoc [1, 2, 3, 4, 0] rfl ?_
      exact hk97 _ _ _ _ _ hf
    · refine zB zlokM 2 (pc' := 125) (ls' := [(0, .ref 0), (1, .int v1), (2, .int v2), (4, .int v4), (5, .int v5), (6, .int v6), (7, .int v7)]) (st' := [.int v7, .int v5]) (s' := s) rfl ?_
      refine zSI hf (As := [.int v5, .int v7]) (rest := []) 2 zmk_m_mayFollow zok_m_mayFollow zl_1244 rfl rfl rfl rfl rfl (fun _ e => k_m_mayFollow _ _ _ _ e) (fun x9 hf => ?_)
      refine zIeq hf (tgt := 142) rfl (by decide) (fun hc hf => ?_) (fun hc hf => ?_)
      · refine zB zlokM 4 (pc' := 149) (ls' := [(8, .int 0), (0, .ref 0), (1, .int v1), (2, .int v2), (4, .int v4), (5, .int v5), (6, .int v6), (7, .int v7)]) (st' := [.int v6, .int 0]) (s' := x9.2) rfl ?_
        refine zCle hf (tgt := 157) rfl (by decide) (fun hc hf => ?_) (fun hc hf => ?_)
        · refine zB zlokM 3 (pc' := 164) (ls' := [(7, .int (v7 + 1)), (6, .int v6), (8, .int 0), (0, .ref 0), (1, .int v1), (2, .int v2), (4, .int v4), (5, .int v5)]) (st' := []) (s' := x9.2) rfl ?_
          refine zGoto (tgt := 112) rfl (by decide) ?_
          refine zLoc [3, 4, 5, 6, 7, 1, 0] rfl ?_
          exact ih _ _ _ _ _ _ _ hf
        · refine zB zlokM 1 (pc' := 154) (ls' := [(8, .int 0), (0, .ref 0), (1, .int v1), (2, .int v2), (4, .int v4), (5, .int v5), (6, .int v6), (7, .int v7)]) (st' := [.int 0]) (s' := x9.2) rfl ?_
          refine zGoto (tgt := 159) rfl (by decide) ?_
          refine zB zlokM 2 (pc' := 164) (ls' := [(7, .int (v7 + 1)), (6, .int 0), (8, .int 0), (0, .ref 0), (1, .int v1), (2, .int v2), (4, .int v4), (5, .int v5)]) (st' := []) (s' := x9.2) rfl ?_
          refine zGoto (tgt := 112) rfl (by decide) ?_
          refine zLoc [3, 4, 5, 6, 7, 1, 0] rfl ?_
          exact ih _ _ _ _ _ _ _ hf
      · refine zB zlokM 3 (pc' := 136) (ls' := [(0, .ref 0), (1, .int v1), (2, .int v2), (4, .int v4), (5, .int v5), (6, .int v6), (7, .int v7)]) (st' := [.int v7, .int v4, .ref 0]) (s' := x9.2) rfl ?_
        refine zXI hf (As := [.int v4, .int v7]) (rest := []) 2 zmk_m_passesBy zok_m_passesBy zl_1247 rfl rfl rfl rfl rfl rfl rfl rfl (fun _ e => k_m_passesBy _ _ _ _ e) (fun x10 hf => ?_)
        refine zGoto (tgt := 143) rfl (by decide) ?_
        refine zB zlokM 3 (pc' := 149) (ls' := [(8, .int x10.1), (0, .ref 0), (1, .int v1), (2, .int v2), (4, .int v4), (5, .int v5), (6, .int v6), (7, .int v7)]) (st' := [.int v6, .int x10.1]) (s' := x10.2) rfl ?_
        refine zCle hf (tgt := 157) rfl (by decide) (fun hc hf => ?_) (fun hc hf => ?_)
        · refine zB zlokM 3 (pc' := 164) (ls' := [(7, .int (v7 + 1)), (6, .int v6), (8, .int x10.1), (0, .ref 0), (1, .int v1), (2, .int v2), (4, .int v4), (5, .int v5)]) (st' := []) (s' := x10.2) rfl ?_
          refine zGoto (tgt := 112) rfl (by decide) ?_
          refine zLoc [3, 4, 5, 6, 7, 1, 0] rfl ?_
          exact ih _ _ _ _ _ _ _ hf
        · refine zB zlokM 1 (pc' := 154) (ls' := [(8, .int x10.1), (0, .ref 0), (1, .int v1), (2, .int v2), (4, .int v4), (5, .int v5), (6, .int v6), (7, .int v7)]) (st' := [.int x10.1]) (s' := x10.2) rfl ?_
          refine zGoto (tgt := 159) rfl (by decide) ?_
          refine zB zlokM 2 (pc' := 164) (ls' := [(7, .int (v7 + 1)), (6, .int x10.1), (8, .int x10.1), (0, .ref 0), (1, .int v1), (2, .int v2), (4, .int v4), (5, .int v5)]) (st' := []) (s' := x10.2) rfl ?_
          refine zGoto (tgt := 112) rfl (by decide) ?_
          refine zLoc [3, 4, 5, 6, 7, 1, 0] rfl ?_
          exact ih _ _ _ _ _ _ _ hf
set_option maxRecDepth 20000 in
theorem c_f_m_where_97 {r : Int32 × zSt} (k85 : Int32 → Int32 → Int32 → zSt → Option (Int32 × zSt)) (hk85 : ∀ (v1 : Int32) (v2 : Int32) (v4 : Int32) (s : zSt), k85 v1 v2 v4 s = some r → zWA zm_m_where ΛM 3 (some (.int r.1), r.2) 85 [(0, .ref 0), (1, .int v1), (2, .int v2), (4, .int v4)] [] s) : ∀ (n : Nat) (v1 : Int32) (v2 : Int32) (v4 : Int32) (v5 : Int32) (s : zSt), f_m_where_97 k85 n v1 v2 v4 v5 s = some r → zWA zm_m_where ΛM 3 (some (.int r.1), r.2) 97 [(0, .ref 0), (1, .int v1), (2, .int v2), (4, .int v4), (5, .int v5)] [] s := by
  intro n
  induction n with
  | zero => intro v1 v2 v4 v5 s hf; cases hf
  | succ n ih =>
    intro v1 v2 v4 v5 s hf
    refine zB zlokM 3 (pc' := 103) (ls' := [(0, .ref 0), (1, .int v1), (2, .int v2), (4, .int v4), (5, .int v5)]) (st' := [.int (s.1 0 8), .int v5]) (s' := s) rfl ?_
    refine zCge hf (tgt := 189) rfl (by decide) (fun hc hf => ?_) (fun hc hf => ?_)
    · refine zB zlokM 1 (pc' := 192) (ls' := [(4, .int (v4 + (-1))), (0, .ref 0), (1, .int v1), (2, .int v2), (5, .int v5)]) (st' := []) (s' := s) rfl ?_
      refine zGoto (tgt := 85) rfl (by decide) ?_
      refine zLoc [1, 2, 3, 0] rfl ?_
      exact hk85 _ _ _ _ hf
    · refine zB zlokM 4 (pc' := 112) (ls' := [(7, .int (-1)), (6, .int 0), (0, .ref 0), (1, .int v1), (2, .int v2), (4, .int v4), (5, .int v5)]) (st' := []) (s' := s) rfl ?_
      refine zLoc [2, 3, 4, 5, 6, 1, 0] rfl ?_
      exact c_f_m_where_112 _ _ hk85 ih zFu _ _ _ _ _ _ _ hf
set_option maxRecDepth 20000 in
theorem c_f_m_where_230 {r : Int32 × zSt} (k221 : Int32 → Int32 → Int32 → zSt → Option (Int32 × zSt)) (hk221 : ∀ (v2 : Int32) (v4 : Int32) (v5 : Int32) (s : zSt), k221 v2 v4 v5 s = some r → zWA zm_m_where ΛM 3 (some (.int r.1), r.2) 221 [(0, .ref 0), (2, .int v2), (4, .int v4), (5, .int v5)] [] s) : ∀ (n : Nat) (v2 : Int32) (v4 : Int32) (v5 : Int32) (v6 : Int32) (s : zSt), f_m_where_230 k221 n v2 v4 v5 v6 s = some r → zWA zm_m_where ΛM 3 (some (.int r.1), r.2) 230 [(0, .ref 0), (2, .int v2), (4, .int v4), (5, .int v5), (6, .int v6)] [] s := by
  intro n
  induction n with
  | zero => intro v2 v4 v5 v6 s hf; cases hf
  | succ n ih =>
    intro v2 v4 v5 v6 s hf
    refine zB zlokM 2 (pc' := 234) (ls' := [(0, .ref 0), (2, .int v2), (4, .int v4), (5, .int v5), (6, .int v6)]) (st' := [.int v6, .int v4]) (s' := s) rfl ?_
    refine zSI hf (As := [.int v4, .int v6]) (rest := []) 2 zmk_m_mayFollow zok_m_mayFollow zl_1244 rfl rfl rfl rfl rfl (fun _ e => k_m_mayFollow _ _ _ _ e) (fun x5 hf => ?_)
    refine zIeq hf (tgt := 265) rfl (by decide) (fun hc hf => ?_) (fun hc hf => ?_)
    · refine zB zlokM 1 (pc' := 268) (ls' := [(6, .int (v6 + 1)), (0, .ref 0), (2, .int v2), (4, .int v4), (5, .int v5)]) (st' := []) (s' := x5.2) rfl ?_
      refine zGoto (tgt := 230) rfl (by decide) ?_
      refine zLoc [1, 2, 3, 4, 0] rfl ?_
      exact ih _ _ _ _ _ hf
    · refine zB zlokM 3 (pc' := 245) (ls' := [(0, .ref 0), (2, .int v2), (4, .int v4), (5, .int v5), (6, .int v6)]) (st' := [.int v6, .int v5, .ref 0]) (s' := x5.2) rfl ?_
      refine zXI hf (As := [.int v5, .int v6]) (rest := []) 2 zmk_m_passesBy zok_m_passesBy zl_1247 rfl rfl rfl rfl rfl rfl rfl rfl (fun _ e => k_m_passesBy _ _ _ _ e) (fun x6 hf => ?_)
      refine zB zlokM 9 (pc' := 261) (ls' := [(0, .ref 0), (2, .int v2), (4, .int v4), (5, .int v5), (6, .int v6)]) (st' := [.int (((5 * v5) + v4) + 1), .ref 15, .int x6.1]) (s' := x6.2) rfl ?_
      refine zIald hf rfl (by rfl) (fun x7 hf => ?_)
      refine zCeq hf (tgt := 271) rfl (by decide) (fun hc hf => ?_) (fun hc hf => ?_)
      · refine zB zlokM 3 (pc' := 278) (ls' := [(5, .int (v5 + 1)), (4, .int v6), (0, .ref 0), (2, .int v2), (6, .int v6)]) (st' := []) (s' := x6.2) rfl ?_
        refine zGoto (tgt := 221) rfl (by decide) ?_
        refine zLoc [2, 3, 1, 0] rfl ?_
        exact hk221 _ _ _ _ hf
      · refine zB zlokM 1 (pc' := 268) (ls' := [(6, .int (v6 + 1)), (0, .ref 0), (2, .int v2), (4, .int v4), (5, .int v5)]) (st' := []) (s' := x6.2) rfl ?_
        refine zGoto (tgt := 230) rfl (by decide) ?_
        refine zLoc [1, 2, 3, 4, 0] rfl ?_
        exact ih _ _ _ _ _ hf
set_option maxRecDepth 20000 in
theorem c_f_m_where_221 {r : Int32 × zSt} : ∀ (n : Nat) (v2 : Int32) (v4 : Int32) (v5 : Int32) (s : zSt), f_m_where_221 n v2 v4 v5 s = some r → zWA zm_m_where ΛM 3 (some (.int r.1), r.2) 221 [(0, .ref 0), (2, .int v2), (4, .int v4), (5, .int v5)] [] s := by
  intro n
  induction n with
  | zero => intro v2 v4 v5 s hf; cases hf
  | succ n ih =>
    intro v2 v4 v5 s hf
    refine zB zlokM 2 (pc' := 224) (ls' := [(0, .ref 0), (2, .int v2), (4, .int v4), (5, .int v5)]) (st' := [.int v2, .int v5]) (s' := s) rfl ?_
    refine zCgt hf (tgt := 281) rfl (by decide) (fun hc hf => ?_) (fun hc hf => ?_)
    · refine zB zlokM 1 (pc' := 283) (ls' := [(0, .ref 0), (2, .int v2), (4, .int v4), (5, .int v5)]) (st' := [.int v4]) (s' := s) rfl ?_
      exact zRetI hf rfl rfl
    · refine zB zlokM 2 (pc' := 230) (ls' := [(6, .int (-1)), (0, .ref 0), (2, .int v2), (4, .int v4), (5, .int v5)]) (st' := []) (s' := s) rfl ?_
      refine zLoc [1, 2, 3, 4, 0] rfl ?_
      exact c_f_m_where_230 _ ih zFu _ _ _ _ _ hf
set_option maxRecDepth 20000 in
theorem c_f_m_where_85 {r : Int32 × zSt} : ∀ (n : Nat) (v1 : Int32) (v2 : Int32) (v4 : Int32) (s : zSt), f_m_where_85 n v1 v2 v4 s = some r → zWA zm_m_where ΛM 3 (some (.int r.1), r.2) 85 [(0, .ref 0), (1, .int v1), (2, .int v2), (4, .int v4)] [] s := by
  intro n
  induction n with
  | zero => intro v1 v2 v4 s hf; cases hf
  | succ n ih =>
    intro v1 v2 v4 s hf
    refine zB zlokM 4 (pc' := 91) (ls' := [(0, .ref 0), (1, .int v1), (2, .int v2), (4, .int v4)]) (st' := [.int (v1 / 100), .int v4]) (s' := s) rfl ?_
    refine zClt hf (tgt := 195) rfl (by decide) (fun hc hf => ?_) (fun hc hf => ?_)
    · refine zB zlokM 2 (pc' := 197) (ls' := [(0, .ref 0), (1, .int v1), (2, .int v2), (4, .int v4)]) (st' := [.int (-1), .int v2]) (s' := s) rfl ?_
      refine zCne hf (tgt := 212) rfl (by decide) (fun hc hf => ?_) (fun hc hf => ?_)
      · refine zB zlokM 7 (pc' := 210) (ls' := [(0, .ref 0), (1, .int v1), (2, .int v2), (4, .int v4)]) (st' := [.int (5 * (v1 / 100)), .ref 15]) (s' := s) rfl ?_
        refine zIald hf rfl (by rfl) (fun x4 hf => ?_)
        exact zRetI hf rfl rfl
      · refine zB zlokM 6 (pc' := 221) (ls' := [(5, .int (v1 / 100)), (4, .int (-1)), (0, .ref 0), (1, .int v1), (2, .int v2)]) (st' := []) (s' := s) rfl ?_
        refine zLoc [2, 4, 1, 0] rfl ?_
        exact c_f_m_where_221 zFu _ _ _ _ hf
    · refine zB zlokM 2 (pc' := 97) (ls' := [(5, .int (-1)), (0, .ref 0), (1, .int v1), (2, .int v2), (4, .int v4)]) (st' := []) (s' := s) rfl ?_
      refine zLoc [1, 2, 3, 4, 0] rfl ?_
      exact c_f_m_where_97 _ ih zFu _ _ _ _ _ hf
set_option maxRecDepth 20000 in
theorem c_f_m_where_51 {r : Int32 × zSt} : ∀ (n : Nat) (v1 : Int32) (v2 : Int32) (v3 : Int32) (v4 : Int32) (s : zSt), f_m_where_51 n v1 v2 v3 v4 s = some r → zWA zm_m_where ΛM 3 (some (.int r.1), r.2) 51 [(0, .ref 0), (1, .int v1), (2, .int v2), (3, .int v3), (4, .int v4)] [] s := by
  intro n
  induction n with
  | zero => intro v1 v2 v3 v4 s hf; cases hf
  | succ n ih =>
    intro v1 v2 v3 v4 s hf
    refine zB zlokM 3 (pc' := 57) (ls' := [(0, .ref 0), (1, .int v1), (2, .int v2), (3, .int v3), (4, .int v4)]) (st' := [.int (s.1 0 8), .int v4]) (s' := s) rfl ?_
    refine zCge hf (tgt := 82) rfl (by decide) (fun hc hf => ?_) (fun hc hf => ?_)
    · refine zB zlokM 2 (pc' := 85) (ls' := [(4, .int v3), (0, .ref 0), (1, .int v1), (2, .int v2), (3, .int v3)]) (st' := []) (s' := s) rfl ?_
      refine zLoc [1, 2, 3, 0] rfl ?_
      exact c_f_m_where_85 zFu _ _ _ _ hf
    · refine zB zlokM 12 (pc' := 75) (ls' := [(0, .ref 0), (1, .int v1), (2, .int v2), (3, .int v3), (4, .int v4)]) (st' := [.int 0, .int (((5 * (v3 + 1)) + v4) + 1), .ref 15]) (s' := s) rfl ?_
      refine zIast hf rfl (by rfl) (fun s3 hf => ?_)
      refine zB zlokM 1 (pc' := 79) (ls' := [(4, .int (v4 + 1)), (0, .ref 0), (1, .int v1), (2, .int v2), (3, .int v3)]) (st' := []) (s' := s3) rfl ?_
      refine zGoto (tgt := 51) rfl (by decide) ?_
      refine zLoc [1, 2, 3, 4, 0] rfl ?_
      exact ih _ _ _ _ _ hf
set_option maxRecDepth 20000 in
theorem c_f_m_where_33 {r : Int32 × zSt} : ∀ (v1 : Int32) (v2 : Int32) (s : zSt), f_m_where_33 v1 v2 s = some r → zWA zm_m_where ΛM 3 (some (.int r.1), r.2) 33 [(0, .ref 0), (1, .int v1), (2, .int v2)] [] s := by
  intro v1 v2 s hf
  refine zB zlokM 2 (pc' := 37) (ls' := [(0, .ref 0), (1, .int v1), (2, .int v2)]) (st' := [.int (s.1 0 8)]) (s' := s) rfl ?_
  refine zIne hf (tgt := 43) rfl (by decide) (fun hc hf => ?_) (fun hc hf => ?_)
  · refine zB zlokM 1 (pc' := 42) (ls' := [(0, .ref 0), (1, .int v1), (2, .int v2)]) (st' := [.int (-5)]) (s' := s) rfl ?_
    exact zRetI hf rfl rfl
  · refine zB zlokM 6 (pc' := 51) (ls' := [(4, .int (-1)), (3, .int (zrem v1 100)), (0, .ref 0), (1, .int v1), (2, .int v2)]) (st' := []) (s' := s) rfl ?_
    refine zLoc [2, 3, 4, 1, 0] rfl ?_
    exact c_f_m_where_51 zFu _ _ _ _ _ hf
set_option maxRecDepth 20000 in
theorem k_m_where (a0 : Int32) (a1 : Int32) (s : zSt) (r : Int32 × zSt) (hf : f_m_where a0 a1 s = some r) : zKp zm_m_where ΛM 3 [.ref 0, .int a0, .int a1] s (some (.int r.1), r.2) := by
  refine zKp_of zmk_m_where rfl ?_
  show zWA _ _ _ _ _ [(0, .ref 0), (1, .int a0), (2, .int a1)] _ _
  refine zB zlokM 1 (pc' := 1) (ls' := [(0, .ref 0), (1, .int a0), (2, .int a1)]) (st' := [.int a0]) (s' := s) rfl ?_
  refine zSI hf (As := [.int a0]) (rest := []) 1 zmk_m_isFt zok_m_isFt zl_1097 rfl rfl rfl rfl rfl (fun _ e => k_m_isFt _ _ _ e) (fun x1 hf => ?_)
  refine zIeq hf (tgt := 30) rfl (by decide) (fun hc hf => ?_) (fun hc hf => ?_)
  · refine zB zlokM 1 (pc' := 32) (ls' := [(0, .ref 0), (1, .int a0), (2, .int a1)]) (st' := [.int (-2000000000)]) (s' := x1.2) rfl ?_
    exact zRetI hf rfl rfl
  · refine zB zlokM 2 (pc' := 9) (ls' := [(0, .ref 0), (1, .int a0), (2, .int a1)]) (st' := [.int (-1), .int a1]) (s' := x1.2) rfl ?_
    refine zCeq hf (tgt := 33) rfl (by decide) (fun hc hf => ?_) (fun hc hf => ?_)
    · refine zLoc [0, 1, 2] rfl ?_
      exact c_f_m_where_33 _ _ _ hf
    · refine zB zlokM 10 (pc' := 24) (ls' := [(0, .ref 0), (1, .int a0), (2, .int a1)]) (st' := [.long ((zrem a0 100) : Int32).toInt64, .long ((a0 / 100) : Int32).toInt64, .long (a1 : Int32).toInt64]) (s' := x1.2) rfl ?_
      refine zSI hf (As := [.long (a1 : Int32).toInt64, .long ((a0 / 100) : Int32).toInt64, .long ((zrem a0 100) : Int32).toInt64]) (rest := []) 3 zmk_m_within zok_m_within zl_1072 rfl rfl rfl rfl rfl (fun _ e => k_m_within _ _ _ _ _ e) (fun x2 hf => ?_)
      refine zIne hf (tgt := 33) rfl (by decide) (fun hc hf => ?_) (fun hc hf => ?_)
      · refine zB zlokM 1 (pc' := 32) (ls' := [(0, .ref 0), (1, .int a0), (2, .int a1)]) (st' := [.int (-2000000000)]) (s' := x2.2) rfl ?_
        exact zRetI hf rfl rfl
      · refine zLoc [0, 1, 2] rfl ?_
        exact c_f_m_where_33 _ _ _ hf
set_option maxRecDepth 20000 in
theorem k_m_dayIs (a0 : Int32) (s : zSt) (r : Int32 × zSt) (hf : f_m_dayIs a0 s = some r) : zKp zm_m_dayIs ΛM 2 [.ref 0, .int a0] s (some (.int r.1), r.2) := by
  refine zKp_of zmk_m_dayIs rfl ?_
  show zWA _ _ _ _ _ [(0, .ref 0), (1, .int a0)] _ _
  refine zB zlokM 1 (pc' := 1) (ls' := [(0, .ref 0), (1, .int a0)]) (st' := [.int a0]) (s' := s) rfl ?_
  refine zSI hf (As := [.int a0]) (rest := []) 1 zmk_m_isShelf zok_m_isShelf zl_1080 rfl rfl rfl rfl rfl (fun _ e => k_m_isShelf _ _ _ e) (fun x1 hf => ?_)
  refine zIne hf (tgt := 11) rfl (by decide) (fun hc hf => ?_) (fun hc hf => ?_)
  · refine zB zlokM 1 (pc' := 8) (ls' := [(0, .ref 0), (1, .int a0)]) (st' := [.int (-1)]) (s' := x1.2) rfl ?_
    refine zGoto (tgt := 42) rfl (by decide) ?_
    exact zRetI hf rfl rfl
  · refine zB zlokM 3 (pc' := 16) (ls' := [(0, .ref 0), (1, .int a0)]) (st' := [.int a0, .ref 26]) (s' := x1.2) rfl ?_
    refine zIald hf rfl (by rfl) (fun x2 hf => ?_)
    refine zIge hf (tgt := 25) rfl (by decide) (fun hc hf => ?_) (fun hc hf => ?_)
    · refine zB zlokM 3 (pc' := 30) (ls' := [(0, .ref 0), (1, .int a0)]) (st' := [.int a0, .ref 26]) (s' := x1.2) rfl ?_
      refine zIald hf rfl (by rfl) (fun x3 hf => ?_)
      refine zB zlokM 1 (pc' := 33) (ls' := [(0, .ref 0), (1, .int a0)]) (st' := [.int 51, .int x3]) (s' := x1.2) rfl ?_
      refine zCne hf (tgt := 40) rfl (by decide) (fun hc hf => ?_) (fun hc hf => ?_)
      · refine zB zlokM 1 (pc' := 37) (ls' := [(0, .ref 0), (1, .int a0)]) (st' := [.int 1]) (s' := x1.2) rfl ?_
        refine zGoto (tgt := 42) rfl (by decide) ?_
        exact zRetI hf rfl rfl
      · refine zB zlokM 1 (pc' := 42) (ls' := [(0, .ref 0), (1, .int a0)]) (st' := [.int (-12)]) (s' := x1.2) rfl ?_
        exact zRetI hf rfl rfl
    · refine zB zlokM 1 (pc' := 22) (ls' := [(0, .ref 0), (1, .int a0)]) (st' := [.int (-11)]) (s' := x1.2) rfl ?_
      refine zGoto (tgt := 42) rfl (by decide) ?_
      exact zRetI hf rfl rfl
set_option maxRecDepth 20000 in
theorem c_f_m_firstFalse_8 {r : Int32 × zSt} : ∀ (n : Nat) (v1 : Int32) (v3 : Int32) (s : zSt), f_m_firstFalse_8 n v1 v3 s = some r → zWA zm_m_firstFalse ΛM 85 (some (.int r.1), r.2) 8 [(0, .ref 0), (1, .int v1), (3, .int v3)] [] s := by
  intro n
  induction n with
  | zero => intro v1 v3 s hf; cases hf
  | succ n ih =>
    intro v1 v3 s hf
    refine zB zlokM 4 (pc' := 14) (ls' := [(0, .ref 0), (1, .int v1), (3, .int v3)]) (st' := [.int v1, .ref 27, .int v3]) (s' := s) rfl ?_
    refine zIald hf rfl (by rfl) (fun x2 hf => ?_)
    refine zCge hf (tgt := 54) rfl (by decide) (fun hc hf => ?_) (fun hc hf => ?_)
    · refine zB zlokM 1 (pc' := 56) (ls' := [(0, .ref 0), (1, .int v1), (3, .int v3)]) (st' := [.int (-2)]) (s' := s) rfl ?_
      exact zRetI hf rfl rfl
    · refine zB zlokM 2 (pc' := 21) (ls' := [(0, .ref 0), (1, .int v1), (3, .int v3)]) (st' := [.int 32, .int v3]) (s' := s) rfl ?_
      refine zCge hf (tgt := 54) rfl (by decide) (fun hc hf => ?_) (fun hc hf => ?_)
      · refine zB zlokM 1 (pc' := 56) (ls' := [(0, .ref 0), (1, .int v1), (3, .int v3)]) (st' := [.int (-2)]) (s' := s) rfl ?_
        exact zRetI hf rfl rfl
      · refine zB zlokM 7 (pc' := 34) (ls' := [(0, .ref 0), (1, .int v1), (3, .int v3)]) (st' := [.int ((60 * v1) + v3), .ref 28]) (s' := s) rfl ?_
        refine zLald hf rfl (by rfl) (fun x3 hf => ?_)
        refine zB zlokM 3 (pc' := 40) (ls' := [(0, .ref 0), (1, .int v1), (3, .int v3)]) (st' := [.int v3, .ref 12, .long x3]) (s' := s) rfl ?_
        refine zIald hf rfl (by rfl) (fun x4 hf => ?_)
        refine zB zlokM 2 (pc' := 43) (ls' := [(0, .ref 0), (1, .int v1), (3, .int v3)]) (st' := [.int (lg_cmp x3 (x4 : Int32).toInt64)]) (s' := s) rfl ?_
        refine zIeq hf (tgt := 48) rfl (by decide) (fun hc hf => ?_) (fun hc hf => ?_)
        · refine zB zlokM 1 (pc' := 51) (ls' := [(3, .int (v3 + 1)), (0, .ref 0), (1, .int v1)]) (st' := []) (s' := s) rfl ?_
          refine zGoto (tgt := 8) rfl (by decide) ?_
          refine zLoc [1, 2, 0] rfl ?_
          exact ih _ _ _ hf
        · refine zB zlokM 1 (pc' := 47) (ls' := [(0, .ref 0), (1, .int v1), (3, .int v3)]) (st' := [.int v3]) (s' := s) rfl ?_
          exact zRetI hf rfl rfl
set_option maxRecDepth 20000 in
theorem k_m_firstFalse (a0 : Int32) (a1 : Int32) (s : zSt) (r : Int32 × zSt) (hf : f_m_firstFalse a0 a1 s = some r) : zKp zm_m_firstFalse ΛM 85 [.ref 0, .int a0, .int a1] s (some (.int r.1), r.2) := by
  refine zKp_of zmk_m_firstFalse rfl ?_
  show zWA _ _ _ _ _ [(0, .ref 0), (1, .int a0), (2, .int a1)] _ _
  refine zB zlokM 2 (pc' := 2) (ls' := [(0, .ref 0), (1, .int a0), (2, .int a1)]) (st' := [.int a1, .ref 0]) (s' := s) rfl ?_
  refine zXI hf (As := [.int a1]) (rest := []) 1 zmk_m_dayGoes zok_m_dayGoes zl_1207 rfl rfl rfl rfl rfl rfl rfl rfl (fun _ e => k_m_dayGoes _ _ _ e) (fun x1 hf => ?_)
  refine zB zlokM 3 (pc' := 8) (ls' := [(3, .int 0), (0, .ref 0), (1, .int a0), (2, .int a1)]) (st' := []) (s' := x1.2) rfl ?_
  refine zLoc [1, 2, 0] rfl ?_
  exact c_f_m_firstFalse_8 zFu _ _ _ hf
set_option maxRecDepth 20000 in
theorem k_m_judge (a0 : Int32) (a1 : Int32) (s : zSt) (r : Int32 × zSt) (hf : f_m_judge a0 a1 s = some r) : zKp zm_m_judge ΛM 86 [.ref 0, .int a0, .int a1] s (some (.int r.1), r.2) := by
  refine zKp_of zmk_m_judge rfl ?_
  show zWA _ _ _ _ _ [(0, .ref 0), (1, .int a0), (2, .int a1)] _ _
  refine zB zlokM 2 (pc' := 2) (ls' := [(0, .ref 0), (1, .int a0), (2, .int a1)]) (st' := [.int a0, .ref 0]) (s' := s) rfl ?_
  refine zXI hf (As := [.int a0]) (rest := []) 1 zmk_m_dayIs zok_m_dayIs zl_1259 rfl rfl rfl rfl rfl rfl rfl rfl (fun _ e => k_m_dayIs _ _ _ e) (fun x1 hf => ?_)
  refine zIge hf (tgt := 16) rfl (by decide) (fun hc hf => ?_) (fun hc hf => ?_)
  · refine zB zlokM 3 (pc' := 19) (ls' := [(0, .ref 0), (1, .int a0), (2, .int a1)]) (st' := [.int a1, .int a0, .ref 0]) (s' := x1.2) rfl ?_
    refine zXI hf (As := [.int a0, .int a1]) (rest := []) 2 zmk_m_firstFalse zok_m_firstFalse zl_1263 rfl rfl rfl rfl rfl rfl rfl rfl (fun _ e => k_m_firstFalse _ _ _ _ e) (fun x2 hf => ?_)
    exact zRetI hf rfl rfl
  · refine zB zlokM 2 (pc' := 10) (ls' := [(0, .ref 0), (1, .int a0), (2, .int a1)]) (st' := [.int a0, .ref 0]) (s' := x1.2) rfl ?_
    refine zXI hf (As := [.int a0]) (rest := []) 1 zmk_m_dayIs zok_m_dayIs zl_1259 rfl rfl rfl rfl rfl rfl rfl rfl (fun _ e => k_m_dayIs _ _ _ e) (fun x3 hf => ?_)
    refine zGoto (tgt := 22) rfl (by decide) ?_
    exact zRetI hf rfl rfl
set_option maxRecDepth 20000 in
theorem c_f_m_seeded_16 {r : Int32 × zSt} : ∀ (n : Nat) (v1 : Int32) (v2 : Int32) (s : zSt), f_m_seeded_16 n v1 v2 s = some r → zWA zm_m_seeded ΛM 86 (some (.int r.1), r.2) 16 [(0, .ref 0), (1, .int v1), (2, .int v2)] [] s := by
  intro n
  induction n with
  | zero => intro v1 v2 s hf; cases hf
  | succ n ih =>
    intro v1 v2 s hf
    refine zB zlokM 2 (pc' := 19) (ls' := [(0, .ref 0), (1, .int v1), (2, .int v2)]) (st' := [.int 100, .int v2]) (s' := s) rfl ?_
    refine zCge hf (tgt := 41) rfl (by decide) (fun hc hf => ?_) (fun hc hf => ?_)
    · refine zB zlokM 1 (pc' := 43) (ls' := [(0, .ref 0), (1, .int v1), (2, .int v2)]) (st' := [.int (-2)]) (s' := s) rfl ?_
      exact zRetI hf rfl rfl
    · refine zB zlokM 3 (pc' := 25) (ls' := [(0, .ref 0), (1, .int v1), (2, .int v2)]) (st' := [.int v2, .int v1, .ref 0]) (s' := s) rfl ?_
      refine zXI hf (As := [.int v1, .int v2]) (rest := []) 2 zmk_m_firstFalse zok_m_firstFalse zl_1263 rfl rfl rfl rfl rfl rfl rfl rfl (fun _ e => k_m_firstFalse _ _ _ _ e) (fun x3 hf => ?_)
      refine zB zlokM 1 (pc' := 30) (ls' := [(0, .ref 0), (1, .int v1), (2, .int v2)]) (st' := [.int (-2), .int x3.1]) (s' := x3.2) rfl ?_
      refine zCne hf (tgt := 35) rfl (by decide) (fun hc hf => ?_) (fun hc hf => ?_)
      · refine zB zlokM 1 (pc' := 34) (ls' := [(0, .ref 0), (1, .int v1), (2, .int v2)]) (st' := [.int v2]) (s' := x3.2) rfl ?_
        exact zRetI hf rfl rfl
      · refine zB zlokM 1 (pc' := 38) (ls' := [(2, .int (v2 + 1)), (0, .ref 0), (1, .int v1)]) (st' := []) (s' := x3.2) rfl ?_
        refine zGoto (tgt := 16) rfl (by decide) ?_
        refine zLoc [1, 2, 0] rfl ?_
        exact ih _ _ _ hf
set_option maxRecDepth 20000 in
theorem k_m_seeded (a0 : Int32) (s : zSt) (r : Int32 × zSt) (hf : f_m_seeded a0 s = some r) : zKp zm_m_seeded ΛM 86 [.ref 0, .int a0] s (some (.int r.1), r.2) := by
  refine zKp_of zmk_m_seeded rfl ?_
  show zWA _ _ _ _ _ [(0, .ref 0), (1, .int a0)] _ _
  refine zB zlokM 2 (pc' := 2) (ls' := [(0, .ref 0), (1, .int a0)]) (st' := [.int a0, .ref 0]) (s' := s) rfl ?_
  refine zXI hf (As := [.int a0]) (rest := []) 1 zmk_m_dayIs zok_m_dayIs zl_1259 rfl rfl rfl rfl rfl rfl rfl rfl (fun _ e => k_m_dayIs _ _ _ e) (fun x1 hf => ?_)
  refine zIge hf (tgt := 14) rfl (by decide) (fun hc hf => ?_) (fun hc hf => ?_)
  · refine zB zlokM 2 (pc' := 16) (ls' := [(2, .int 0), (0, .ref 0), (1, .int a0)]) (st' := []) (s' := x1.2) rfl ?_
    refine zLoc [1, 2, 0] rfl ?_
    exact c_f_m_seeded_16 zFu _ _ _ hf
  · refine zB zlokM 2 (pc' := 10) (ls' := [(0, .ref 0), (1, .int a0)]) (st' := [.int a0, .ref 0]) (s' := x1.2) rfl ?_
    refine zXI hf (As := [.int a0]) (rest := []) 1 zmk_m_dayIs zok_m_dayIs zl_1259 rfl rfl rfl rfl rfl rfl rfl rfl (fun _ e => k_m_dayIs _ _ _ e) (fun x2 hf => ?_)
    exact zRetI hf rfl rfl
set_option maxRecDepth 20000 in
theorem c_f_m_common_17 {r : Int64 × zSt} : ∀ (n : Nat) (v4 : Int64) (v6 : Int64) (s : zSt), f_m_common_17 n v4 v6 s = some r → zWA zm_m_common ΛM 0 (some (.long r.1), r.2) 17 [(4, .long v4), (6, .long v6)] [] s := by
  intro n
  induction n with
  | zero => intro v4 v6 s hf; cases hf
  | succ n ih =>
    intro v4 v6 s hf
    refine zB zlokM 3 (pc' := 21) (ls' := [(4, .long v4), (6, .long v6)]) (st' := [.int (lg_cmp v6 0)]) (s' := s) rfl ?_
    refine zIeq hf (tgt := 42) rfl (by decide) (fun hc hf => ?_) (fun hc hf => ?_)
    · refine zB zlokM 1 (pc' := 44) (ls' := [(4, .long v4), (6, .long v6)]) (st' := [.long v4]) (s' := s) rfl ?_
      exact zRetL hf rfl rfl
    · refine zB zlokM 2 (pc' := 28) (ls' := [(4, .long v4), (6, .long v6)]) (st' := [.long v6, .long v4]) (s' := s) rfl ?_
      refine zRemL hf rfl (fun x1 hf => ?_)
      refine zB zlokM 5 (pc' := 39) (ls' := [(6, .long x1), (4, .long v6), (8, .long x1)]) (st' := []) (s' := s) rfl ?_
      refine zGoto (tgt := 17) rfl (by decide) ?_
      refine zLoc [1, 0] rfl ?_
      exact ih _ _ _ hf
set_option maxRecDepth 20000 in
theorem k_m_common (a0 : Int64) (a1 : Int64) (s : zSt) (r : Int64 × zSt) (hf : f_m_common a0 a1 s = some r) : zKp zm_m_common ΛM 0 [.long a0, .long a1] s (some (.long r.1), r.2) := by
  refine zKp_of zmk_m_common rfl ?_
  show zWA _ _ _ _ _ [(0, .long a0), (2, .long a1)] _ _
  refine zB zlokM 3 (pc' := 3) (ls' := [(0, .long a0), (2, .long a1)]) (st' := [.int (lg_cmp a0 0)]) (s' := s) rfl ?_
  refine zIge hf (tgt := 11) rfl (by decide) (fun hc hf => ?_) (fun hc hf => ?_)
  · refine zB zlokM 4 (pc' := 17) (ls' := [(6, .long a1), (4, .long a0), (0, .long a0), (2, .long a1)]) (st' := []) (s' := s) rfl ?_
    refine zLoc [1, 0] rfl ?_
    exact c_f_m_common_17 zFu _ _ _ hf
  · refine zB zlokM 2 (pc' := 8) (ls' := [(0, .long a0), (2, .long a1)]) (st' := [.long (-a0)]) (s' := s) rfl ?_
    refine zGoto (tgt := 12) rfl (by decide) ?_
    refine zB zlokM 3 (pc' := 17) (ls' := [(6, .long a1), (4, .long (-a0)), (0, .long a0), (2, .long a1)]) (st' := []) (s' := s) rfl ?_
    refine zLoc [1, 0] rfl ?_
    exact c_f_m_common_17 zFu _ _ _ hf
set_option maxRecDepth 20000 in
theorem k_m_partOf (a0 : Int64) (a1 : Int64) (a2 : Int32) (s : zSt) (r : Int64 × zSt) (hf : f_m_partOf a0 a1 a2 s = some r) : zKp zm_m_partOf ΛM 1 [.long a0, .long a1, .int a2] s (some (.long r.1), r.2) := by
  refine zKp_of zmk_m_partOf rfl ?_
  show zWA _ _ _ _ _ [(0, .long a0), (2, .long a1), (4, .int a2)] _ _
  refine zB zlokM 3 (pc' := 3) (ls' := [(0, .long a0), (2, .long a1), (4, .int a2)]) (st' := [.int (lg_cmp a0 0)]) (s' := s) rfl ?_
  refine zIne hf (tgt := 10) rfl (by decide) (fun hc hf => ?_) (fun hc hf => ?_)
  · refine zB zlokM 2 (pc' := 9) (ls' := [(0, .long a0), (2, .long a1), (4, .int a2)]) (st' := [.long (a2 : Int32).toInt64]) (s' := s) rfl ?_
    exact zRetL hf rfl rfl
  · refine zB zlokM 2 (pc' := 12) (ls' := [(0, .long a0), (2, .long a1), (4, .int a2)]) (st' := [.long a1, .long a0]) (s' := s) rfl ?_
    refine zSL hf (As := [.long a0, .long a1]) (rest := []) 2 zmk_m_common zok_m_common zl_1281 rfl rfl rfl rfl rfl (fun _ e => k_m_common _ _ _ _ e) (fun x1 hf => ?_)
    refine zB zlokM 2 (pc' := 19) (ls' := [(5, .long x1.1), (0, .long a0), (2, .long a1), (4, .int a2)]) (st' := [.int a2]) (s' := x1.2) rfl ?_
    refine zIne hf (tgt := 29) rfl (by decide) (fun hc hf => ?_) (fun hc hf => ?_)
    · refine zB zlokM 2 (pc' := 25) (ls' := [(5, .long x1.1), (0, .long a0), (2, .long a1), (4, .int a2)]) (st' := [.long x1.1, .long a0]) (s' := x1.2) rfl ?_
      refine zDivL hf rfl (fun x2 hf => ?_)
      refine zGoto (tgt := 33) rfl (by decide) ?_
      exact zRetL hf rfl rfl
    · refine zB zlokM 2 (pc' := 32) (ls' := [(5, .long x1.1), (0, .long a0), (2, .long a1), (4, .int a2)]) (st' := [.long x1.1, .long a1]) (s' := x1.2) rfl ?_
      refine zDivL hf rfl (fun x3 hf => ?_)
      exact zRetL hf rfl rfl
set_option maxRecDepth 20000 in
theorem c_f_m_make_120 {r : Int64 × zSt} (k99 : Int32 → Int32 → Int32 → Int32 → Int64 → Int32 → zSt → Option (Int64 × zSt)) (hk99 : ∀ (v2 : Int32) (v3 : Int32) (v4 : Int32) (v5 : Int32) (v6 : Int64) (v8 : Int32) (s : zSt), k99 v2 v3 v4 v5 v6 v8 s = some r → zWA zm_m_make ΛM 2 (some (.long r.1), r.2) 99 [(0, .ref 0), (2, .int v2), (3, .int v3), (4, .int v4), (5, .int v5), (6, .long v6), (8, .int v8)] [] s) : ∀ (n : Nat) (v2 : Int32) (v3 : Int32) (v4 : Int32) (v5 : Int32) (v6 : Int64) (v8 : Int32) (v9 : Int32) (s : zSt), f_m_make_120 k99 n v2 v3 v4 v5 v6 v8 v9 s = some r → zWA zm_m_make ΛM 2 (some (.long r.1), r.2) 120 [(0, .ref 0), (2, .int v2), (3, .int v3), (4, .int v4), (5, .int v5), (6, .long v6), (8, .int v8), (9, .int v9)] [] s := by
  intro n
  induction n with
  | zero => intro v2 v3 v4 v5 v6 v8 v9 s hf; cases hf
  | succ n ih =>
    intro v2 v3 v4 v5 v6 v8 v9 s hf
    refine zB zlokM 1 (pc' := 122) (ls' := [(0, .ref 0), (2, .int v2), (3, .int v3), (4, .int v4), (5, .int v5), (6, .long v6), (8, .int v8), (9, .int v9)]) (st' := [.int v9]) (s' := s) rfl ?_
    refine zIlt hf (tgt := 175) rfl (by decide) (fun hc hf => ?_) (fun hc hf => ?_)
    · refine zB zlokM 1 (pc' := 178) (ls' := [(8, .int (v8 + 1)), (0, .ref 0), (2, .int v2), (3, .int v3), (4, .int v4), (5, .int v5), (6, .long v6), (9, .int v9)]) (st' := []) (s' := s) rfl ?_
      refine zGoto (tgt := 99) rfl (by decide) ?_
      refine zLoc [1, 2, 3, 4, 5, 6, 0] rfl ?_
      exact hk99 _ _ _ _ _ _ _ hf
    · refine zB zlokM 6 (pc' := 137) (ls' := [(0, .ref 0), (2, .int v2), (3, .int v3), (4, .int v4), (5, .int v5), (6, .long v6), (8, .int v8), (9, .int v9)]) (st' := [.int v9, .ref 16, .int v9, .ref 16]) (s' := s) rfl ?_
      refine zLald hf rfl (by rfl) (fun x6 hf => ?_)
      refine zB zlokM 6 (pc' := 147) (ls' := [(0, .ref 0), (2, .int v2), (3, .int v3), (4, .int v4), (5, .int v5), (6, .long v6), (8, .int v8), (9, .int v9)]) (st' := [.int v9, .long (x6 * ((12 - v5) : Int32).toInt64), .int v9, .ref 16]) (s' := s) rfl ?_
      refine zIle hf (tgt := 166) rfl (by decide) (fun hc hf => ?_) (fun hc hf => ?_)
      · refine zB zlokM 2 (pc' := 168) (ls' := [(0, .ref 0), (2, .int v2), (3, .int v3), (4, .int v4), (5, .int v5), (6, .long v6), (8, .int v8), (9, .int v9)]) (st' := [.long ((x6 * ((12 - v5) : Int32).toInt64) + 0), .int v9, .ref 16]) (s' := s) rfl ?_
        refine zLast hf rfl (by rfl) (fun s7 hf => ?_)
        refine zB zlokM 1 (pc' := 172) (ls' := [(9, .int (v9 + (-1))), (0, .ref 0), (2, .int v2), (3, .int v3), (4, .int v4), (5, .int v5), (6, .long v6), (8, .int v8)]) (st' := []) (s' := s7) rfl ?_
        refine zGoto (tgt := 120) rfl (by decide) ?_
        refine zLoc [1, 2, 3, 4, 5, 6, 7, 0] rfl ?_
        exact ih _ _ _ _ _ _ _ _ hf
      · refine zB zlokM 5 (pc' := 158) (ls' := [(0, .ref 0), (2, .int v2), (3, .int v3), (4, .int v4), (5, .int v5), (6, .long v6), (8, .int v8), (9, .int v9)]) (st' := [.int (v9 - 1), .ref 16, .long (x6 * ((12 - v5) : Int32).toInt64), .int v9, .ref 16]) (s' := s) rfl ?_
        refine zLald hf rfl (by rfl) (fun x8 hf => ?_)
        refine zB zlokM 3 (pc' := 163) (ls' := [(0, .ref 0), (2, .int v2), (3, .int v3), (4, .int v4), (5, .int v5), (6, .long v6), (8, .int v8), (9, .int v9)]) (st' := [.long (x8 * (v5 : Int32).toInt64), .long (x6 * ((12 - v5) : Int32).toInt64), .int v9, .ref 16]) (s' := s) rfl ?_
        refine zGoto (tgt := 167) rfl (by decide) ?_
        refine zB zlokM 1 (pc' := 168) (ls' := [(0, .ref 0), (2, .int v2), (3, .int v3), (4, .int v4), (5, .int v5), (6, .long v6), (8, .int v8), (9, .int v9)]) (st' := [.long ((x6 * ((12 - v5) : Int32).toInt64) + (x8 * (v5 : Int32).toInt64)), .int v9, .ref 16]) (s' := s) rfl ?_
        refine zLast hf rfl (by rfl) (fun s9 hf => ?_)
        refine zB zlokM 1 (pc' := 172) (ls' := [(9, .int (v9 + (-1))), (0, .ref 0), (2, .int v2), (3, .int v3), (4, .int v4), (5, .int v5), (6, .long v6), (8, .int v8)]) (st' := []) (s' := s9) rfl ?_
        refine zGoto (tgt := 120) rfl (by decide) ?_
        refine zLoc [1, 2, 3, 4, 5, 6, 7, 0] rfl ?_
        exact ih _ _ _ _ _ _ _ _ hf
set_option maxRecDepth 20000 in
theorem c_f_m_make_211 {r : Int64 × zSt} (k190 : Int32 → Int32 → Int32 → Int64 → Int32 → Int64 → Int32 → zSt → Option (Int64 × zSt)) (hk190 : ∀ (v2 : Int32) (v3 : Int32) (v4 : Int32) (v6 : Int64) (v8 : Int32) (v9 : Int64) (v11 : Int32) (s : zSt), k190 v2 v3 v4 v6 v8 v9 v11 s = some r → zWA zm_m_make ΛM 2 (some (.long r.1), r.2) 190 [(0, .ref 0), (2, .int v2), (3, .int v3), (4, .int v4), (6, .long v6), (8, .int v8), (9, .long v9), (11, .int v11)] [] s) : ∀ (n : Nat) (v2 : Int32) (v3 : Int32) (v4 : Int32) (v6 : Int64) (v8 : Int32) (v9 : Int64) (v11 : Int32) (v12 : Int64) (v14 : Int32) (s : zSt), f_m_make_211 k190 n v2 v3 v4 v6 v8 v9 v11 v12 v14 s = some r → zWA zm_m_make ΛM 2 (some (.long r.1), r.2) 211 [(0, .ref 0), (2, .int v2), (3, .int v3), (4, .int v4), (6, .long v6), (8, .int v8), (9, .long v9), (11, .int v11), (12, .long v12), (14, .int v14)] [] s := by
  intro n
  induction n with
  | zero => intro v2 v3 v4 v6 v8 v9 v11 v12 v14 s hf; cases hf
  | succ n ih =>
    intro v2 v3 v4 v6 v8 v9 v11 v12 v14 s hf
    refine zB zlokM 2 (pc' := 215) (ls' := [(0, .ref 0), (2, .int v2), (3, .int v3), (4, .int v4), (6, .long v6), (8, .int v8), (9, .long v9), (11, .int v11), (12, .long v12), (14, .int v14)]) (st' := [.int v4, .int v14]) (s' := s) rfl ?_
    refine zCgt hf (tgt := 260) rfl (by decide) (fun hc hf => ?_) (fun hc hf => ?_)
    · refine zB zlokM 1 (pc' := 262) (ls' := [(0, .ref 0), (2, .int v2), (3, .int v3), (4, .int v4), (6, .long v6), (8, .int v8), (9, .long v9), (11, .int v11), (12, .long v12), (14, .int v14)]) (st' := [.int v11]) (s' := s) rfl ?_
      refine zIeq hf (tgt := 273) rfl (by decide) (fun hc hf => ?_) (fun hc hf => ?_)
      · refine zB zlokM 5 (pc' := 284) (ls' := [(11, .int (v11 + 1)), (9, .long v12), (8, .int v11), (0, .ref 0), (2, .int v2), (3, .int v3), (4, .int v4), (6, .long v6), (12, .long v12), (14, .int v14)]) (st' := []) (s' := s) rfl ?_
        refine zGoto (tgt := 190) rfl (by decide) ?_
        refine zLoc [3, 4, 5, 6, 7, 2, 1, 0] rfl ?_
        exact hk190 _ _ _ _ _ _ _ _ hf
      · refine zB zlokM 3 (pc' := 270) (ls' := [(0, .ref 0), (2, .int v2), (3, .int v3), (4, .int v4), (6, .long v6), (8, .int v8), (9, .long v9), (11, .int v11), (12, .long v12), (14, .int v14)]) (st' := [.int (lg_cmp v12 v9)]) (s' := s) rfl ?_
        refine zIle hf (tgt := 281) rfl (by decide) (fun hc hf => ?_) (fun hc hf => ?_)
        · refine zB zlokM 1 (pc' := 284) (ls' := [(11, .int (v11 + 1)), (0, .ref 0), (2, .int v2), (3, .int v3), (4, .int v4), (6, .long v6), (8, .int v8), (9, .long v9), (12, .long v12), (14, .int v14)]) (st' := []) (s' := s) rfl ?_
          refine zGoto (tgt := 190) rfl (by decide) ?_
          refine zLoc [1, 2, 3, 4, 5, 6, 7, 0] rfl ?_
          exact hk190 _ _ _ _ _ _ _ _ hf
        · refine zB zlokM 5 (pc' := 284) (ls' := [(11, .int (v11 + 1)), (9, .long v12), (8, .int v11), (0, .ref 0), (2, .int v2), (3, .int v3), (4, .int v4), (6, .long v6), (12, .long v12), (14, .int v14)]) (st' := []) (s' := s) rfl ?_
          refine zGoto (tgt := 190) rfl (by decide) ?_
          refine zLoc [3, 4, 5, 6, 7, 2, 1, 0] rfl ?_
          exact hk190 _ _ _ _ _ _ _ _ hf
    · refine zB zlokM 4 (pc' := 226) (ls' := [(0, .ref 0), (2, .int v2), (3, .int v3), (4, .int v4), (6, .long v6), (8, .int v8), (9, .long v9), (11, .int v11), (12, .long v12), (14, .int v14)]) (st' := [.int v14, .ref 16, .long v12]) (s' := s) rfl ?_
      refine zLald hf rfl (by rfl) (fun x10 hf => ?_)
      refine zB zlokM 3 (pc' := 232) (ls' := [(0, .ref 0), (2, .int v2), (3, .int v3), (4, .int v4), (6, .long v6), (8, .int v8), (9, .long v9), (11, .int v11), (12, .long v12), (14, .int v14)]) (st' := [.int 3, .ref 1, .long x10, .long v12]) (s' := s) rfl ?_
      refine zIald hf rfl (by rfl) (fun x11 hf => ?_)
      refine zB zlokM 4 (pc' := 239) (ls' := [(0, .ref 0), (2, .int v2), (3, .int v3), (4, .int v4), (6, .long v6), (8, .int v8), (9, .long v9), (11, .int v11), (12, .long v12), (14, .int v14)]) (st' := [.int v11, .int v14, .long (x10 * (x11 : Int32).toInt64), .long v12]) (s' := s) rfl ?_
      refine zCge hf (tgt := 247) rfl (by decide) (fun hc hf => ?_) (fun hc hf => ?_)
      · refine zB zlokM 6 (pc' := 257) (ls' := [(14, .int (v14 + 1)), (12, .long (v12 + ((x10 * (x11 : Int32).toInt64) * (v11 : Int32).toInt64))), (0, .ref 0), (2, .int v2), (3, .int v3), (4, .int v4), (6, .long v6), (8, .int v8), (9, .long v9), (11, .int v11)]) (st' := []) (s' := s) rfl ?_
        refine zGoto (tgt := 211) rfl (by decide) ?_
        refine zLoc [2, 3, 4, 5, 6, 7, 8, 9, 1, 0] rfl ?_
        exact ih _ _ _ _ _ _ _ _ _ _ hf
      · refine zB zlokM 1 (pc' := 244) (ls' := [(0, .ref 0), (2, .int v2), (3, .int v3), (4, .int v4), (6, .long v6), (8, .int v8), (9, .long v9), (11, .int v11), (12, .long v12), (14, .int v14)]) (st' := [.int v14, .long (x10 * (x11 : Int32).toInt64), .long v12]) (s' := s) rfl ?_
        refine zGoto (tgt := 249) rfl (by decide) ?_
        refine zB zlokM 5 (pc' := 257) (ls' := [(14, .int (v14 + 1)), (12, .long (v12 + ((x10 * (x11 : Int32).toInt64) * (v14 : Int32).toInt64))), (0, .ref 0), (2, .int v2), (3, .int v3), (4, .int v4), (6, .long v6), (8, .int v8), (9, .long v9), (11, .int v11)]) (st' := []) (s' := s) rfl ?_
        refine zGoto (tgt := 211) rfl (by decide) ?_
        refine zLoc [2, 3, 4, 5, 6, 7, 8, 9, 1, 0] rfl ?_
        exact ih _ _ _ _ _ _ _ _ _ _ hf
set_option maxRecDepth 20000 in
theorem c_f_m_make_190 {r : Int64 × zSt} : ∀ (n : Nat) (v2 : Int32) (v3 : Int32) (v4 : Int32) (v6 : Int64) (v8 : Int32) (v9 : Int64) (v11 : Int32) (s : zSt), f_m_make_190 n v2 v3 v4 v6 v8 v9 v11 s = some r → zWA zm_m_make ΛM 2 (some (.long r.1), r.2) 190 [(0, .ref 0), (2, .int v2), (3, .int v3), (4, .int v4), (6, .long v6), (8, .int v8), (9, .long v9), (11, .int v11)] [] s := by
  intro n
  induction n with
  | zero => intro v2 v3 v4 v6 v8 v9 v11 s hf; cases hf
  | succ n ih =>
    intro v2 v3 v4 v6 v8 v9 v11 s hf
    refine zB zlokM 2 (pc' := 194) (ls' := [(0, .ref 0), (2, .int v2), (3, .int v3), (4, .int v4), (6, .long v6), (8, .int v8), (9, .long v9), (11, .int v11)]) (st' := [.int v4, .int v11]) (s' := s) rfl ?_
    refine zCgt hf (tgt := 287) rfl (by decide) (fun hc hf => ?_) (fun hc hf => ?_)
    · refine zB zlokM 1 (pc' := 288) (ls' := [(0, .ref 0), (2, .int v2), (3, .int v3), (4, .int v4), (6, .long v6), (8, .int v8), (9, .long v9), (11, .int v11)]) (st' := [.int v3]) (s' := s) rfl ?_
      refine zIne hf (tgt := 297) rfl (by decide) (fun hc hf => ?_) (fun hc hf => ?_)
      · refine zB zlokM 2 (pc' := 294) (ls' := [(0, .ref 0), (2, .int v2), (3, .int v3), (4, .int v4), (6, .long v6), (8, .int v8), (9, .long v9), (11, .int v11)]) (st' := [.long (v8 : Int32).toInt64]) (s' := s) rfl ?_
        refine zGoto (tgt := 307) rfl (by decide) ?_
        exact zRetL hf rfl rfl
      · refine zB zlokM 5 (pc' := 304) (ls' := [(0, .ref 0), (2, .int v2), (3, .int v3), (4, .int v4), (6, .long v6), (8, .int v8), (9, .long v9), (11, .int v11)]) (st' := [.int (v3 - 1), .long v6, .long v9]) (s' := s) rfl ?_
        refine zSL hf (As := [.long v9, .long v6, .int (v3 - 1)]) (rest := []) 3 zmk_m_partOf zok_m_partOf zl_1278 rfl rfl rfl rfl rfl (fun _ e => k_m_partOf _ _ _ _ _ e) (fun x5 hf => ?_)
        exact zRetL hf rfl rfl
    · refine zB zlokM 10 (pc' := 211) (ls' := [(14, .int 0), (12, .long ((((-v2) * v11) : Int32).toInt64 * v6)), (0, .ref 0), (2, .int v2), (3, .int v3), (4, .int v4), (6, .long v6), (8, .int v8), (9, .long v9), (11, .int v11)]) (st' := []) (s' := s) rfl ?_
      refine zLoc [2, 3, 4, 5, 6, 7, 8, 9, 1, 0] rfl ?_
      exact c_f_m_make_211 _ ih zFu _ _ _ _ _ _ _ _ _ _ hf
set_option maxRecDepth 20000 in
theorem c_f_m_make_99 {r : Int64 × zSt} : ∀ (n : Nat) (v2 : Int32) (v3 : Int32) (v4 : Int32) (v5 : Int32) (v6 : Int64) (v8 : Int32) (s : zSt), f_m_make_99 n v2 v3 v4 v5 v6 v8 s = some r → zWA zm_m_make ΛM 2 (some (.long r.1), r.2) 99 [(0, .ref 0), (2, .int v2), (3, .int v3), (4, .int v4), (5, .int v5), (6, .long v6), (8, .int v8)] [] s := by
  intro n
  induction n with
  | zero => intro v2 v3 v4 v5 v6 v8 s hf; cases hf
  | succ n ih =>
    intro v2 v3 v4 v5 v6 v8 s hf
    refine zB zlokM 2 (pc' := 103) (ls' := [(0, .ref 0), (2, .int v2), (3, .int v3), (4, .int v4), (5, .int v5), (6, .long v6), (8, .int v8)]) (st' := [.int v4, .int v8]) (s' := s) rfl ?_
    refine zCge hf (tgt := 181) rfl (by decide) (fun hc hf => ?_) (fun hc hf => ?_)
    · refine zB zlokM 6 (pc' := 190) (ls' := [(11, .int 0), (9, .long 0), (8, .int 0), (0, .ref 0), (2, .int v2), (3, .int v3), (4, .int v4), (5, .int v5), (6, .long v6)]) (st' := []) (s' := s) rfl ?_
      refine zLoc [3, 4, 5, 6, 8, 2, 1, 0] rfl ?_
      exact c_f_m_make_190 zFu _ _ _ _ _ _ _ _ hf
    · refine zB zlokM 8 (pc' := 120) (ls' := [(9, .int (v8 + 1)), (6, .long (v6 * 12)), (0, .ref 0), (2, .int v2), (3, .int v3), (4, .int v4), (5, .int v5), (8, .int v8)]) (st' := []) (s' := s) rfl ?_
      refine zLoc [2, 3, 4, 5, 6, 1, 7, 0] rfl ?_
      exact c_f_m_make_120 _ ih zFu _ _ _ _ _ _ _ _ hf
set_option maxRecDepth 20000 in
theorem c_f_m_make_68 {r : Int64 × zSt} : ∀ (n : Nat) (v2 : Int32) (v3 : Int32) (v4 : Int32) (v5 : Int32) (v6 : Int64) (v8 : Int32) (s : zSt), f_m_make_68 n v2 v3 v4 v5 v6 v8 s = some r → zWA zm_m_make ΛM 2 (some (.long r.1), r.2) 68 [(0, .ref 0), (2, .int v2), (3, .int v3), (4, .int v4), (5, .int v5), (6, .long v6), (8, .int v8)] [] s := by
  intro n
  induction n with
  | zero => intro v2 v3 v4 v5 v6 v8 s hf; cases hf
  | succ n ih =>
    intro v2 v3 v4 v5 v6 v8 s hf
    refine zB zlokM 2 (pc' := 72) (ls' := [(0, .ref 0), (2, .int v2), (3, .int v3), (4, .int v4), (5, .int v5), (6, .long v6), (8, .int v8)]) (st' := [.int 10, .int v8]) (s' := s) rfl ?_
    refine zCge hf (tgt := 89) rfl (by decide) (fun hc hf => ?_) (fun hc hf => ?_)
    · refine zB zlokM 4 (pc' := 95) (ls' := [(0, .ref 0), (2, .int v2), (3, .int v3), (4, .int v4), (5, .int v5), (6, .long v6), (8, .int v8)]) (st' := [.long 1, .int 0, .ref 16]) (s' := s) rfl ?_
      refine zLast hf rfl (by rfl) (fun s3 hf => ?_)
      refine zB zlokM 2 (pc' := 99) (ls' := [(8, .int 0), (0, .ref 0), (2, .int v2), (3, .int v3), (4, .int v4), (5, .int v5), (6, .long v6)]) (st' := []) (s' := s3) rfl ?_
      refine zLoc [1, 2, 3, 4, 5, 6, 0] rfl ?_
      exact c_f_m_make_99 zFu _ _ _ _ _ _ _ hf
    · refine zB zlokM 4 (pc' := 82) (ls' := [(0, .ref 0), (2, .int v2), (3, .int v3), (4, .int v4), (5, .int v5), (6, .long v6), (8, .int v8)]) (st' := [.long 0, .int v8, .ref 16]) (s' := s) rfl ?_
      refine zLast hf rfl (by rfl) (fun s4 hf => ?_)
      refine zB zlokM 1 (pc' := 86) (ls' := [(8, .int (v8 + 1)), (0, .ref 0), (2, .int v2), (3, .int v3), (4, .int v4), (5, .int v5), (6, .long v6)]) (st' := []) (s' := s4) rfl ?_
      refine zGoto (tgt := 68) rfl (by decide) ?_
      refine zLoc [1, 2, 3, 4, 5, 6, 0] rfl ?_
      exact ih _ _ _ _ _ _ _ hf
set_option maxRecDepth 20000 in
theorem k_m_make (a0 : Int32) (a1 : Int32) (a2 : Int32) (s : zSt) (r : Int64 × zSt) (hf : f_m_make a0 a1 a2 s = some r) : zKp zm_m_make ΛM 2 [.ref 0, .int a0, .int a1, .int a2] s (some (.long r.1), r.2) := by
  refine zKp_of zmk_m_make rfl ?_
  show zWA _ _ _ _ _ [(0, .ref 0), (1, .int a0), (2, .int a1), (3, .int a2)] _ _
  refine zB zlokM 1 (pc' := 1) (ls' := [(0, .ref 0), (1, .int a0), (2, .int a1), (3, .int a2)]) (st' := [.int a0]) (s' := s) rfl ?_
  refine zIlt hf (tgt := 46) rfl (by decide) (fun hc hf => ?_) (fun hc hf => ?_)
  · refine zB zlokM 1 (pc' := 49) (ls' := [(0, .ref 0), (1, .int a0), (2, .int a1), (3, .int a2)]) (st' := [.long (-9223372036854775808)]) (s' := s) rfl ?_
    exact zRetL hf rfl rfl
  · refine zB zlokM 4 (pc' := 10) (ls' := [(0, .ref 0), (1, .int a0), (2, .int a1), (3, .int a2)]) (st' := [.int 8, .int (a0 / 100)]) (s' := s) rfl ?_
    refine zCgt hf (tgt := 46) rfl (by decide) (fun hc hf => ?_) (fun hc hf => ?_)
    · refine zB zlokM 1 (pc' := 49) (ls' := [(0, .ref 0), (1, .int a0), (2, .int a1), (3, .int a2)]) (st' := [.long (-9223372036854775808)]) (s' := s) rfl ?_
      exact zRetL hf rfl rfl
    · refine zB zlokM 4 (pc' := 19) (ls' := [(0, .ref 0), (1, .int a0), (2, .int a1), (3, .int a2)]) (st' := [.int 12, .int (zrem a0 100)]) (s' := s) rfl ?_
      refine zCgt hf (tgt := 46) rfl (by decide) (fun hc hf => ?_) (fun hc hf => ?_)
      · refine zB zlokM 1 (pc' := 49) (ls' := [(0, .ref 0), (1, .int a0), (2, .int a1), (3, .int a2)]) (st' := [.long (-9223372036854775808)]) (s' := s) rfl ?_
        exact zRetL hf rfl rfl
      · refine zB zlokM 4 (pc' := 28) (ls' := [(0, .ref 0), (1, .int a0), (2, .int a1), (3, .int a2)]) (st' := [.long 99, .long 0, .long (a1 : Int32).toInt64]) (s' := s) rfl ?_
        refine zSI hf (As := [.long (a1 : Int32).toInt64, .long 0, .long 99]) (rest := []) 3 zmk_m_within zok_m_within zl_1072 rfl rfl rfl rfl rfl (fun _ e => k_m_within _ _ _ _ _ e) (fun x1 hf => ?_)
        refine zIeq hf (tgt := 46) rfl (by decide) (fun hc hf => ?_) (fun hc hf => ?_)
        · refine zB zlokM 1 (pc' := 49) (ls' := [(0, .ref 0), (1, .int a0), (2, .int a1), (3, .int a2)]) (st' := [.long (-9223372036854775808)]) (s' := x1.2) rfl ?_
          exact zRetL hf rfl rfl
        · refine zB zlokM 4 (pc' := 40) (ls' := [(0, .ref 0), (1, .int a0), (2, .int a1), (3, .int a2)]) (st' := [.long 2, .long 0, .long (a2 : Int32).toInt64]) (s' := x1.2) rfl ?_
          refine zSI hf (As := [.long (a2 : Int32).toInt64, .long 0, .long 2]) (rest := []) 3 zmk_m_within zok_m_within zl_1072 rfl rfl rfl rfl rfl (fun _ e => k_m_within _ _ _ _ _ e) (fun x2 hf => ?_)
          refine zIne hf (tgt := 50) rfl (by decide) (fun hc hf => ?_) (fun hc hf => ?_)
          · refine zB zlokM 1 (pc' := 49) (ls' := [(0, .ref 0), (1, .int a0), (2, .int a1), (3, .int a2)]) (st' := [.long (-9223372036854775808)]) (s' := x2.2) rfl ?_
            exact zRetL hf rfl rfl
          · refine zB zlokM 12 (pc' := 68) (ls' := [(8, .int 0), (6, .long 1), (5, .int (zrem a0 100)), (4, .int (a0 / 100)), (0, .ref 0), (1, .int a0), (2, .int a1), (3, .int a2)]) (st' := []) (s' := x2.2) rfl ?_
            refine zLoc [4, 6, 7, 3, 2, 1, 0] rfl ?_
            exact c_f_m_make_68 zFu _ _ _ _ _ _ _ hf
