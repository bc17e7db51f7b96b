/-! contracts: g_flow g_stand g_mend g_of g_feed g_law g_taste g_spend g_day g_told g_best g_where g_firstWrong g_judge g_seeded g_meanGain g_make -/
set_option maxRecDepth 20000 in
theorem c_f_g_flow_36 {r : Int32 × zSt} : ∀ (n : Nat) (v1 : Int32) (v2 : Int32) (v3 : Int32) (v4 : Int32) (s : zSt), f_g_flow_36 n v1 v2 v3 v4 s = some r → zWA zm_g_flow ΛG 3 (some (.int r.1), r.2) 36 [(0, .ref 0), (1, .int v1), (2, .int v2), (3, .int v3), (4, .int v4)] [] s := by
  intro n
  induction n with
  | zero => intro v1 v2 v3 v4 s hf; cases hf
  | succ n ih =>
    intro v1 v2 v3 v4 s hf
    refine zB zlokG 4 (pc' := 42) (ls' := [(0, .ref 0), (1, .int v1), (2, .int v2), (3, .int v3), (4, .int v4)]) (st' := [.int (zrem v2 100), .int v4]) (s' := s) rfl ?_
    refine zCgt hf (tgt := 67) rfl (by decide) (fun hc hf => ?_) (fun hc hf => ?_)
    · refine zB zlokG 9 (pc' := 78) (ls' := [(0, .ref 0), (1, .int v1), (2, .int v2), (3, .int v3), (4, .int v4)]) (st' := [.int (((zrem v2 100) - (v2 / 100)) + 1)]) (s' := s) rfl ?_
      exact zRetI hf rfl rfl
    · refine zB zlokG 9 (pc' := 60) (ls' := [(0, .ref 0), (1, .int v1), (2, .int v2), (3, .int v3), (4, .int v4)]) (st' := [.int v3, .int ((v1 * 32) + v4), .ref 9]) (s' := s) rfl ?_
      refine zIast hf rfl (by rfl) (fun s4 hf => ?_)
      refine zB zlokG 1 (pc' := 64) (ls' := [(4, .int (v4 + 1)), (0, .ref 0), (1, .int v1), (2, .int v2), (3, .int v3)]) (st' := []) (s' := s4) rfl ?_
      refine zGoto (tgt := 36) rfl (by decide) ?_
      refine zLoc [1, 2, 3, 4, 0] rfl ?_
      exact ih _ _ _ _ _ hf
set_option maxRecDepth 20000 in
theorem k_g_flow (a0 : Int32) (a1 : Int32) (a2 : Int32) (s : zSt) (r : Int32 × zSt) (hf : f_g_flow a0 a1 a2 s = some r) : zKp zm_g_flow ΛG 3 [.ref 0, .int a0, .int a1, .int a2] s (some (.int r.1), r.2) := by
  refine zKp_of zmk_g_flow rfl ?_
  show zWA _ _ _ _ _ [(0, .ref 0), (1, .int a0), (2, .int a1), (3, .int a2)] _ _
  refine zB zlokG 3 (pc' := 5) (ls' := [(0, .ref 0), (1, .int a0), (2, .int a1), (3, .int a2)]) (st' := [.int a0, .ref 6]) (s' := s) rfl ?_
  refine zXI hf (As := [.int a0]) (rest := []) 1 zmk_st_isPlace zok_st_isPlace zl_375 rfl rfl rfl rfl rfl rfl rfl rfl (fun _ e => k_st_isPlace _ _ _ e) (fun x1 hf => ?_)
  refine zIeq hf (tgt := 28) rfl (by decide) (fun hc hf => ?_) (fun hc hf => ?_)
  · refine zB zlokG 1 (pc' := 29) (ls' := [(0, .ref 0), (1, .int a0), (2, .int a1), (3, .int a2)]) (st' := [.int (-1)]) (s' := x1.2) rfl ?_
    exact zRetI hf rfl rfl
  · refine zB zlokG 1 (pc' := 12) (ls' := [(0, .ref 0), (1, .int a0), (2, .int a1), (3, .int a2)]) (st' := [.int a1]) (s' := x1.2) rfl ?_
    refine zSI hf (As := [.int a1]) (rest := []) 1 zmk_g_isSpan zok_g_isSpan zl_380 rfl rfl rfl rfl rfl (fun _ e => k_g_isSpan _ _ _ e) (fun x2 hf => ?_)
    refine zIeq hf (tgt := 28) rfl (by decide) (fun hc hf => ?_) (fun hc hf => ?_)
    · refine zB zlokG 1 (pc' := 29) (ls' := [(0, .ref 0), (1, .int a0), (2, .int a1), (3, .int a2)]) (st' := [.int (-1)]) (s' := x2.2) rfl ?_
      exact zRetI hf rfl rfl
    · refine zB zlokG 3 (pc' := 22) (ls' := [(0, .ref 0), (1, .int a0), (2, .int a1), (3, .int a2)]) (st' := [.int 9, .int 0, .int a2]) (s' := x2.2) rfl ?_
      refine zSI hf (As := [.int a2, .int 0, .int 9]) (rest := []) 3 zmk_g_isWithin zok_g_isWithin zl_340 rfl rfl rfl rfl rfl (fun _ e => k_g_isWithin _ _ _ _ _ e) (fun x3 hf => ?_)
      refine zIne hf (tgt := 30) rfl (by decide) (fun hc hf => ?_) (fun hc hf => ?_)
      · refine zB zlokG 1 (pc' := 29) (ls' := [(0, .ref 0), (1, .int a0), (2, .int a1), (3, .int a2)]) (st' := [.int (-1)]) (s' := x3.2) rfl ?_
        exact zRetI hf rfl rfl
      · refine zB zlokG 4 (pc' := 36) (ls' := [(4, .int (a1 / 100)), (0, .ref 0), (1, .int a0), (2, .int a1), (3, .int a2)]) (st' := []) (s' := x3.2) rfl ?_
        refine zLoc [1, 2, 3, 4, 0] rfl ?_
        exact c_f_g_flow_36 zFu _ _ _ _ _ hf
set_option maxRecDepth 20000 in
theorem c_f_g_stand_30 {r : Int32 × zSt} : ∀ (n : Nat) (v1 : Int32) (v2 : Int32) (v3 : Int32) (s : zSt), f_g_stand_30 n v1 v2 v3 s = some r → zWA zm_g_stand ΛG 3 (some (.int r.1), r.2) 30 [(0, .ref 0), (1, .int v1), (2, .int v2), (3, .int v3)] [] s := by
  intro n
  induction n with
  | zero => intro v1 v2 v3 s hf; cases hf
  | succ n ih =>
    intro v1 v2 v3 s hf
    refine zB zlokG 4 (pc' := 35) (ls' := [(0, .ref 0), (1, .int v1), (2, .int v2), (3, .int v3)]) (st' := [.int (zrem v2 100), .int v3]) (s' := s) rfl ?_
    refine zCgt hf (tgt := 54) rfl (by decide) (fun hc hf => ?_) (fun hc hf => ?_)
    · refine zB zlokG 9 (pc' := 65) (ls' := [(0, .ref 0), (1, .int v1), (2, .int v2), (3, .int v3)]) (st' := [.int (((zrem v2 100) - (v2 / 100)) + 1)]) (s' := s) rfl ?_
      exact zRetI hf rfl rfl
    · refine zB zlokG 5 (pc' := 47) (ls' := [(0, .ref 0), (1, .int v1), (2, .int v2), (3, .int v3)]) (st' := [.int v1, .int v3, .ref 8]) (s' := s) rfl ?_
      refine zIast hf rfl (by rfl) (fun s4 hf => ?_)
      refine zB zlokG 1 (pc' := 51) (ls' := [(3, .int (v3 + 1)), (0, .ref 0), (1, .int v1), (2, .int v2)]) (st' := []) (s' := s4) rfl ?_
      refine zGoto (tgt := 30) rfl (by decide) ?_
      refine zLoc [1, 2, 3, 0] rfl ?_
      exact ih _ _ _ _ hf
set_option maxRecDepth 20000 in
theorem k_g_stand (a0 : Int32) (a1 : Int32) (s : zSt) (r : Int32 × zSt) (hf : f_g_stand a0 a1 s = some r) : zKp zm_g_stand ΛG 3 [.ref 0, .int a0, .int a1] s (some (.int r.1), r.2) := by
  refine zKp_of zmk_g_stand rfl ?_
  show zWA _ _ _ _ _ [(0, .ref 0), (1, .int a0), (2, .int a1)] _ _
  refine zB zlokG 2 (pc' := 2) (ls' := [(0, .ref 0), (1, .int a0), (2, .int a1)]) (st' := [.int (-1), .int a0]) (s' := s) rfl ?_
  refine zCeq hf (tgt := 16) rfl (by decide) (fun hc hf => ?_) (fun hc hf => ?_)
  · refine zB zlokG 1 (pc' := 17) (ls' := [(0, .ref 0), (1, .int a0), (2, .int a1)]) (st' := [.int a1]) (s' := s) rfl ?_
    refine zSI hf (As := [.int a1]) (rest := []) 1 zmk_g_isSpan zok_g_isSpan zl_380 rfl rfl rfl rfl rfl (fun _ e => k_g_isSpan _ _ _ e) (fun x1 hf => ?_)
    refine zIne hf (tgt := 25) rfl (by decide) (fun hc hf => ?_) (fun hc hf => ?_)
    · refine zB zlokG 1 (pc' := 24) (ls' := [(0, .ref 0), (1, .int a0), (2, .int a1)]) (st' := [.int (-1)]) (s' := x1.2) rfl ?_
      exact zRetI hf rfl rfl
    · refine zB zlokG 4 (pc' := 30) (ls' := [(3, .int (a1 / 100)), (0, .ref 0), (1, .int a0), (2, .int a1)]) (st' := []) (s' := x1.2) rfl ?_
      refine zLoc [1, 2, 3, 0] rfl ?_
      exact c_f_g_stand_30 zFu _ _ _ _ hf
  · refine zB zlokG 3 (pc' := 10) (ls' := [(0, .ref 0), (1, .int a0), (2, .int a1)]) (st' := [.int a0, .ref 6]) (s' := s) rfl ?_
    refine zXI hf (As := [.int a0]) (rest := []) 1 zmk_st_isPlace zok_st_isPlace zl_375 rfl rfl rfl rfl rfl rfl rfl rfl (fun _ e => k_st_isPlace _ _ _ e) (fun x2 hf => ?_)
    refine zIeq hf (tgt := 23) rfl (by decide) (fun hc hf => ?_) (fun hc hf => ?_)
    · refine zB zlokG 1 (pc' := 24) (ls' := [(0, .ref 0), (1, .int a0), (2, .int a1)]) (st' := [.int (-1)]) (s' := x2.2) rfl ?_
      exact zRetI hf rfl rfl
    · refine zB zlokG 1 (pc' := 17) (ls' := [(0, .ref 0), (1, .int a0), (2, .int a1)]) (st' := [.int a1]) (s' := x2.2) rfl ?_
      refine zSI hf (As := [.int a1]) (rest := []) 1 zmk_g_isSpan zok_g_isSpan zl_380 rfl rfl rfl rfl rfl (fun _ e => k_g_isSpan _ _ _ e) (fun x3 hf => ?_)
      refine zIne hf (tgt := 25) rfl (by decide) (fun hc hf => ?_) (fun hc hf => ?_)
      · refine zB zlokG 1 (pc' := 24) (ls' := [(0, .ref 0), (1, .int a0), (2, .int a1)]) (st' := [.int (-1)]) (s' := x3.2) rfl ?_
        exact zRetI hf rfl rfl
      · refine zB zlokG 4 (pc' := 30) (ls' := [(3, .int (a1 / 100)), (0, .ref 0), (1, .int a0), (2, .int a1)]) (st' := []) (s' := x3.2) rfl ?_
        refine zLoc [1, 2, 3, 0] rfl ?_
        exact c_f_g_stand_30 zFu _ _ _ _ hf
set_option maxRecDepth 20000 in
theorem k_g_mend (a0 : Int32) (a1 : Int32) (s : zSt) (r : Int32 × zSt) (hf : f_g_mend a0 a1 s = some r) : zKp zm_g_mend ΛG 4 [.ref 0, .int a0, .int a1] s (some (.int r.1), r.2) := by
  refine zKp_of zmk_g_mend rfl ?_
  show zWA _ _ _ _ _ [(0, .ref 0), (1, .int a0), (2, .int a1)] _ _
  refine zB zlokG 4 (pc' := 6) (ls' := [(0, .ref 0), (1, .int a0), (2, .int a1)]) (st' := [.int a1, .int a0, .ref 1]) (s' := s) rfl ?_
  refine zXI hf (As := [.int a0, .int a1]) (rest := []) 2 zmk_rc_allows zok_rc_allows zl_391 rfl rfl rfl rfl rfl rfl rfl rfl (fun _ e => k_rc_allows _ _ _ _ e) (fun x1 hf => ?_)
  refine zIeq hf (tgt := 24) rfl (by decide) (fun hc hf => ?_) (fun hc hf => ?_)
  · refine zB zlokG 1 (pc' := 25) (ls' := [(0, .ref 0), (1, .int a0), (2, .int a1)]) (st' := [.int (-1)]) (s' := x1.2) rfl ?_
    exact zRetI hf rfl rfl
  · refine zB zlokG 4 (pc' := 18) (ls' := [(0, .ref 0), (1, .int a0), (2, .int a1)]) (st' := [.int a1, .int a0, .ref 1]) (s' := x1.2) rfl ?_
    refine zXI hf (As := [.int a0, .int a1]) (rest := []) 2 zmk_rc_change zok_rc_change zl_400 rfl rfl rfl rfl rfl rfl rfl rfl (fun _ e => k_rc_change _ _ _ _ e) (fun x2 hf => ?_)
    refine zGoto (tgt := 25) rfl (by decide) ?_
    exact zRetI hf rfl rfl
set_option maxRecDepth 20000 in
theorem k_g_of (a0 : Int32) (s : zSt) (r : Int32 × zSt) (hf : f_g_of a0 s = some r) : zKp zm_g_of ΛG 3 [.ref 0, .int a0] s (some (.int r.1), r.2) := by
  refine zKp_of zmk_g_of rfl ?_
  show zWA _ _ _ _ _ [(0, .ref 0), (1, .int a0)] _ _
  refine zB zlokG 3 (pc' := 4) (ls' := [(0, .ref 0), (1, .int a0)]) (st' := [.int 7, .int 0, .int a0]) (s' := s) rfl ?_
  refine zSI hf (As := [.int a0, .int 0, .int 7]) (rest := []) 3 zmk_g_isWithin zok_g_isWithin zl_340 rfl rfl rfl rfl rfl (fun _ e => k_g_isWithin _ _ _ _ _ e) (fun x1 hf => ?_)
  refine zIeq hf (tgt := 20) rfl (by decide) (fun hc hf => ?_) (fun hc hf => ?_)
  · refine zB zlokG 2 (pc' := 23) (ls' := [(0, .ref 0), (1, .int a0)]) (st' := [.int 8, .int a0]) (s' := x1.2) rfl ?_
    refine zCne hf (tgt := 34) rfl (by decide) (fun hc hf => ?_) (fun hc hf => ?_)
    · refine zB zlokG 2 (pc' := 30) (ls' := [(0, .ref 0), (1, .int a0)]) (st' := [.ref 1]) (s' := x1.2) rfl ?_
      refine zXI hf (As := []) (rest := []) 0 zmk_rc_jugCost zok_rc_jugCost zl_419 rfl rfl rfl rfl rfl rfl rfl rfl (fun _ e => k_rc_jugCost _ _ e) (fun x2 hf => ?_)
      exact zRetI hf rfl rfl
    · refine zB zlokG 2 (pc' := 37) (ls' := [(0, .ref 0), (1, .int a0)]) (st' := [.int 9, .int a0]) (s' := x1.2) rfl ?_
      refine zCne hf (tgt := 48) rfl (by decide) (fun hc hf => ?_) (fun hc hf => ?_)
      · refine zB zlokG 2 (pc' := 44) (ls' := [(0, .ref 0), (1, .int a0)]) (st' := [.ref 1]) (s' := x1.2) rfl ?_
        refine zXI hf (As := []) (rest := []) 0 zmk_rc_glassCost zok_rc_glassCost zl_423 rfl rfl rfl rfl rfl rfl rfl rfl (fun _ e => k_rc_glassCost _ _ e) (fun x3 hf => ?_)
        exact zRetI hf rfl rfl
      · refine zB zlokG 3 (pc' := 52) (ls' := [(0, .ref 0), (1, .int a0)]) (st' := [.int (a0 - 100)]) (s' := x1.2) rfl ?_
        refine zSI hf (As := [.int (a0 - 100)]) (rest := []) 1 zmk_g_isQuarter zok_g_isQuarter zl_337 rfl rfl rfl rfl rfl (fun _ e => k_g_isQuarter _ _ _ e) (fun x4 hf => ?_)
        refine zIeq hf (tgt := 71) rfl (by decide) (fun hc hf => ?_) (fun hc hf => ?_)
        · refine zB zlokG 3 (pc' := 76) (ls' := [(0, .ref 0), (1, .int a0)]) (st' := [.int (a0 - 200)]) (s' := x4.2) rfl ?_
          refine zSI hf (As := [.int (a0 - 200)]) (rest := []) 1 zmk_g_isQuarter zok_g_isQuarter zl_337 rfl rfl rfl rfl rfl (fun _ e => k_g_isQuarter _ _ _ e) (fun x5 hf => ?_)
          refine zIeq hf (tgt := 96) rfl (by decide) (fun hc hf => ?_) (fun hc hf => ?_)
          · refine zB zlokG 2 (pc' := 100) (ls' := [(0, .ref 0), (1, .int a0)]) (st' := [.int 1000, .int a0]) (s' := x5.2) rfl ?_
            refine zClt hf (tgt := 151) rfl (by decide) (fun hc hf => ?_) (fun hc hf => ?_)
            · refine zB zlokG 1 (pc' := 153) (ls' := [(0, .ref 0), (1, .int a0)]) (st' := [.int (-2000000000)]) (s' := x5.2) rfl ?_
              exact zRetI hf rfl rfl
            · refine zB zlokG 7 (pc' := 115) (ls' := [(0, .ref 0), (1, .int a0)]) (st' := [.int ((a0 - 1000) / 100), .ref 6]) (s' := x5.2) rfl ?_
              refine zXI hf (As := [.int ((a0 - 1000) / 100)]) (rest := []) 1 zmk_st_isPlace zok_st_isPlace zl_375 rfl rfl rfl rfl rfl rfl rfl rfl (fun _ e => k_st_isPlace _ _ _ e) (fun x6 hf => ?_)
              refine zIeq hf (tgt := 151) rfl (by decide) (fun hc hf => ?_) (fun hc hf => ?_)
              · refine zB zlokG 1 (pc' := 153) (ls' := [(0, .ref 0), (1, .int a0)]) (st' := [.int (-2000000000)]) (s' := x6.2) rfl ?_
                exact zRetI hf rfl rfl
              · refine zB zlokG 3 (pc' := 125) (ls' := [(0, .ref 0), (1, .int a0)]) (st' := [.int (zrem a0 100)]) (s' := x6.2) rfl ?_
                refine zSI hf (As := [.int (zrem a0 100)]) (rest := []) 1 zmk_g_isQuarter zok_g_isQuarter zl_337 rfl rfl rfl rfl rfl (fun _ e => k_g_isQuarter _ _ _ e) (fun x7 hf => ?_)
                refine zIeq hf (tgt := 151) rfl (by decide) (fun hc hf => ?_) (fun hc hf => ?_)
                · refine zB zlokG 1 (pc' := 153) (ls' := [(0, .ref 0), (1, .int a0)]) (st' := [.int (-2000000000)]) (s' := x7.2) rfl ?_
                  exact zRetI hf rfl rfl
                · refine zB zlokG 10 (pc' := 147) (ls' := [(0, .ref 0), (1, .int a0)]) (st' := [.int (zrem a0 100), .int ((a0 - 1000) / 100), .ref 6]) (s' := x7.2) rfl ?_
                  refine zXI hf (As := [.int ((a0 - 1000) / 100), .int (zrem a0 100)]) (rest := []) 2 zmk_st_flowAt zok_st_flowAt zl_428 rfl rfl rfl rfl rfl rfl rfl rfl (fun _ e => k_st_flowAt _ _ _ _ e) (fun x8 hf => ?_)
                  exact zRetI hf rfl rfl
          · refine zB zlokG 6 (pc' := 94) (ls' := [(0, .ref 0), (1, .int a0)]) (st' := [.int (a0 - 200), .ref 8]) (s' := x5.2) rfl ?_
            refine zIald hf rfl (by rfl) (fun x9 hf => ?_)
            exact zRetI hf rfl rfl
        · refine zB zlokG 6 (pc' := 69) (ls' := [(0, .ref 0), (1, .int a0)]) (st' := [.int (a0 - 100), .ref 7]) (s' := x4.2) rfl ?_
          refine zIald hf rfl (by rfl) (fun x10 hf => ?_)
          exact zRetI hf rfl rfl
  · refine zB zlokG 4 (pc' := 18) (ls' := [(0, .ref 0), (1, .int a0)]) (st' := [.int a0, .ref 2]) (s' := x1.2) rfl ?_
    refine zIald hf rfl (by rfl) (fun x11 hf => ?_)
    exact zRetI hf rfl rfl
set_option maxRecDepth 20000 in
theorem k_g_feed (a0 : Int32) (s : zSt) (r : Int32 × zSt) (hf : f_g_feed a0 s = some r) : zKp zm_g_feed ΛG 1 [.ref 0, .int a0] s (some (.int r.1), r.2) := by
  refine zKp_of zmk_g_feed rfl ?_
  show zWA _ _ _ _ _ [(0, .ref 0), (1, .int a0)] _ _
  refine zB zlokG 3 (pc' := 5) (ls' := [(0, .ref 0), (1, .int a0)]) (st' := [.int 255, .int 0, .int a0]) (s' := s) rfl ?_
  refine zSI hf (As := [.int a0, .int 0, .int 255]) (rest := []) 3 zmk_g_isWithin zok_g_isWithin zl_340 rfl rfl rfl rfl rfl (fun _ e => k_g_isWithin _ _ _ _ _ e) (fun x1 hf => ?_)
  refine zIne hf (tgt := 13) rfl (by decide) (fun hc hf => ?_) (fun hc hf => ?_)
  · refine zB zlokG 1 (pc' := 12) (ls' := [(0, .ref 0), (1, .int a0)]) (st' := [.int (-1)]) (s' := x1.2) rfl ?_
    exact zRetI hf rfl rfl
  · refine zB zlokG 3 (pc' := 18) (ls' := [(0, .ref 0), (1, .int a0)]) (st' := [.int a0, .ref 13]) (s' := x1.2) rfl ?_
    refine zXI hf (As := [.int a0]) (rest := []) 1 zmk_tp_add zok_tp_add zl_439 rfl rfl rfl rfl rfl rfl rfl rfl (fun _ e => k_tp_add _ _ _ e) (fun x2 hf => ?_)
    refine zIeq hf (tgt := 34) rfl (by decide) (fun hc hf => ?_) (fun hc hf => ?_)
    · refine zB zlokG 1 (pc' := 36) (ls' := [(0, .ref 0), (1, .int a0)]) (st' := [.int (-3)]) (s' := x2.2) rfl ?_
      exact zRetI hf rfl rfl
    · refine zB zlokG 3 (pc' := 31) (ls' := [(0, .ref 0), (1, .int a0)]) (st' := [.int (x2.2.1 13 1)]) (s' := x2.2) rfl ?_
      refine zGoto (tgt := 36) rfl (by decide) ?_
      exact zRetI hf rfl rfl
set_option maxRecDepth 20000 in
theorem c_f_g_law_35 {r : Int32 × zSt} : ∀ (v2 : Int32) (s : zSt), f_g_law_35 v2 s = some r → zWA zm_g_law ΛG 82 (some (.int r.1), r.2) 35 [(0, .ref 0), (2, .int v2)] [] s := by
  intro v2 s hf
  refine zB zlokG 2 (pc' := 39) (ls' := [(0, .ref 0), (2, .int v2)]) (st' := [.ref 13]) (s' := s) rfl ?_
  refine zXV hf (As := []) (rest := []) 0 zmk_tp_clear zok_tp_clear zl_515 rfl rfl rfl rfl rfl rfl rfl rfl (fun _ e => k_tp_clear _ _ e) (fun x4 hf => ?_)
  refine zB zlokG 1 (pc' := 43) (ls' := [(0, .ref 0), (2, .int v2)]) (st' := [.int v2]) (s' := x4) rfl ?_
  refine zIge hf (tgt := 50) rfl (by decide) (fun hc hf => ?_) (fun hc hf => ?_)
  · refine zB zlokG 3 (pc' := 54) (ls' := [(0, .ref 0), (2, .int v2)]) (st' := [.int ((-100) - v2)]) (s' := x4) rfl ?_
    exact zRetI hf rfl rfl
  · refine zB zlokG 1 (pc' := 47) (ls' := [(0, .ref 0), (2, .int v2)]) (st' := [.int 1]) (s' := x4) rfl ?_
    refine zGoto (tgt := 54) rfl (by decide) ?_
    exact zRetI hf rfl rfl
set_option maxRecDepth 20000 in
theorem k_g_law (a0 : Int32) (s : zSt) (r : Int32 × zSt) (hf : f_g_law a0 s = some r) : zKp zm_g_law ΛG 82 [.ref 0, .int a0] s (some (.int r.1), r.2) := by
  refine zKp_of zmk_g_law rfl ?_
  show zWA _ _ _ _ _ [(0, .ref 0), (1, .int a0)] _ _
  refine zB zlokG 3 (pc' := 3) (ls' := [(0, .ref 0), (1, .int a0)]) (st' := [.int 1, .int 0, .int a0]) (s' := s) rfl ?_
  refine zSI hf (As := [.int a0, .int 0, .int 1]) (rest := []) 3 zmk_g_isWithin zok_g_isWithin zl_340 rfl rfl rfl rfl rfl (fun _ e => k_g_isWithin _ _ _ _ _ e) (fun x1 hf => ?_)
  refine zIne hf (tgt := 11) rfl (by decide) (fun hc hf => ?_) (fun hc hf => ?_)
  · refine zB zlokG 1 (pc' := 10) (ls' := [(0, .ref 0), (1, .int a0)]) (st' := [.int (-1)]) (s' := x1.2) rfl ?_
    exact zRetI hf rfl rfl
  · refine zB zlokG 2 (pc' := 15) (ls' := [(0, .ref 0), (1, .int a0)]) (st' := [.ref 13]) (s' := x1.2) rfl ?_
    refine zXI hf (As := []) (rest := []) 0 zmk_tp_read zok_tp_read zl_447 rfl rfl rfl rfl rfl rfl rfl rfl (fun _ e => k_tp_read _ _ e) (fun x2 hf => ?_)
    refine zB zlokG 2 (pc' := 20) (ls' := [(2, .int x2.1), (0, .ref 0), (1, .int a0)]) (st' := [.int x2.1]) (s' := x2.2) rfl ?_
    refine zIge hf (tgt := 35) rfl (by decide) (fun hc hf => ?_) (fun hc hf => ?_)
    · refine zLoc [1, 0] rfl ?_
      exact c_f_g_law_35 _ _ hf
    · refine zB zlokG 5 (pc' := 32) (ls' := [(2, .int x2.1), (0, .ref 0), (1, .int a0)]) (st' := [.ref 13, .int a0, .ref 16]) (s' := x2.2) rfl ?_
      refine zXV hf (As := [.int a0, .ref 13]) (rest := []) 2 zmk_ls_become zok_ls_become zl_503 rfl rfl rfl rfl rfl rfl rfl rfl (fun _ e => k_ls_become _ _ _ e) (fun x3 hf => ?_)
      refine zLoc [1, 0] rfl ?_
      exact c_f_g_law_35 _ _ hf
set_option maxRecDepth 20000 in
theorem k_g_taste (a0 : Int32) (a1 : Int32) (a2 : Int32) (s : zSt) (r : Int32 × zSt) (hf : f_g_taste a0 a1 a2 s = some r) : zKp zm_g_taste ΛG 4 [.ref 0, .int a0, .int a1, .int a2] s (some (.int r.1), r.2) := by
  refine zKp_of zmk_g_taste rfl ?_
  show zWA _ _ _ _ _ [(0, .ref 0), (1, .int a0), (2, .int a1), (3, .int a2)] _ _
  refine zB zlokG 1 (pc' := 1) (ls' := [(0, .ref 0), (1, .int a0), (2, .int a1), (3, .int a2)]) (st' := [.int a0]) (s' := s) rfl ?_
  refine zSI hf (As := [.int a0]) (rest := []) 1 zmk_g_isQuarter zok_g_isQuarter zl_337 rfl rfl rfl rfl rfl (fun _ e => k_g_isQuarter _ _ _ e) (fun x1 hf => ?_)
  refine zIeq hf (tgt := 26) rfl (by decide) (fun hc hf => ?_) (fun hc hf => ?_)
  · refine zB zlokG 1 (pc' := 27) (ls' := [(0, .ref 0), (1, .int a0), (2, .int a1), (3, .int a2)]) (st' := [.int (-1)]) (s' := x1.2) rfl ?_
    exact zRetI hf rfl rfl
  · refine zB zlokG 3 (pc' := 11) (ls' := [(0, .ref 0), (1, .int a0), (2, .int a1), (3, .int a2)]) (st' := [.int 32, .int 0, .int a1]) (s' := x1.2) rfl ?_
    refine zSI hf (As := [.int a1, .int 0, .int 32]) (rest := []) 3 zmk_g_isWithin zok_g_isWithin zl_340 rfl rfl rfl rfl rfl (fun _ e => k_g_isWithin _ _ _ _ _ e) (fun x2 hf => ?_)
    refine zIeq hf (tgt := 26) rfl (by decide) (fun hc hf => ?_) (fun hc hf => ?_)
    · refine zB zlokG 1 (pc' := 27) (ls' := [(0, .ref 0), (1, .int a0), (2, .int a1), (3, .int a2)]) (st' := [.int (-1)]) (s' := x2.2) rfl ?_
      exact zRetI hf rfl rfl
    · refine zB zlokG 3 (pc' := 20) (ls' := [(0, .ref 0), (1, .int a0), (2, .int a1), (3, .int a2)]) (st' := [.int 1, .int 0, .int a2]) (s' := x2.2) rfl ?_
      refine zSI hf (As := [.int a2, .int 0, .int 1]) (rest := []) 3 zmk_g_isWithin zok_g_isWithin zl_340 rfl rfl rfl rfl rfl (fun _ e => k_g_isWithin _ _ _ _ _ e) (fun x3 hf => ?_)
      refine zIne hf (tgt := 28) rfl (by decide) (fun hc hf => ?_) (fun hc hf => ?_)
      · refine zB zlokG 1 (pc' := 27) (ls' := [(0, .ref 0), (1, .int a0), (2, .int a1), (3, .int a2)]) (st' := [.int (-1)]) (s' := x3.2) rfl ?_
        exact zRetI hf rfl rfl
      · refine zB zlokG 8 (pc' := 44) (ls' := [(0, .ref 0), (1, .int a0), (2, .int a1), (3, .int a2)]) (st' := [.int 3, .ref 2, .ref 1, .ref 16]) (s' := x3.2) rfl ?_
        refine zIald hf rfl (by rfl) (fun x4 hf => ?_)
        refine zXV hf (As := [.ref 1, .int x4]) (rest := []) 2 zmk_ls_begin zok_ls_begin zl_523 rfl rfl rfl rfl rfl rfl rfl rfl (fun _ e => k_ls_begin _ _ _ e) (fun x5 hf => ?_)
        refine zB zlokG 4 (pc' := 56) (ls' := [(0, .ref 0), (1, .int a0), (2, .int a1), (3, .int a2)]) (st' := [.int a0, .ref 7]) (s' := x5) rfl ?_
        refine zIald hf rfl (by rfl) (fun x6 hf => ?_)
        refine zB zlokG 2 (pc' := 60) (ls' := [(4, .int x6), (0, .ref 0), (1, .int a0), (2, .int a1), (3, .int a2)]) (st' := [.int a2]) (s' := x5) rfl ?_
        refine zIne hf (tgt := 77) rfl (by decide) (fun hc hf => ?_) (fun hc hf => ?_)
        · refine zB zlokG 5 (pc' := 71) (ls' := [(4, .int x6), (0, .ref 0), (1, .int a0), (2, .int a1), (3, .int a2)]) (st' := [.int a1, .int x6, .int a0, .ref 16]) (s' := x5) rfl ?_
          refine zXI hf (As := [.int a0, .int x6, .int a1]) (rest := []) 3 zmk_ls_tasteOf zok_ls_tasteOf zl_529 rfl rfl rfl rfl rfl rfl rfl rfl (fun _ e => k_ls_tasteOf _ _ _ _ _ e) (fun x7 hf => ?_)
          refine zGoto (tgt := 88) rfl (by decide) ?_
          exact zRetI hf rfl rfl
        · refine zB zlokG 5 (pc' := 85) (ls' := [(4, .int x6), (0, .ref 0), (1, .int a0), (2, .int a1), (3, .int a2)]) (st' := [.int a1, .int x6, .int a0, .ref 16]) (s' := x5) rfl ?_
          refine zXI hf (As := [.int a0, .int x6, .int a1]) (rest := []) 3 zmk_ls_buysOf zok_ls_buysOf zl_555 rfl rfl rfl rfl rfl rfl rfl rfl (fun _ e => k_ls_buysOf _ _ _ _ _ e) (fun x8 hf => ?_)
          exact zRetI hf rfl rfl
set_option maxRecDepth 20000 in
theorem c_f_g_spend_15 (oD : Nat) (hD : zDyAt oD) {r : zSt} : ∀ (n : Nat) (v5 : Int32) (s : zSt), f_g_spend_15 oD n v5 s = some r → zWA zm_g_spend ΛG 5 (none, r) 15 [(0, .ref 0), (1, .ref oD), (5, .int v5)] [] s := by
  intro n
  induction n with
  | zero => intro v5 s hf; cases hf
  | succ n ih =>
    intro v5 s hf
    refine zB zlokG 2 (pc' := 19) (ls' := [(0, .ref 0), (1, .ref oD), (5, .int v5)]) (st' := [.int 32, .int v5]) (s' := s) rfl ?_
    refine zCge hf (tgt := 42) rfl (by decide) (fun hc hf => ?_) (fun hc hf => ?_)
    · exact zRetV hf rfl rfl
    · refine zB zlokG 6 (pc' := 33) (ls' := [(0, .ref 0), (1, .ref oD), (5, .int v5)]) (st' := [.ref 16, .ref 6, .int v5, .ref oD]) (s' := s) rfl ?_
      refine zXV hf (As := [.int v5, .ref 6, .ref 16]) (rest := []) 3 zmk_dy_pass zok_dy_pass zl_580 rfl hD.1 rfl rfl rfl rfl rfl rfl (fun _ e => k_dy_pass _ _ hD _ _ e) (fun x2 hf => ?_)
      refine zB zlokG 1 (pc' := 39) (ls' := [(5, .int (v5 + 1)), (0, .ref 0), (1, .ref oD)]) (st' := []) (s' := x2) rfl ?_
      refine zGoto (tgt := 15) rfl (by decide) ?_
      refine zLoc [1, 2, 0] rfl ?_
      exact ih _ _ hf
set_option maxRecDepth 20000 in
theorem k_g_spend (oD : Nat) (a1 : Int32) (a2 : Int32) (a3 : Int32) (hD : zDyAt oD) (s : zSt) (r : zSt) (hf : f_g_spend oD a1 a2 a3 s = some r) : zKp zm_g_spend ΛG 5 [.ref 0, .ref oD, .int a1, .int a2, .int a3] s (none, r) := by
  refine zKp_of zmk_g_spend rfl ?_
  show zWA _ _ _ _ _ [(0, .ref 0), (1, .ref oD), (2, .int a1), (3, .int a2), (4, .int a3)] _ _
  refine zB zlokG 6 (pc' := 9) (ls' := [(0, .ref 0), (1, .ref oD), (2, .int a1), (3, .int a2), (4, .int a3)]) (st' := [.int a3, .int a2, .ref 1, .int a1, .ref oD]) (s' := s) rfl ?_
  refine zXV hf (As := [.int a1, .ref 1, .int a2, .int a3]) (rest := []) 4 zmk_dy_begin zok_dy_begin zl_570 rfl hD.1 rfl rfl rfl rfl rfl rfl (fun _ e => k_dy_begin _ _ _ _ hD _ _ e) (fun x1 hf => ?_)
  refine zB zlokG 2 (pc' := 15) (ls' := [(5, .int 0), (0, .ref 0), (1, .ref oD), (2, .int a1), (3, .int a2), (4, .int a3)]) (st' := []) (s' := x1) rfl ?_
  refine zLoc [1, 2, 0] rfl ?_
  exact c_f_g_spend_15 oD hD zFu _ _ hf
set_option maxRecDepth 20000 in
theorem k_g_day (a0 : Int32) (s : zSt) (r : Int32 × zSt) (hf : f_g_day a0 s = some r) : zKp zm_g_day ΛG 6 [.ref 0, .int a0] s (some (.int r.1), r.2) := by
  refine zKp_of zmk_g_day rfl ?_
  show zWA _ _ _ _ _ [(0, .ref 0), (1, .int a0)] _ _
  refine zB zlokG 8 (pc' := 16) (ls' := [(0, .ref 0), (1, .int a0)]) (st' := [.int 3, .ref 2, .ref 1, .ref 16]) (s' := s) rfl ?_
  refine zIald hf rfl (by rfl) (fun x1 hf => ?_)
  refine zXV hf (As := [.ref 1, .int x1]) (rest := []) 2 zmk_ls_begin zok_ls_begin zl_523 rfl rfl rfl rfl rfl rfl rfl rfl (fun _ e => k_ls_begin _ _ _ e) (fun x2 hf => ?_)
  refine zB zlokG 8 (pc' := 34) (ls' := [(0, .ref 0), (1, .int a0)]) (st' := [.int 3, .ref 2, .int a0, .ref 25, .ref 0]) (s' := x2) rfl ?_
  refine zIald hf rfl (by rfl) (fun x3 hf => ?_)
  refine zB zlokG 4 (pc' := 44) (ls' := [(0, .ref 0), (1, .int a0)]) (st' := [.int 7, .ref 2, .int x3, .int a0, .ref 25, .ref 0]) (s' := x2) rfl ?_
  refine zIald hf rfl (by rfl) (fun x4 hf => ?_)
  refine zXV hf (As := [.ref 25, .int a0, .int x3, .int x4]) (rest := []) 4 zmk_g_spend zok_g_spend zl_566 rfl rfl rfl rfl rfl rfl rfl rfl (fun _ e => k_g_spend _ _ _ _ (by exact ⟨rfl, rfl⟩) _ _ e) (fun x5 hf => ?_)
  refine zB zlokG 6 (pc' := 60) (ls' := [(0, .ref 0), (1, .int a0)]) (st' := [.int ((zw x5 0 6 1).1 25 1)]) (s' := (zw x5 0 6 1)) rfl ?_
  exact zRetI hf rfl rfl
set_option maxRecDepth 20000 in
theorem c_f_g_told_38 {r : Int32 × zSt} : ∀ (v1 : Int32) (v2 : Int32) (v3 : Int32) (s : zSt), f_g_told_38 v1 v2 v3 s = some r → zWA zm_g_told ΛG 2 (some (.int r.1), r.2) 38 [(0, .ref 0), (1, .int v1), (2, .int v2), (3, .int v3)] [] s := by
  intro v1 v2 v3 s hf
  refine zB zlokG 2 (pc' := 42) (ls' := [(0, .ref 0), (1, .int v1), (2, .int v2), (3, .int v3)]) (st' := [.int (s.1 0 6)]) (s' := s) rfl ?_
  refine zIne hf (tgt := 48) rfl (by decide) (fun hc hf => ?_) (fun hc hf => ?_)
  · refine zB zlokG 1 (pc' := 47) (ls' := [(0, .ref 0), (1, .int v1), (2, .int v2), (3, .int v3)]) (st' := [.int (-5)]) (s' := s) rfl ?_
    exact zRetI hf rfl rfl
  · refine zB zlokG 1 (pc' := 49) (ls' := [(0, .ref 0), (1, .int v1), (2, .int v2), (3, .int v3)]) (st' := [.int v2]) (s' := s) rfl ?_
    refine zIeq hf (tgt := 65) rfl (by decide) (fun hc hf => ?_) (fun hc hf => ?_)
    · refine zB zlokG 1 (pc' := 66) (ls' := [(0, .ref 0), (1, .int v1), (2, .int v2), (3, .int v3)]) (st' := [.int v3]) (s' := s) rfl ?_
      refine zIeq hf (tgt := 93) rfl (by decide) (fun hc hf => ?_) (fun hc hf => ?_)
      · refine zB zlokG 3 (pc' := 98) (ls' := [(0, .ref 0), (1, .int v1), (2, .int v2), (3, .int v3)]) (st' := [.int v1, .ref 25]) (s' := s) rfl ?_
        refine zXI hf (As := [.int v1]) (rest := []) 1 zmk_dy_total zok_dy_total zl_608 rfl rfl rfl rfl rfl rfl rfl rfl (fun _ e => k_dy_total _ _ (by exact ⟨rfl, rfl⟩) _ _ e) (fun x4 hf => ?_)
        exact zRetI hf rfl rfl
      · refine zB zlokG 6 (pc' := 81) (ls' := [(0, .ref 0), (1, .int v1), (2, .int v2), (3, .int v3)]) (st' := [.int (v1 - 200), .ref 26]) (s' := s) rfl ?_
        refine zIald hf rfl (by rfl) (fun x5 hf => ?_)
        refine zB zlokG 4 (pc' := 90) (ls' := [(0, .ref 0), (1, .int v1), (2, .int v2), (3, .int v3)]) (st' := [.int (x5 * (s.1 25 2))]) (s' := s) rfl ?_
        refine zGoto (tgt := 101) rfl (by decide) ?_
        exact zRetI hf rfl rfl
    · refine zB zlokG 6 (pc' := 63) (ls' := [(0, .ref 0), (1, .int v1), (2, .int v2), (3, .int v3)]) (st' := [.int (v1 - 100), .ref 26]) (s' := s) rfl ?_
      refine zIald hf rfl (by rfl) (fun x6 hf => ?_)
      exact zRetI hf rfl rfl
set_option maxRecDepth 20000 in
theorem k_g_told (a0 : Int32) (s : zSt) (r : Int32 × zSt) (hf : f_g_told a0 s = some r) : zKp zm_g_told ΛG 2 [.ref 0, .int a0] s (some (.int r.1), r.2) := by
  refine zKp_of zmk_g_told rfl ?_
  show zWA _ _ _ _ _ [(0, .ref 0), (1, .int a0)] _ _
  refine zB zlokG 3 (pc' := 4) (ls' := [(0, .ref 0), (1, .int a0)]) (st' := [.int (a0 - 100)]) (s' := s) rfl ?_
  refine zSI hf (As := [.int (a0 - 100)]) (rest := []) 1 zmk_g_isQuarter zok_g_isQuarter zl_337 rfl rfl rfl rfl rfl (fun _ e => k_g_isQuarter _ _ _ e) (fun x1 hf => ?_)
  refine zB zlokG 4 (pc' := 13) (ls' := [(2, .int x1.1), (0, .ref 0), (1, .int a0)]) (st' := [.int (a0 - 200)]) (s' := x1.2) rfl ?_
  refine zSI hf (As := [.int (a0 - 200)]) (rest := []) 1 zmk_g_isQuarter zok_g_isQuarter zl_337 rfl rfl rfl rfl rfl (fun _ e => k_g_isQuarter _ _ _ e) (fun x2 hf => ?_)
  refine zB zlokG 4 (pc' := 21) (ls' := [(3, .int x2.1), (2, .int x1.1), (0, .ref 0), (1, .int a0)]) (st' := [.int 7, .int 0, .int a0]) (s' := x2.2) rfl ?_
  refine zSI hf (As := [.int a0, .int 0, .int 7]) (rest := []) 3 zmk_g_isWithin zok_g_isWithin zl_340 rfl rfl rfl rfl rfl (fun _ e => k_g_isWithin _ _ _ _ _ e) (fun x3 hf => ?_)
  refine zIne hf (tgt := 38) rfl (by decide) (fun hc hf => ?_) (fun hc hf => ?_)
  · refine zB zlokG 1 (pc' := 28) (ls' := [(3, .int x2.1), (2, .int x1.1), (0, .ref 0), (1, .int a0)]) (st' := [.int x1.1]) (s' := x3.2) rfl ?_
    refine zIne hf (tgt := 38) rfl (by decide) (fun hc hf => ?_) (fun hc hf => ?_)
    · refine zB zlokG 1 (pc' := 32) (ls' := [(3, .int x2.1), (2, .int x1.1), (0, .ref 0), (1, .int a0)]) (st' := [.int x2.1]) (s' := x3.2) rfl ?_
      refine zIne hf (tgt := 38) rfl (by decide) (fun hc hf => ?_) (fun hc hf => ?_)
      · refine zB zlokG 1 (pc' := 37) (ls' := [(3, .int x2.1), (2, .int x1.1), (0, .ref 0), (1, .int a0)]) (st' := [.int (-2000000000)]) (s' := x3.2) rfl ?_
        exact zRetI hf rfl rfl
      · refine zLoc [2, 3, 1, 0] rfl ?_
        exact c_f_g_told_38 _ _ _ _ hf
    · refine zLoc [2, 3, 1, 0] rfl ?_
      exact c_f_g_told_38 _ _ _ _ hf
  · refine zLoc [2, 3, 1, 0] rfl ?_
    exact c_f_g_told_38 _ _ _ _ hf
set_option maxRecDepth 20000 in
theorem c_f_g_best_101 {r : Int32 × zSt} (k32 : Int32 → Int32 → Int32 → Int32 → Int32 → Int32 → zSt → Option (Int32 × zSt)) (hk32 : ∀ (v1 : Int32) (v2 : Int32) (v3 : Int32) (v4 : Int32) (v5 : Int32) (v6 : Int32) (s : zSt), k32 v1 v2 v3 v4 v5 v6 s = some r → zWA zm_g_best ΛG 6 (some (.int r.1), r.2) 32 [(0, .ref 0), (1, .int v1), (2, .int v2), (3, .int v3), (4, .int v4), (5, .int v5), (6, .int v6)] [] s) : ∀ (v1 : Int32) (v2 : Int32) (v3 : Int32) (v4 : Int32) (v5 : Int32) (v6 : Int32) (v7 : Int32) (v8 : Int32) (s : zSt), f_g_best_101 k32 v1 v2 v3 v4 v5 v6 v7 v8 s = some r → zWA zm_g_best ΛG 6 (some (.int r.1), r.2) 101 [(0, .ref 0), (1, .int v1), (2, .int v2), (3, .int v3), (4, .int v4), (5, .int v5), (6, .int v6), (7, .int v7), (8, .int v8)] [] s := by
  intro v1 v2 v3 v4 v5 v6 v7 v8 s hf
  refine zB zlokG 6 (pc' := 111) (ls' := [(0, .ref 0), (1, .int v1), (2, .int v2), (3, .int v3), (4, .int v4), (5, .int v5), (6, .int v6), (7, .int v7), (8, .int v8)]) (st' := [.int v8, .int v7, .int v1, .ref 27, .ref 0]) (s' := s) rfl ?_
  refine zXV hf (As := [.ref 27, .int v1, .int v7, .int v8]) (rest := []) 4 zmk_g_spend zok_g_spend zl_566 rfl rfl rfl rfl rfl rfl rfl rfl (fun _ e => k_g_spend _ _ _ _ (by exact ⟨rfl, rfl⟩) _ _ e) (fun x5 hf => ?_)
  refine zB zlokG 1 (pc' := 116) (ls' := [(0, .ref 0), (1, .int v1), (2, .int v2), (3, .int v3), (4, .int v4), (5, .int v5), (6, .int v6), (7, .int v7), (8, .int v8)]) (st' := [.int v6]) (s' := x5) rfl ?_
  refine zIeq hf (tgt := 131) rfl (by decide) (fun hc hf => ?_) (fun hc hf => ?_)
  · refine zB zlokG 4 (pc' := 139) (ls' := [(4, .int v6), (0, .ref 0), (1, .int v1), (2, .int v2), (3, .int v3), (5, .int v5), (6, .int v6), (7, .int v7), (8, .int v8)]) (st' := [.ref 27]) (s' := x5) rfl ?_
    refine zXI hf (As := []) (rest := []) 0 zmk_dy_gain zok_dy_gain zl_620 rfl rfl rfl rfl rfl rfl rfl rfl (fun _ e => k_dy_gain _ (by exact ⟨rfl, rfl⟩) _ _ e) (fun x6 hf => ?_)
    refine zB zlokG 2 (pc' := 147) (ls' := [(6, .int (v6 + 1)), (5, .int x6.1), (4, .int v6), (0, .ref 0), (1, .int v1), (2, .int v2), (3, .int v3), (7, .int v7), (8, .int v8)]) (st' := []) (s' := x6.2) rfl ?_
    refine zGoto (tgt := 32) rfl (by decide) ?_
    refine zLoc [3, 4, 5, 6, 2, 1, 0] rfl ?_
    exact hk32 _ _ _ _ _ _ _ hf
  · refine zB zlokG 2 (pc' := 123) (ls' := [(0, .ref 0), (1, .int v1), (2, .int v2), (3, .int v3), (4, .int v4), (5, .int v5), (6, .int v6), (7, .int v7), (8, .int v8)]) (st' := [.ref 27]) (s' := x5) rfl ?_
    refine zXI hf (As := []) (rest := []) 0 zmk_dy_gain zok_dy_gain zl_620 rfl rfl rfl rfl rfl rfl rfl rfl (fun _ e => k_dy_gain _ (by exact ⟨rfl, rfl⟩) _ _ e) (fun x7 hf => ?_)
    refine zB zlokG 1 (pc' := 128) (ls' := [(0, .ref 0), (1, .int v1), (2, .int v2), (3, .int v3), (4, .int v4), (5, .int v5), (6, .int v6), (7, .int v7), (8, .int v8)]) (st' := [.int v5, .int x7.1]) (s' := x7.2) rfl ?_
    refine zCle hf (tgt := 144) rfl (by decide) (fun hc hf => ?_) (fun hc hf => ?_)
    · refine zB zlokG 1 (pc' := 147) (ls' := [(6, .int (v6 + 1)), (0, .ref 0), (1, .int v1), (2, .int v2), (3, .int v3), (4, .int v4), (5, .int v5), (7, .int v7), (8, .int v8)]) (st' := []) (s' := x7.2) rfl ?_
      refine zGoto (tgt := 32) rfl (by decide) ?_
      refine zLoc [1, 2, 3, 4, 5, 6, 0] rfl ?_
      exact hk32 _ _ _ _ _ _ _ hf
    · refine zB zlokG 4 (pc' := 139) (ls' := [(4, .int v6), (0, .ref 0), (1, .int v1), (2, .int v2), (3, .int v3), (5, .int v5), (6, .int v6), (7, .int v7), (8, .int v8)]) (st' := [.ref 27]) (s' := x7.2) rfl ?_
      refine zXI hf (As := []) (rest := []) 0 zmk_dy_gain zok_dy_gain zl_620 rfl rfl rfl rfl rfl rfl rfl rfl (fun _ e => k_dy_gain _ (by exact ⟨rfl, rfl⟩) _ _ e) (fun x8 hf => ?_)
      refine zB zlokG 2 (pc' := 147) (ls' := [(6, .int (v6 + 1)), (5, .int x8.1), (4, .int v6), (0, .ref 0), (1, .int v1), (2, .int v2), (3, .int v3), (7, .int v7), (8, .int v8)]) (st' := []) (s' := x8.2) rfl ?_
      refine zGoto (tgt := 32) rfl (by decide) ?_
      refine zLoc [3, 4, 5, 6, 2, 1, 0] rfl ?_
      exact hk32 _ _ _ _ _ _ _ hf
set_option maxRecDepth 20000 in
theorem c_f_g_best_88 {r : Int32 × zSt} (k32 : Int32 → Int32 → Int32 → Int32 → Int32 → Int32 → zSt → Option (Int32 × zSt)) (hk32 : ∀ (v1 : Int32) (v2 : Int32) (v3 : Int32) (v4 : Int32) (v5 : Int32) (v6 : Int32) (s : zSt), k32 v1 v2 v3 v4 v5 v6 s = some r → zWA zm_g_best ΛG 6 (some (.int r.1), r.2) 32 [(0, .ref 0), (1, .int v1), (2, .int v2), (3, .int v3), (4, .int v4), (5, .int v5), (6, .int v6)] [] s) : ∀ (v1 : Int32) (v2 : Int32) (v3 : Int32) (v4 : Int32) (v5 : Int32) (v6 : Int32) (v7 : Int32) (v8 : Int32) (s : zSt), f_g_best_88 k32 v1 v2 v3 v4 v5 v6 v7 v8 s = some r → zWA zm_g_best ΛG 6 (some (.int r.1), r.2) 88 [(0, .ref 0), (1, .int v1), (2, .int v2), (3, .int v3), (4, .int v4), (5, .int v5), (6, .int v6), (7, .int v7), (8, .int v8)] [] s := by
  intro v1 v2 v3 v4 v5 v6 v7 v8 s hf
  refine zB zlokG 5 (pc' := 98) (ls' := [(0, .ref 0), (1, .int v1), (2, .int v2), (3, .int v3), (4, .int v4), (5, .int v5), (6, .int v6), (7, .int v7), (8, .int v8)]) (st' := [.int v7, .ref 1, .ref 16]) (s' := s) rfl ?_
  refine zXV hf (As := [.ref 1, .int v7]) (rest := []) 2 zmk_ls_begin zok_ls_begin zl_523 rfl rfl rfl rfl rfl rfl rfl rfl (fun _ e => k_ls_begin _ _ _ e) (fun x4 hf => ?_)
  refine zLoc [0, 1, 2, 3, 4, 5, 6, 7, 8] rfl ?_
  exact c_f_g_best_101 _ hk32 _ _ _ _ _ _ _ _ _ hf
set_option maxRecDepth 20000 in
theorem c_f_g_best_77 {r : Int32 × zSt} (k32 : Int32 → Int32 → Int32 → Int32 → Int32 → Int32 → zSt → Option (Int32 × zSt)) (hk32 : ∀ (v1 : Int32) (v2 : Int32) (v3 : Int32) (v4 : Int32) (v5 : Int32) (v6 : Int32) (s : zSt), k32 v1 v2 v3 v4 v5 v6 s = some r → zWA zm_g_best ΛG 6 (some (.int r.1), r.2) 32 [(0, .ref 0), (1, .int v1), (2, .int v2), (3, .int v3), (4, .int v4), (5, .int v5), (6, .int v6)] [] s) : ∀ (v1 : Int32) (v2 : Int32) (v3 : Int32) (v4 : Int32) (v5 : Int32) (v6 : Int32) (v7 : Int32) (w0 : Int32) (s : zSt), f_g_best_77 k32 v1 v2 v3 v4 v5 v6 v7 w0 s = some r → zWA zm_g_best ΛG 6 (some (.int r.1), r.2) 77 [(0, .ref 0), (1, .int v1), (2, .int v2), (3, .int v3), (4, .int v4), (5, .int v5), (6, .int v6), (7, .int v7)] [.int w0] s := by
  intro v1 v2 v3 v4 v5 v6 v7 w0 s hf
  refine zB zlokG 2 (pc' := 80) (ls' := [(8, .int w0), (0, .ref 0), (1, .int v1), (2, .int v2), (3, .int v3), (4, .int v4), (5, .int v5), (6, .int v6), (7, .int v7)]) (st' := [.int v2]) (s' := s) rfl ?_
  refine zIeq hf (tgt := 88) rfl (by decide) (fun hc hf => ?_) (fun hc hf => ?_)
  · refine zLoc [1, 2, 3, 4, 5, 6, 7, 8, 0] rfl ?_
    exact c_f_g_best_88 _ hk32 _ _ _ _ _ _ _ _ _ hf
  · refine zB zlokG 1 (pc' := 85) (ls' := [(8, .int w0), (0, .ref 0), (1, .int v1), (2, .int v2), (3, .int v3), (4, .int v4), (5, .int v5), (6, .int v6), (7, .int v7)]) (st' := [.int v6]) (s' := s) rfl ?_
    refine zIne hf (tgt := 101) rfl (by decide) (fun hc hf => ?_) (fun hc hf => ?_)
    · refine zLoc [1, 2, 3, 4, 5, 6, 7, 8, 0] rfl ?_
      exact c_f_g_best_88 _ hk32 _ _ _ _ _ _ _ _ _ hf
    · refine zLoc [1, 2, 3, 4, 5, 6, 7, 8, 0] rfl ?_
      exact c_f_g_best_101 _ hk32 _ _ _ _ _ _ _ _ _ hf
set_option maxRecDepth 20000 in
theorem c_f_g_best_56 {r : Int32 × zSt} (k32 : Int32 → Int32 → Int32 → Int32 → Int32 → Int32 → zSt → Option (Int32 × zSt)) (hk32 : ∀ (v1 : Int32) (v2 : Int32) (v3 : Int32) (v4 : Int32) (v5 : Int32) (v6 : Int32) (s : zSt), k32 v1 v2 v3 v4 v5 v6 s = some r → zWA zm_g_best ΛG 6 (some (.int r.1), r.2) 32 [(0, .ref 0), (1, .int v1), (2, .int v2), (3, .int v3), (4, .int v4), (5, .int v5), (6, .int v6)] [] s) : ∀ (v1 : Int32) (v2 : Int32) (v3 : Int32) (v4 : Int32) (v5 : Int32) (v6 : Int32) (w0 : Int32) (s : zSt), f_g_best_56 k32 v1 v2 v3 v4 v5 v6 w0 s = some r → zWA zm_g_best ΛG 6 (some (.int r.1), r.2) 56 [(0, .ref 0), (1, .int v1), (2, .int v2), (3, .int v3), (4, .int v4), (5, .int v5), (6, .int v6)] [.int w0] s := by
  intro v1 v2 v3 v4 v5 v6 w0 s hf
  refine zB zlokG 2 (pc' := 59) (ls' := [(7, .int w0), (0, .ref 0), (1, .int v1), (2, .int v2), (3, .int v3), (4, .int v4), (5, .int v5), (6, .int v6)]) (st' := [.int v2]) (s' := s) rfl ?_
  refine zIne hf (tgt := 75) rfl (by decide) (fun hc hf => ?_) (fun hc hf => ?_)
  · refine zB zlokG 4 (pc' := 71) (ls' := [(7, .int w0), (0, .ref 0), (1, .int v1), (2, .int v2), (3, .int v3), (4, .int v4), (5, .int v5), (6, .int v6)]) (st' := [.int 7, .ref 2]) (s' := s) rfl ?_
    refine zIald hf rfl (by rfl) (fun x3 hf => ?_)
    refine zGoto (tgt := 77) rfl (by decide) ?_
    refine zLoc [1, 2, 3, 4, 5, 6, 7, 0] rfl ?_
    exact c_f_g_best_77 _ hk32 _ _ _ _ _ _ _ _ _ hf
  · refine zB zlokG 1 (pc' := 77) (ls' := [(7, .int w0), (0, .ref 0), (1, .int v1), (2, .int v2), (3, .int v3), (4, .int v4), (5, .int v5), (6, .int v6)]) (st' := [.int v6]) (s' := s) rfl ?_
    refine zLoc [1, 2, 3, 4, 5, 6, 7, 0] rfl ?_
    exact c_f_g_best_77 _ hk32 _ _ _ _ _ _ _ _ _ hf
set_option maxRecDepth 20000 in
theorem c_f_g_best_32 {r : Int32 × zSt} : ∀ (n : Nat) (v1 : Int32) (v2 : Int32) (v3 : Int32) (v4 : Int32) (v5 : Int32) (v6 : Int32) (s : zSt), f_g_best_32 n v1 v2 v3 v4 v5 v6 s = some r → zWA zm_g_best ΛG 6 (some (.int r.1), r.2) 32 [(0, .ref 0), (1, .int v1), (2, .int v2), (3, .int v3), (4, .int v4), (5, .int v5), (6, .int v6)] [] s := by
  intro n
  induction n with
  | zero => intro v1 v2 v3 v4 v5 v6 s hf; cases hf
  | succ n ih =>
    intro v1 v2 v3 v4 v5 v6 s hf
    refine zB zlokG 2 (pc' := 35) (ls' := [(0, .ref 0), (1, .int v1), (2, .int v2), (3, .int v3), (4, .int v4), (5, .int v5), (6, .int v6)]) (st' := [.int v3, .int v6]) (s' := s) rfl ?_
    refine zCgt hf (tgt := 150) rfl (by decide) (fun hc hf => ?_) (fun hc hf => ?_)
    · refine zB zlokG 1 (pc' := 152) (ls' := [(0, .ref 0), (1, .int v1), (2, .int v2), (3, .int v3), (4, .int v4), (5, .int v5), (6, .int v6)]) (st' := [.int v4]) (s' := s) rfl ?_
      exact zRetI hf rfl rfl
    · refine zB zlokG 1 (pc' := 39) (ls' := [(0, .ref 0), (1, .int v1), (2, .int v2), (3, .int v3), (4, .int v4), (5, .int v5), (6, .int v6)]) (st' := [.int v2]) (s' := s) rfl ?_
      refine zIne hf (tgt := 47) rfl (by decide) (fun hc hf => ?_) (fun hc hf => ?_)
      · refine zB zlokG 1 (pc' := 44) (ls' := [(0, .ref 0), (1, .int v1), (2, .int v2), (3, .int v3), (4, .int v4), (5, .int v5), (6, .int v6)]) (st' := [.int v6]) (s' := s) rfl ?_
        refine zGoto (tgt := 56) rfl (by decide) ?_
        refine zLoc [0, 1, 2, 3, 4, 5, 6] rfl ?_
        exact c_f_g_best_56 _ ih _ _ _ _ _ _ _ _ hf
      · refine zB zlokG 4 (pc' := 55) (ls' := [(0, .ref 0), (1, .int v1), (2, .int v2), (3, .int v3), (4, .int v4), (5, .int v5), (6, .int v6)]) (st' := [.int 3, .ref 2]) (s' := s) rfl ?_
        refine zIald hf rfl (by rfl) (fun x2 hf => ?_)
        refine zLoc [0, 1, 2, 3, 4, 5, 6] rfl ?_
        exact c_f_g_best_56 _ ih _ _ _ _ _ _ _ _ hf
set_option maxRecDepth 20000 in
theorem k_g_best (a0 : Int32) (a1 : Int32) (s : zSt) (r : Int32 × zSt) (hf : f_g_best a0 a1 s = some r) : zKp zm_g_best ΛG 6 [.ref 0, .int a0, .int a1] s (some (.int r.1), r.2) := by
  refine zKp_of zmk_g_best rfl ?_
  show zWA _ _ _ _ _ [(0, .ref 0), (1, .int a0), (2, .int a1)] _ _
  refine zB zlokG 3 (pc' := 3) (ls' := [(0, .ref 0), (1, .int a0), (2, .int a1)]) (st' := [.int 1, .int 0, .int a1]) (s' := s) rfl ?_
  refine zSI hf (As := [.int a1, .int 0, .int 1]) (rest := []) 3 zmk_g_isWithin zok_g_isWithin zl_340 rfl rfl rfl rfl rfl (fun _ e => k_g_isWithin _ _ _ _ _ e) (fun x1 hf => ?_)
  refine zIne hf (tgt := 11) rfl (by decide) (fun hc hf => ?_) (fun hc hf => ?_)
  · refine zB zlokG 1 (pc' := 10) (ls' := [(0, .ref 0), (1, .int a0), (2, .int a1)]) (st' := [.int (-1)]) (s' := x1.2) rfl ?_
    exact zRetI hf rfl rfl
  · refine zB zlokG 1 (pc' := 12) (ls' := [(0, .ref 0), (1, .int a0), (2, .int a1)]) (st' := [.int a1]) (s' := x1.2) rfl ?_
    refine zIne hf (tgt := 20) rfl (by decide) (fun hc hf => ?_) (fun hc hf => ?_)
    · refine zB zlokG 1 (pc' := 17) (ls' := [(0, .ref 0), (1, .int a0), (2, .int a1)]) (st' := [.int 50]) (s' := x1.2) rfl ?_
      refine zGoto (tgt := 22) rfl (by decide) ?_
      refine zB zlokG 7 (pc' := 32) (ls' := [(6, .int 0), (5, .int 0), (4, .int 0), (3, .int 50), (0, .ref 0), (1, .int a0), (2, .int a1)]) (st' := []) (s' := x1.2) rfl ?_
      refine zLoc [4, 5, 6, 3, 2, 1, 0] rfl ?_
      exact c_f_g_best_32 zFu _ _ _ _ _ _ _ hf
    · refine zB zlokG 8 (pc' := 32) (ls' := [(6, .int 0), (5, .int 0), (4, .int 0), (3, .int 9), (0, .ref 0), (1, .int a0), (2, .int a1)]) (st' := []) (s' := x1.2) rfl ?_
      refine zLoc [4, 5, 6, 3, 2, 1, 0] rfl ?_
      exact c_f_g_best_32 zFu _ _ _ _ _ _ _ hf
set_option maxRecDepth 20000 in
theorem c_f_g_where_30 {r : Int32 × zSt} : ∀ (v1 : Int32) (v2 : Int32) (s : zSt), f_g_where_30 v1 v2 s = some r → zWA zm_g_where ΛG 4 (some (.int r.1), r.2) 30 [(0, .ref 0), (1, .int v1), (2, .int v2)] [] s := by
  intro v1 v2 s hf
  refine zB zlokG 3 (pc' := 37) (ls' := [(0, .ref 0), (1, .int v1), (2, .int v2)]) (st' := [.int (s.1 6 3)]) (s' := s) rfl ?_
  refine zIne hf (tgt := 43) rfl (by decide) (fun hc hf => ?_) (fun hc hf => ?_)
  · refine zB zlokG 1 (pc' := 42) (ls' := [(0, .ref 0), (1, .int v1), (2, .int v2)]) (st' := [.int (-5)]) (s' := s) rfl ?_
    exact zRetI hf rfl rfl
  · refine zB zlokG 8 (pc' := 55) (ls' := [(0, .ref 0), (1, .int v1), (2, .int v2)]) (st' := [.int (zrem v1 100), .int (v1 / 100), .ref 6]) (s' := s) rfl ?_
    refine zXV hf (As := [.int (v1 / 100), .int (zrem v1 100)]) (rest := []) 2 zmk_st_lookAhead zok_st_lookAhead zl_625 rfl rfl rfl rfl rfl rfl rfl rfl (fun _ e => k_st_lookAhead _ _ _ _ e) (fun x3 hf => ?_)
    refine zB zlokG 2 (pc' := 60) (ls' := [(0, .ref 0), (1, .int v1), (2, .int v2)]) (st' := [.int (-1), .int v2]) (s' := x3) rfl ?_
    refine zCne hf (tgt := 78) rfl (by decide) (fun hc hf => ?_) (fun hc hf => ?_)
    · refine zB zlokG 6 (pc' := 72) (ls' := [(0, .ref 0), (1, .int v1), (2, .int v2)]) (st' := [.int (v1 / 100), .int (-1), .ref 6]) (s' := x3) rfl ?_
      refine zXI hf (As := [.int (-1), .int (v1 / 100)]) (rest := []) 2 zmk_st_mostFrom zok_st_mostFrom zl_637 rfl rfl rfl rfl rfl rfl rfl rfl (fun _ e => k_st_mostFrom _ _ _ _ e) (fun x4 hf => ?_)
      refine zGoto (tgt := 90) rfl (by decide) ?_
      exact zRetI hf rfl rfl
    · refine zB zlokG 6 (pc' := 87) (ls' := [(0, .ref 0), (1, .int v1), (2, .int v2)]) (st' := [.int v2, .int (v1 / 100), .ref 6]) (s' := x3) rfl ?_
      refine zXI hf (As := [.int (v1 / 100), .int v2]) (rest := []) 2 zmk_st_placeIn zok_st_placeIn zl_638 rfl rfl rfl rfl rfl rfl rfl rfl (fun _ e => k_st_placeIn _ _ _ _ e) (fun x5 hf => ?_)
      exact zRetI hf rfl rfl
set_option maxRecDepth 20000 in
theorem k_g_where (a0 : Int32) (a1 : Int32) (s : zSt) (r : Int32 × zSt) (hf : f_g_where a0 a1 s = some r) : zKp zm_g_where ΛG 4 [.ref 0, .int a0, .int a1] s (some (.int r.1), r.2) := by
  refine zKp_of zmk_g_where rfl ?_
  show zWA _ _ _ _ _ [(0, .ref 0), (1, .int a0), (2, .int a1)] _ _
  refine zB zlokG 1 (pc' := 1) (ls' := [(0, .ref 0), (1, .int a0), (2, .int a1)]) (st' := [.int a0]) (s' := s) rfl ?_
  refine zSI hf (As := [.int a0]) (rest := []) 1 zmk_g_isSpan zok_g_isSpan zl_380 rfl rfl rfl rfl rfl (fun _ e => k_g_isSpan _ _ _ e) (fun x1 hf => ?_)
  refine zIeq hf (tgt := 27) rfl (by decide) (fun hc hf => ?_) (fun hc hf => ?_)
  · refine zB zlokG 1 (pc' := 29) (ls' := [(0, .ref 0), (1, .int a0), (2, .int a1)]) (st' := [.int (-2000000000)]) (s' := x1.2) rfl ?_
    exact zRetI hf rfl rfl
  · refine zB zlokG 2 (pc' := 9) (ls' := [(0, .ref 0), (1, .int a0), (2, .int a1)]) (st' := [.int (-1), .int a1]) (s' := x1.2) rfl ?_
    refine zCeq hf (tgt := 30) rfl (by decide) (fun hc hf => ?_) (fun hc hf => ?_)
    · refine zLoc [0, 1, 2] rfl ?_
      exact c_f_g_where_30 _ _ _ hf
    · refine zB zlokG 7 (pc' := 21) (ls' := [(0, .ref 0), (1, .int a0), (2, .int a1)]) (st' := [.int (zrem a0 100), .int (a0 / 100), .int a1]) (s' := x1.2) rfl ?_
      refine zSI hf (As := [.int a1, .int (a0 / 100), .int (zrem a0 100)]) (rest := []) 3 zmk_g_isWithin zok_g_isWithin zl_340 rfl rfl rfl rfl rfl (fun _ e => k_g_isWithin _ _ _ _ _ e) (fun x2 hf => ?_)
      refine zIne hf (tgt := 30) rfl (by decide) (fun hc hf => ?_) (fun hc hf => ?_)
      · refine zB zlokG 1 (pc' := 29) (ls' := [(0, .ref 0), (1, .int a0), (2, .int a1)]) (st' := [.int (-2000000000)]) (s' := x2.2) rfl ?_
        exact zRetI hf rfl rfl
      · refine zLoc [0, 1, 2] rfl ?_
        exact c_f_g_where_30 _ _ _ hf
set_option maxRecDepth 20000 in
theorem c_f_g_firstWrong_33 (oS : Nat) (hS : zShAt oS) {r : Int32 × zSt} : ∀ (n : Nat) (v3 : Int32) (s : zSt), f_g_firstWrong_33 oS n v3 s = some r → zWA zm_g_firstWrong ΛG 5 (some (.int r.1), r.2) 33 [(0, .ref 0), (1, .ref oS), (3, .int v3)] [] s := by
  intro n
  induction n with
  | zero => intro v3 s hf; cases hf
  | succ n ih =>
    intro v3 s hf
    refine zB zlokG 2 (pc' := 36) (ls' := [(0, .ref 0), (1, .ref oS), (3, .int v3)]) (st' := [.int 32, .int v3]) (s' := s) rfl ?_
    refine zCge hf (tgt := 91) rfl (by decide) (fun hc hf => ?_) (fun hc hf => ?_)
    · refine zB zlokG 1 (pc' := 93) (ls' := [(0, .ref 0), (1, .ref oS), (3, .int v3)]) (st' := [.int (-2)]) (s' := s) rfl ?_
      exact zRetI hf rfl rfl
    · refine zB zlokG 2 (pc' := 41) (ls' := [(0, .ref 0), (1, .ref oS), (3, .int v3)]) (st' := [.ref oS, .int v3]) (s' := s) rfl ?_
      refine zGetI (j := 2) rfl rfl hS.1 rfl ?_
      refine zCge hf (tgt := 91) rfl (by decide) (fun hc hf => ?_) (fun hc hf => ?_)
      · refine zB zlokG 1 (pc' := 93) (ls' := [(0, .ref 0), (1, .ref oS), (3, .int v3)]) (st' := [.int (-2)]) (s' := s) rfl ?_
        exact zRetI hf rfl rfl
      · refine zB zlokG 7 (pc' := 60) (ls' := [(0, .ref 0), (1, .ref oS), (3, .int v3)]) (st' := [.ref 16, .ref 6, .int v3, .ref 27]) (s' := s) rfl ?_
        refine zXV hf (As := [.int v3, .ref 6, .ref 16]) (rest := []) 3 zmk_dy_pass zok_dy_pass zl_580 rfl rfl rfl rfl rfl rfl rfl rfl (fun _ e => k_dy_pass _ _ (by exact ⟨rfl, rfl⟩) _ _ e) (fun x4 hf => ?_)
        refine zB zlokG 4 (pc' := 71) (ls' := [(0, .ref 0), (1, .ref oS), (3, .int v3)]) (st' := [.int v3, .ref 28]) (s' := x4) rfl ?_
        refine zIald hf rfl (by rfl) (fun x5 hf => ?_)
        refine zB zlokG 2 (pc' := 74) (ls' := [(0, .ref 0), (1, .ref oS), (3, .int v3)]) (st' := [.ref oS, .long (x5 : Int32).toInt64]) (s' := x4) rfl ?_
        refine zGetR (j := 3) rfl rfl hS.1 rfl ?_
        refine zB zlokG 1 (pc' := 78) (ls' := [(0, .ref 0), (1, .ref oS), (3, .int v3)]) (st' := [.int v3, .ref (oS + 1), .long (x5 : Int32).toInt64]) (s' := x4) rfl ?_
        refine zLald hf rfl hS.2 (fun x6 hf => ?_)
        refine zB zlokG 1 (pc' := 80) (ls' := [(0, .ref 0), (1, .ref oS), (3, .int v3)]) (st' := [.int (lg_cmp (x5 : Int32).toInt64 x6)]) (s' := x4) rfl ?_
        refine zIeq hf (tgt := 85) rfl (by decide) (fun hc hf => ?_) (fun hc hf => ?_)
        · refine zB zlokG 1 (pc' := 88) (ls' := [(3, .int (v3 + 1)), (0, .ref 0), (1, .ref oS)]) (st' := []) (s' := x4) rfl ?_
          refine zGoto (tgt := 33) rfl (by decide) ?_
          refine zLoc [1, 2, 0] rfl ?_
          exact ih _ _ hf
        · refine zB zlokG 1 (pc' := 84) (ls' := [(0, .ref 0), (1, .ref oS), (3, .int v3)]) (st' := [.int v3]) (s' := x4) rfl ?_
          exact zRetI hf rfl rfl
set_option maxRecDepth 20000 in
theorem k_g_firstWrong (oS : Nat) (a1 : Int32) (hS : zShAt oS) (s : zSt) (r : Int32 × zSt) (hf : f_g_firstWrong oS a1 s = some r) : zKp zm_g_firstWrong ΛG 5 [.ref 0, .ref oS, .int a1] s (some (.int r.1), r.2) := by
  refine zKp_of zmk_g_firstWrong rfl ?_
  show zWA _ _ _ _ _ [(0, .ref 0), (1, .ref oS), (2, .int a1)] _ _
  refine zB zlokG 9 (pc' := 17) (ls' := [(0, .ref 0), (1, .ref oS), (2, .int a1)]) (st' := [.int 3, .ref 2, .ref 1, .int a1, .ref 27]) (s' := s) rfl ?_
  refine zIald hf rfl (by rfl) (fun x1 hf => ?_)
  refine zB zlokG 4 (pc' := 27) (ls' := [(0, .ref 0), (1, .ref oS), (2, .int a1)]) (st' := [.int 7, .ref 2, .int x1, .ref 1, .int a1, .ref 27]) (s' := s) rfl ?_
  refine zIald hf rfl (by rfl) (fun x2 hf => ?_)
  refine zXV hf (As := [.int a1, .ref 1, .int x1, .int x2]) (rest := []) 4 zmk_dy_begin zok_dy_begin zl_570 rfl rfl rfl rfl rfl rfl rfl rfl (fun _ e => k_dy_begin _ _ _ _ (by exact ⟨rfl, rfl⟩) _ _ e) (fun x3 hf => ?_)
  refine zB zlokG 2 (pc' := 33) (ls' := [(3, .int 0), (0, .ref 0), (1, .ref oS), (2, .int a1)]) (st' := []) (s' := x3) rfl ?_
  refine zLoc [1, 2, 0] rfl ?_
  exact c_f_g_firstWrong_33 oS hS zFu _ _ hf
set_option maxRecDepth 20000 in
theorem k_g_judge (a0 : Int32) (a1 : Int32) (s : zSt) (r : Int32 × zSt) (hf : f_g_judge a0 a1 s = some r) : zKp zm_g_judge ΛG 6 [.ref 0, .int a0, .int a1] s (some (.int r.1), r.2) := by
  refine zKp_of zmk_g_judge rfl ?_
  show zWA _ _ _ _ _ [(0, .ref 0), (1, .int a0), (2, .int a1)] _ _
  refine zB zlokG 2 (pc' := 2) (ls' := [(0, .ref 0), (1, .int a0), (2, .int a1)]) (st' := [.int a0, .ref 0]) (s' := s) rfl ?_
  refine zShelfAt hf zl_347 rfl rfl (by rfl) (fun j2 hj2 hf => ?_) (fun hf => ?_)
  · refine zB zlokG 2 (pc' := 7) (ls' := [(3, .ref (40 + 2 * j2)), (0, .ref 0), (1, .int a0), (2, .int a1)]) (st' := [.ref (40 + 2 * j2)]) (s' := s) rfl ?_
    refine zNon (tgt := 12) rfl (by decide) ?_
    refine zB zlokG 2 (pc' := 14) (ls' := [(3, .ref (40 + 2 * j2)), (0, .ref 0), (1, .int a0), (2, .int a1)]) (st' := [.int 1, .ref (40 + 2 * j2)]) (s' := s) rfl ?_
    refine zXI hf (As := [.int 1]) (rest := []) 1 zmk_sh_refusalOfSort zok_sh_refusalOfSort zl_650 rfl (zsh_at hj2).1 rfl rfl rfl rfl rfl rfl (fun _ e => k_sh_refusalOfSort _ _ (zsh_at hj2) _ _ e) (fun x3 hf => ?_)
    refine zB zlokG 2 (pc' := 21) (ls' := [(4, .int x3.1), (3, .ref (40 + 2 * j2)), (0, .ref 0), (1, .int a0), (2, .int a1)]) (st' := [.int x3.1]) (s' := x3.2) rfl ?_
    refine zIeq hf (tgt := 27) rfl (by decide) (fun hc hf => ?_) (fun hc hf => ?_)
    · refine zB zlokG 8 (pc' := 43) (ls' := [(4, .int x3.1), (3, .ref (40 + 2 * j2)), (0, .ref 0), (1, .int a0), (2, .int a1)]) (st' := [.int 3, .ref 2, .ref 1, .ref 16]) (s' := x3.2) rfl ?_
      refine zIald hf rfl (by rfl) (fun x4 hf => ?_)
      refine zXV hf (As := [.ref 1, .int x4]) (rest := []) 2 zmk_ls_begin zok_ls_begin zl_523 rfl rfl rfl rfl rfl rfl rfl rfl (fun _ e => k_ls_begin _ _ _ e) (fun x5 hf => ?_)
      refine zB zlokG 3 (pc' := 50) (ls' := [(4, .int x3.1), (3, .ref (40 + 2 * j2)), (0, .ref 0), (1, .int a0), (2, .int a1)]) (st' := [.int a1, .ref (40 + 2 * j2), .ref 0]) (s' := x5) rfl ?_
      refine zXI hf (As := [.ref (40 + 2 * j2), .int a1]) (rest := []) 2 zmk_g_firstWrong zok_g_firstWrong zl_656 rfl rfl rfl rfl rfl rfl rfl rfl (fun _ e => k_g_firstWrong _ _ (zsh_at hj2) _ _ e) (fun x6 hf => ?_)
      exact zRetI hf rfl rfl
    · refine zB zlokG 1 (pc' := 26) (ls' := [(4, .int x3.1), (3, .ref (40 + 2 * j2)), (0, .ref 0), (1, .int a0), (2, .int a1)]) (st' := [.int x3.1]) (s' := x3.2) rfl ?_
      exact zRetI hf rfl rfl
  · refine zB zlokG 2 (pc' := 7) (ls' := [(3, .null), (0, .ref 0), (1, .int a0), (2, .int a1)]) (st' := [.null]) (s' := s) rfl ?_
    refine zNonN rfl ?_
    refine zB zlokG 1 (pc' := 11) (ls' := [(3, .null), (0, .ref 0), (1, .int a0), (2, .int a1)]) (st' := [.int (-1)]) (s' := s) rfl ?_
    exact zRetI hf rfl rfl
set_option maxRecDepth 20000 in
theorem c_f_g_seeded_47 {r : Int32 × zSt} : ∀ (n : Nat) (v4 : Int32) (j_v2 : Nat) (h_v2 : zShAt j_v2) (s : zSt), f_g_seeded_47 n v4 j_v2 s = some r → zWA zm_g_seeded ΛG 6 (some (.int r.1), r.2) 47 [(0, .ref 0), (2, .ref j_v2), (4, .int v4)] [] s := by
  intro n
  induction n with
  | zero => intro v4 j_v2 h_v2 s hf; cases hf
  | succ n ih =>
    intro v4 j_v2 h_v2 s hf
    refine zB zlokG 2 (pc' := 51) (ls' := [(0, .ref 0), (2, .ref j_v2), (4, .int v4)]) (st' := [.int 100, .int v4]) (s' := s) rfl ?_
    refine zCge hf (tgt := 75) rfl (by decide) (fun hc hf => ?_) (fun hc hf => ?_)
    · refine zB zlokG 1 (pc' := 77) (ls' := [(0, .ref 0), (2, .ref j_v2), (4, .int v4)]) (st' := [.int (-2)]) (s' := s) rfl ?_
      exact zRetI hf rfl rfl
    · refine zB zlokG 3 (pc' := 58) (ls' := [(0, .ref 0), (2, .ref j_v2), (4, .int v4)]) (st' := [.int v4, .ref j_v2, .ref 0]) (s' := s) rfl ?_
      refine zXI hf (As := [.ref j_v2, .int v4]) (rest := []) 2 zmk_g_firstWrong zok_g_firstWrong zl_656 rfl rfl rfl rfl rfl rfl rfl rfl (fun _ e => k_g_firstWrong _ _ h_v2 _ _ e) (fun x6 hf => ?_)
      refine zB zlokG 1 (pc' := 63) (ls' := [(0, .ref 0), (2, .ref j_v2), (4, .int v4)]) (st' := [.int (-2), .int x6.1]) (s' := x6.2) rfl ?_
      refine zCne hf (tgt := 69) rfl (by decide) (fun hc hf => ?_) (fun hc hf => ?_)
      · refine zB zlokG 1 (pc' := 68) (ls' := [(0, .ref 0), (2, .ref j_v2), (4, .int v4)]) (st' := [.int v4]) (s' := x6.2) rfl ?_
        exact zRetI hf rfl rfl
      · refine zB zlokG 1 (pc' := 72) (ls' := [(4, .int (v4 + 1)), (0, .ref 0), (2, .ref j_v2)]) (st' := []) (s' := x6.2) rfl ?_
        refine zGoto (tgt := 47) rfl (by decide) ?_
        refine zLoc [1, 2, 0] rfl ?_
        exact ih _ _ h_v2 _ hf
set_option maxRecDepth 20000 in
theorem k_g_seeded (a0 : Int32) (s : zSt) (r : Int32 × zSt) (hf : f_g_seeded a0 s = some r) : zKp zm_g_seeded ΛG 6 [.ref 0, .int a0] s (some (.int r.1), r.2) := by
  refine zKp_of zmk_g_seeded rfl ?_
  show zWA _ _ _ _ _ [(0, .ref 0), (1, .int a0)] _ _
  refine zB zlokG 2 (pc' := 2) (ls' := [(0, .ref 0), (1, .int a0)]) (st' := [.int a0, .ref 0]) (s' := s) rfl ?_
  refine zShelfAt hf zl_347 rfl rfl (by rfl) (fun j2 hj2 hf => ?_) (fun hf => ?_)
  · refine zB zlokG 2 (pc' := 7) (ls' := [(2, .ref (40 + 2 * j2)), (0, .ref 0), (1, .int a0)]) (st' := [.ref (40 + 2 * j2)]) (s' := s) rfl ?_
    refine zNon (tgt := 12) rfl (by decide) ?_
    refine zB zlokG 2 (pc' := 14) (ls' := [(2, .ref (40 + 2 * j2)), (0, .ref 0), (1, .int a0)]) (st' := [.int 1, .ref (40 + 2 * j2)]) (s' := s) rfl ?_
    refine zXI hf (As := [.int 1]) (rest := []) 1 zmk_sh_refusalOfSort zok_sh_refusalOfSort zl_650 rfl (zsh_at hj2).1 rfl rfl rfl rfl rfl rfl (fun _ e => k_sh_refusalOfSort _ _ (zsh_at hj2) _ _ e) (fun x3 hf => ?_)
    refine zB zlokG 2 (pc' := 19) (ls' := [(3, .int x3.1), (2, .ref (40 + 2 * j2)), (0, .ref 0), (1, .int a0)]) (st' := [.int x3.1]) (s' := x3.2) rfl ?_
    refine zIeq hf (tgt := 24) rfl (by decide) (fun hc hf => ?_) (fun hc hf => ?_)
    · refine zB zlokG 8 (pc' := 40) (ls' := [(3, .int x3.1), (2, .ref (40 + 2 * j2)), (0, .ref 0), (1, .int a0)]) (st' := [.int 3, .ref 2, .ref 1, .ref 16]) (s' := x3.2) rfl ?_
      refine zIald hf rfl (by rfl) (fun x4 hf => ?_)
      refine zXV hf (As := [.ref 1, .int x4]) (rest := []) 2 zmk_ls_begin zok_ls_begin zl_523 rfl rfl rfl rfl rfl rfl rfl rfl (fun _ e => k_ls_begin _ _ _ e) (fun x5 hf => ?_)
      refine zB zlokG 2 (pc' := 47) (ls' := [(4, .int 0), (3, .int x3.1), (2, .ref (40 + 2 * j2)), (0, .ref 0), (1, .int a0)]) (st' := []) (s' := x5) rfl ?_
      refine zLoc [3, 2, 0] rfl ?_
      exact c_f_g_seeded_47 zFu _ _ (zsh_at hj2) _ hf
    · refine zB zlokG 1 (pc' := 23) (ls' := [(3, .int x3.1), (2, .ref (40 + 2 * j2)), (0, .ref 0), (1, .int a0)]) (st' := [.int x3.1]) (s' := x3.2) rfl ?_
      exact zRetI hf rfl rfl
  · refine zB zlokG 2 (pc' := 7) (ls' := [(2, .null), (0, .ref 0), (1, .int a0)]) (st' := [.null]) (s' := s) rfl ?_
    refine zNonN rfl ?_
    refine zB zlokG 1 (pc' := 11) (ls' := [(2, .null), (0, .ref 0), (1, .int a0)]) (st' := [.int (-1)]) (s' := s) rfl ?_
    exact zRetI hf rfl rfl
set_option maxRecDepth 20000 in
theorem k_g_meanGain (a0 : Int32) (a1 : Int32) (a2 : Int32) (a3 : Int32) (s : zSt) (r : Int64 × zSt) (hf : f_g_meanGain a0 a1 a2 a3 s = some r) : zKp zm_g_meanGain ΛG 2 [.ref 0, .int a0, .int a1, .int a2, .int a3] s (some (.long r.1), r.2) := by
  refine zKp_of zmk_g_meanGain rfl ?_
  show zWA _ _ _ _ _ [(0, .ref 0), (1, .int a0), (2, .int a1), (3, .int a2), (4, .int a3)] _ _
  refine zB zlokG 4 (pc' := 8) (ls' := [(0, .ref 0), (1, .int a0), (2, .int a1), (3, .int a2), (4, .int a3)]) (st' := [.int 3, .ref 2]) (s' := s) rfl ?_
  refine zIald hf rfl (by rfl) (fun x1 hf => ?_)
  refine zB zlokG 4 (pc' := 14) (ls' := [(0, .ref 0), (1, .int a0), (2, .int a1), (3, .int a2), (4, .int a3)]) (st' := [.int a3, .int a1, .int a0, .long (x1 : Int32).toInt64]) (s' := s) rfl ?_
  refine zSL hf (As := [.int a0, .int a1, .int a3]) (rest := [.long (x1 : Int32).toInt64]) 3 zmk_su_meanSold zok_su_meanSold zl_673 rfl rfl rfl rfl rfl (fun _ e => k_su_meanSold _ _ _ _ _ e) (fun x2 hf => ?_)
  refine zB zlokG 7 (pc' := 27) (ls' := [(0, .ref 0), (1, .int a0), (2, .int a1), (3, .int a2), (4, .int a3)]) (st' := [.int a0, .long 12, .long ((a2 * a3) : Int32).toInt64, .long ((x1 : Int32).toInt64 * x2.1)]) (s' := x2.2) rfl ?_
  refine zSL hf (As := [.long 12, .int a0]) (rest := [.long ((a2 * a3) : Int32).toInt64, .long ((x1 : Int32).toInt64 * x2.1)]) 2 zmk_su_power zok_su_power zl_684 rfl rfl rfl rfl rfl (fun _ e => k_su_power _ _ _ _ e) (fun x3 hf => ?_)
  refine zB zlokG 2 (pc' := 32) (ls' := [(0, .ref 0), (1, .int a0), (2, .int a1), (3, .int a2), (4, .int a3)]) (st' := [.long (((x1 : Int32).toInt64 * x2.1) - (((a2 * a3) : Int32).toInt64 * x3.1))]) (s' := x3.2) rfl ?_
  exact zRetL hf rfl rfl
set_option maxRecDepth 20000 in
theorem c_f_g_make_63 {r : Int64 × zSt} : ∀ (n : Nat) (v2 : Int32) (v3 : Int32) (v4 : Int32) (v5 : Int32) (v6 : Int32) (v7 : Int32) (s : zSt), f_g_make_63 n v2 v3 v4 v5 v6 v7 s = some r → zWA zm_g_make ΛG 3 (some (.long r.1), r.2) 63 [(0, .ref 0), (2, .int v2), (3, .int v3), (4, .int v4), (5, .int v5), (6, .int v6), (7, .int v7)] [] s := by
  intro n
  induction n with
  | zero => intro v2 v3 v4 v5 v6 v7 s hf; cases hf
  | succ n ih =>
    intro v2 v3 v4 v5 v6 v7 s hf
    refine zB zlokG 2 (pc' := 67) (ls' := [(0, .ref 0), (2, .int v2), (3, .int v3), (4, .int v4), (5, .int v5), (6, .int v6), (7, .int v7)]) (st' := [.int v4, .int v7]) (s' := s) rfl ?_
    refine zCgt hf (tgt := 106) rfl (by decide) (fun hc hf => ?_) (fun hc hf => ?_)
    · refine zB zlokG 1 (pc' := 107) (ls' := [(0, .ref 0), (2, .int v2), (3, .int v3), (4, .int v4), (5, .int v5), (6, .int v6), (7, .int v7)]) (st' := [.int v3]) (s' := s) rfl ?_
      refine zIne hf (tgt := 114) rfl (by decide) (fun hc hf => ?_) (fun hc hf => ?_)
      · refine zB zlokG 2 (pc' := 113) (ls' := [(0, .ref 0), (2, .int v2), (3, .int v3), (4, .int v4), (5, .int v5), (6, .int v6), (7, .int v7)]) (st' := [.long (v6 : Int32).toInt64]) (s' := s) rfl ?_
        exact zRetL hf rfl rfl
      · refine zB zlokG 5 (pc' := 122) (ls' := [(0, .ref 0), (2, .int v2), (3, .int v3), (4, .int v4), (5, .int v5), (6, .int v6), (7, .int v7)]) (st' := [.int v6, .int v2, .int v5, .int v4, .ref 0]) (s' := s) rfl ?_
        refine zXL hf (As := [.int v4, .int v5, .int v2, .int v6]) (rest := []) 4 zmk_g_meanGain zok_g_meanGain zl_669 rfl rfl rfl rfl rfl rfl rfl rfl (fun _ e => k_g_meanGain _ _ _ _ _ _ e) (fun x3 hf => ?_)
        refine zB zlokG 3 (pc' := 132) (ls' := [(7, .long x3.1), (0, .ref 0), (2, .int v2), (3, .int v3), (4, .int v4), (5, .int v5), (6, .int v6)]) (st' := [.int v4, .long 12]) (s' := x3.2) rfl ?_
        refine zSL hf (As := [.long 12, .int v4]) (rest := []) 2 zmk_su_power zok_su_power zl_684 rfl rfl rfl rfl rfl (fun _ e => k_su_power _ _ _ _ e) (fun x4 hf => ?_)
        refine zB zlokG 3 (pc' := 139) (ls' := [(9, .long x4.1), (7, .long x3.1), (0, .ref 0), (2, .int v2), (3, .int v3), (4, .int v4), (5, .int v5), (6, .int v6)]) (st' := [.int 1, .int v3]) (s' := x4.2) rfl ?_
        refine zCne hf (tgt := 147) rfl (by decide) (fun hc hf => ?_) (fun hc hf => ?_)
        · refine zB zlokG 1 (pc' := 144) (ls' := [(9, .long x4.1), (7, .long x3.1), (0, .ref 0), (2, .int v2), (3, .int v3), (4, .int v4), (5, .int v5), (6, .int v6)]) (st' := [.long x3.1]) (s' := x4.2) rfl ?_
          refine zGoto (tgt := 149) rfl (by decide) ?_
          refine zB zlokG 2 (pc' := 153) (ls' := [(9, .long x4.1), (7, .long x3.1), (0, .ref 0), (2, .int v2), (3, .int v3), (4, .int v4), (5, .int v5), (6, .int v6)]) (st' := [.long x4.1, .long x3.1, .long x3.1]) (s' := x4.2) rfl ?_
          refine zSL hf (As := [.long x3.1, .long x4.1]) (rest := [.long x3.1]) 2 zmk_su_divisor zok_su_divisor zl_685 rfl rfl rfl rfl rfl (fun _ e => k_su_divisor _ _ _ _ e) (fun x5 hf => ?_)
          refine zDivL hf rfl (fun x6 hf => ?_)
          exact zRetL hf rfl rfl
        · refine zB zlokG 3 (pc' := 153) (ls' := [(9, .long x4.1), (7, .long x3.1), (0, .ref 0), (2, .int v2), (3, .int v3), (4, .int v4), (5, .int v5), (6, .int v6)]) (st' := [.long x4.1, .long x3.1, .long x4.1]) (s' := x4.2) rfl ?_
          refine zSL hf (As := [.long x3.1, .long x4.1]) (rest := [.long x4.1]) 2 zmk_su_divisor zok_su_divisor zl_685 rfl rfl rfl rfl rfl (fun _ e => k_su_divisor _ _ _ _ e) (fun x7 hf => ?_)
          refine zDivL hf rfl (fun x8 hf => ?_)
          exact zRetL hf rfl rfl
    · refine zB zlokG 5 (pc' := 78) (ls' := [(0, .ref 0), (2, .int v2), (3, .int v3), (4, .int v4), (5, .int v5), (6, .int v6), (7, .int v7)]) (st' := [.int v7, .int v2, .int v5, .int v4, .ref 0]) (s' := s) rfl ?_
      refine zXL hf (As := [.int v4, .int v5, .int v2, .int v7]) (rest := []) 4 zmk_g_meanGain zok_g_meanGain zl_669 rfl rfl rfl rfl rfl rfl rfl rfl (fun _ e => k_g_meanGain _ _ _ _ _ _ e) (fun x9 hf => ?_)
      refine zB zlokG 5 (pc' := 89) (ls' := [(0, .ref 0), (2, .int v2), (3, .int v3), (4, .int v4), (5, .int v5), (6, .int v6), (7, .int v7)]) (st' := [.int v6, .int v2, .int v5, .int v4, .ref 0, .long x9.1]) (s' := x9.2) rfl ?_
      refine zXL hf (As := [.int v4, .int v5, .int v2, .int v6]) (rest := [.long x9.1]) 4 zmk_g_meanGain zok_g_meanGain zl_669 rfl rfl rfl rfl rfl rfl rfl rfl (fun _ e => k_g_meanGain _ _ _ _ _ _ e) (fun x10 hf => ?_)
      refine zB zlokG 1 (pc' := 93) (ls' := [(0, .ref 0), (2, .int v2), (3, .int v3), (4, .int v4), (5, .int v5), (6, .int v6), (7, .int v7)]) (st' := [.int (lg_cmp x9.1 x10.1)]) (s' := x10.2) rfl ?_
      refine zIle hf (tgt := 100) rfl (by decide) (fun hc hf => ?_) (fun hc hf => ?_)
      · refine zB zlokG 1 (pc' := 103) (ls' := [(7, .int (v7 + 1)), (0, .ref 0), (2, .int v2), (3, .int v3), (4, .int v4), (5, .int v5), (6, .int v6)]) (st' := []) (s' := x10.2) rfl ?_
        refine zGoto (tgt := 63) rfl (by decide) ?_
        refine zLoc [1, 2, 3, 4, 5, 6, 0] rfl ?_
        exact ih _ _ _ _ _ _ _ hf
      · refine zB zlokG 3 (pc' := 103) (ls' := [(7, .int (v7 + 1)), (6, .int v7), (0, .ref 0), (2, .int v2), (3, .int v3), (4, .int v4), (5, .int v5)]) (st' := []) (s' := x10.2) rfl ?_
        refine zGoto (tgt := 63) rfl (by decide) ?_
        refine zLoc [2, 3, 4, 5, 6, 1, 0] rfl ?_
        exact ih _ _ _ _ _ _ _ hf
set_option maxRecDepth 20000 in
theorem k_g_make (a0 : Int32) (a1 : Int32) (a2 : Int32) (s : zSt) (r : Int64 × zSt) (hf : f_g_make a0 a1 a2 s = some r) : zKp zm_g_make ΛG 3 [.ref 0, .int a0, .int a1, .int a2] s (some (.long r.1), r.2) := by
  refine zKp_of zmk_g_make rfl ?_
  show zWA _ _ _ _ _ [(0, .ref 0), (1, .int a0), (2, .int a1), (3, .int a2)] _ _
  refine zB zlokG 1 (pc' := 1) (ls' := [(0, .ref 0), (1, .int a0), (2, .int a1), (3, .int a2)]) (st' := [.int a0]) (s' := s) rfl ?_
  refine zIlt hf (tgt := 41) rfl (by decide) (fun hc hf => ?_) (fun hc hf => ?_)
  · refine zB zlokG 1 (pc' := 44) (ls' := [(0, .ref 0), (1, .int a0), (2, .int a1), (3, .int a2)]) (st' := [.long (-9223372036854775808)]) (s' := s) rfl ?_
    exact zRetL hf rfl rfl
  · refine zB zlokG 4 (pc' := 10) (ls' := [(0, .ref 0), (1, .int a0), (2, .int a1), (3, .int a2)]) (st' := [.int 8, .int (a0 / 100)]) (s' := s) rfl ?_
    refine zCgt hf (tgt := 41) rfl (by decide) (fun hc hf => ?_) (fun hc hf => ?_)
    · refine zB zlokG 1 (pc' := 44) (ls' := [(0, .ref 0), (1, .int a0), (2, .int a1), (3, .int a2)]) (st' := [.long (-9223372036854775808)]) (s' := s) rfl ?_
      exact zRetL hf rfl rfl
    · refine zB zlokG 4 (pc' := 19) (ls' := [(0, .ref 0), (1, .int a0), (2, .int a1), (3, .int a2)]) (st' := [.int 12, .int (zrem a0 100)]) (s' := s) rfl ?_
      refine zCgt hf (tgt := 41) rfl (by decide) (fun hc hf => ?_) (fun hc hf => ?_)
      · refine zB zlokG 1 (pc' := 44) (ls' := [(0, .ref 0), (1, .int a0), (2, .int a1), (3, .int a2)]) (st' := [.long (-9223372036854775808)]) (s' := s) rfl ?_
        exact zRetL hf rfl rfl
      · refine zB zlokG 3 (pc' := 26) (ls' := [(0, .ref 0), (1, .int a0), (2, .int a1), (3, .int a2)]) (st' := [.int 99, .int 0, .int a1]) (s' := s) rfl ?_
        refine zSI hf (As := [.int a1, .int 0, .int 99]) (rest := []) 3 zmk_g_isWithin zok_g_isWithin zl_340 rfl rfl rfl rfl rfl (fun _ e => k_g_isWithin _ _ _ _ _ e) (fun x1 hf => ?_)
        refine zIeq hf (tgt := 41) rfl (by decide) (fun hc hf => ?_) (fun hc hf => ?_)
        · refine zB zlokG 1 (pc' := 44) (ls' := [(0, .ref 0), (1, .int a0), (2, .int a1), (3, .int a2)]) (st' := [.long (-9223372036854775808)]) (s' := x1.2) rfl ?_
          exact zRetL hf rfl rfl
        · refine zB zlokG 3 (pc' := 35) (ls' := [(0, .ref 0), (1, .int a0), (2, .int a1), (3, .int a2)]) (st' := [.int 2, .int 0, .int a2]) (s' := x1.2) rfl ?_
          refine zSI hf (As := [.int a2, .int 0, .int 2]) (rest := []) 3 zmk_g_isWithin zok_g_isWithin zl_340 rfl rfl rfl rfl rfl (fun _ e => k_g_isWithin _ _ _ _ _ e) (fun x2 hf => ?_)
          refine zIne hf (tgt := 45) rfl (by decide) (fun hc hf => ?_) (fun hc hf => ?_)
          · refine zB zlokG 1 (pc' := 44) (ls' := [(0, .ref 0), (1, .int a0), (2, .int a1), (3, .int a2)]) (st' := [.long (-9223372036854775808)]) (s' := x2.2) rfl ?_
            exact zRetL hf rfl rfl
          · refine zB zlokG 12 (pc' := 63) (ls' := [(7, .int 1), (6, .int 0), (5, .int (zrem a0 100)), (4, .int (a0 / 100)), (0, .ref 0), (1, .int a0), (2, .int a1), (3, .int a2)]) (st' := []) (s' := x2.2) rfl ?_
            refine zLoc [4, 6, 7, 3, 2, 1, 0] rfl ?_
            exact c_f_g_make_63 zFu _ _ _ _ _ _ _ hf
