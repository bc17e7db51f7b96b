/-! contracts: g_undercut g_brings g_minutes g_share g_slate g_owes g_wiped g_image g_back g_undo g_redo g_body g_act g_trace g_keep g_row g_put g_element g_shift g_taken g_count m_within m_becomes m_undo m_redo m_isQuarter -/
set_option maxRecDepth 20000 in
theorem c_f_g_undercut_149 {r : Int32 × zSt} : ∀ (v2 : Int32) (v3 : Int32) (v4 : Int32) (v6 : Int32) (s : zSt), f_g_undercut_149 v2 v3 v4 v6 s = some r → zWA zm_g_undercut ΛG 2 (some (.int r.1), r.2) 149 [(2, .int v2), (3, .int v3), (4, .int v4), (6, .int v6)] [] s := by
  intro v2 v3 v4 v6 s hf
  refine zB zlokG 1 (pc' := 150) (ls' := [(2, .int v2), (3, .int v3), (4, .int v4), (6, .int v6)]) (st' := [.int v2]) (s' := s) rfl ?_
  refine zIne hf (tgt := 158) rfl (by decide) (fun hc hf => ?_) (fun hc hf => ?_)
  · refine zB zlokG 1 (pc' := 155) (ls' := [(2, .int v2), (3, .int v3), (4, .int v4), (6, .int v6)]) (st' := [.int v6]) (s' := s) rfl ?_
    refine zGoto (tgt := 169) rfl (by decide) ?_
    exact zRetI hf rfl rfl
  · refine zB zlokG 2 (pc' := 160) (ls' := [(2, .int v2), (3, .int v3), (4, .int v4), (6, .int v6)]) (st' := [.int 1, .int v2]) (s' := s) rfl ?_
    refine zCne hf (tgt := 167) rfl (by decide) (fun hc hf => ?_) (fun hc hf => ?_)
    · refine zB zlokG 1 (pc' := 164) (ls' := [(2, .int v2), (3, .int v3), (4, .int v4), (6, .int v6)]) (st' := [.int v3]) (s' := s) rfl ?_
      refine zGoto (tgt := 169) rfl (by decide) ?_
      exact zRetI hf rfl rfl
    · refine zB zlokG 1 (pc' := 169) (ls' := [(2, .int v2), (3, .int v3), (4, .int v4), (6, .int v6)]) (st' := [.int v4]) (s' := s) rfl ?_
      exact zRetI hf rfl rfl
set_option maxRecDepth 20000 in
theorem c_f_g_undercut_111 {r : Int32 × zSt} (k62 : Int32 → Int32 → Int32 → Int32 → Int32 → Int32 → zSt → Option (Int32 × zSt)) (hk62 : ∀ (v1 : Int32) (v2 : Int32) (v3 : Int32) (v4 : Int32) (v5 : Int32) (v6 : Int32) (s : zSt), k62 v1 v2 v3 v4 v5 v6 s = some r → zWA zm_g_undercut ΛG 2 (some (.int r.1), r.2) 62 [(1, .int v1), (2, .int v2), (3, .int v3), (4, .int v4), (5, .int v5), (6, .int v6)] [] s) : ∀ (v1 : Int32) (v2 : Int32) (v3 : Int32) (v4 : Int32) (v5 : Int32) (v6 : Int32) (v7 : Int32) (v8 : Int32) (w0 : Int32) (w1 : Int32) (s : zSt), f_g_undercut_111 k62 v1 v2 v3 v4 v5 v6 v7 v8 w0 w1 s = some r → zWA zm_g_undercut ΛG 2 (some (.int r.1), r.2) 111 [(1, .int v1), (2, .int v2), (3, .int v3), (4, .int v4), (5, .int v5), (6, .int v6), (7, .int v7), (8, .int v8)] [.int w0, .int w1] s := by
  intro v1 v2 v3 v4 v5 v6 v7 v8 w0 w1 s hf
  refine zCge hf (tgt := 117) rfl (by decide) (fun hc hf => ?_) (fun hc hf => ?_)
  · refine zB zlokG 1 (pc' := 119) (ls' := [(1, .int v1), (2, .int v2), (3, .int v3), (4, .int v4), (5, .int v5), (6, .int v6), (7, .int v7), (8, .int v8)]) (st' := [.int v7]) (s' := s) rfl ?_
    refine zIeq hf (tgt := 126) rfl (by decide) (fun hc hf => ?_) (fun hc hf => ?_)
    · refine zB zlokG 3 (pc' := 131) (ls' := [(3, .int v8), (1, .int v1), (2, .int v2), (4, .int v4), (5, .int v5), (6, .int v6), (7, .int v7), (8, .int v8)]) (st' := [.int v7]) (s' := s) rfl ?_
      refine zIeq hf (tgt := 139) rfl (by decide) (fun hc hf => ?_) (fun hc hf => ?_)
      · refine zB zlokG 3 (pc' := 146) (ls' := [(6, .int (v6 + 1)), (4, .int v4), (3, .int v8), (1, .int v1), (2, .int v2), (5, .int v5), (7, .int v7), (8, .int v8)]) (st' := []) (s' := s) rfl ?_
        refine zGoto (tgt := 62) rfl (by decide) ?_
        refine zLoc [3, 4, 2, 1, 5, 0] rfl ?_
        exact hk62 _ _ _ _ _ _ _ hf
      · refine zB zlokG 1 (pc' := 136) (ls' := [(3, .int v8), (1, .int v1), (2, .int v2), (4, .int v4), (5, .int v5), (6, .int v6), (7, .int v7), (8, .int v8)]) (st' := [.int v8]) (s' := s) rfl ?_
        refine zGoto (tgt := 141) rfl (by decide) ?_
        refine zB zlokG 2 (pc' := 146) (ls' := [(6, .int (v6 + 1)), (4, .int v8), (3, .int v8), (1, .int v1), (2, .int v2), (5, .int v5), (7, .int v7), (8, .int v8)]) (st' := []) (s' := s) rfl ?_
        refine zGoto (tgt := 62) rfl (by decide) ?_
        refine zLoc [3, 4, 2, 1, 5, 0] rfl ?_
        exact hk62 _ _ _ _ _ _ _ hf
    · refine zB zlokG 1 (pc' := 123) (ls' := [(1, .int v1), (2, .int v2), (3, .int v3), (4, .int v4), (5, .int v5), (6, .int v6), (7, .int v7), (8, .int v8)]) (st' := [.int v3]) (s' := s) rfl ?_
      refine zGoto (tgt := 128) rfl (by decide) ?_
      refine zB zlokG 2 (pc' := 131) (ls' := [(3, .int v3), (1, .int v1), (2, .int v2), (4, .int v4), (5, .int v5), (6, .int v6), (7, .int v7), (8, .int v8)]) (st' := [.int v7]) (s' := s) rfl ?_
      refine zIeq hf (tgt := 139) rfl (by decide) (fun hc hf => ?_) (fun hc hf => ?_)
      · refine zB zlokG 3 (pc' := 146) (ls' := [(6, .int (v6 + 1)), (4, .int v4), (3, .int v3), (1, .int v1), (2, .int v2), (5, .int v5), (7, .int v7), (8, .int v8)]) (st' := []) (s' := s) rfl ?_
        refine zGoto (tgt := 62) rfl (by decide) ?_
        refine zLoc [3, 4, 2, 1, 5, 0] rfl ?_
        exact hk62 _ _ _ _ _ _ _ hf
      · refine zB zlokG 1 (pc' := 136) (ls' := [(3, .int v3), (1, .int v1), (2, .int v2), (4, .int v4), (5, .int v5), (6, .int v6), (7, .int v7), (8, .int v8)]) (st' := [.int v8]) (s' := s) rfl ?_
        refine zGoto (tgt := 141) rfl (by decide) ?_
        refine zB zlokG 2 (pc' := 146) (ls' := [(6, .int (v6 + 1)), (4, .int v8), (3, .int v3), (1, .int v1), (2, .int v2), (5, .int v5), (7, .int v7), (8, .int v8)]) (st' := []) (s' := s) rfl ?_
        refine zGoto (tgt := 62) rfl (by decide) ?_
        refine zLoc [3, 4, 2, 1, 5, 0] rfl ?_
        exact hk62 _ _ _ _ _ _ _ hf
  · refine zGoto (tgt := 149) rfl (by decide) ?_
    refine zLoc [1, 2, 3, 5] rfl ?_
    exact c_f_g_undercut_149 _ _ _ _ _ hf
set_option maxRecDepth 20000 in
theorem c_f_g_undercut_94 {r : Int32 × zSt} (k62 : Int32 → Int32 → Int32 → Int32 → Int32 → Int32 → zSt → Option (Int32 × zSt)) (hk62 : ∀ (v1 : Int32) (v2 : Int32) (v3 : Int32) (v4 : Int32) (v5 : Int32) (v6 : Int32) (s : zSt), k62 v1 v2 v3 v4 v5 v6 s = some r → zWA zm_g_undercut ΛG 2 (some (.int r.1), r.2) 62 [(1, .int v1), (2, .int v2), (3, .int v3), (4, .int v4), (5, .int v5), (6, .int v6)] [] s) : ∀ (v1 : Int32) (v2 : Int32) (v3 : Int32) (v4 : Int32) (v5 : Int32) (v6 : Int32) (v7 : Int32) (w0 : Int32) (s : zSt), f_g_undercut_94 k62 v1 v2 v3 v4 v5 v6 v7 w0 s = some r → zWA zm_g_undercut ΛG 2 (some (.int r.1), r.2) 94 [(1, .int v1), (2, .int v2), (3, .int v3), (4, .int v4), (5, .int v5), (6, .int v6), (7, .int v7)] [.int w0] s := by
  intro v1 v2 v3 v4 v5 v6 v7 w0 s hf
  refine zB zlokG 5 (pc' := 102) (ls' := [(8, .int (w0 - 1)), (1, .int v1), (2, .int v2), (3, .int v3), (4, .int v4), (5, .int v5), (6, .int v6), (7, .int v7)]) (st' := [.int v7, .int (w0 - 1)]) (s' := s) rfl ?_
  refine zIeq hf (tgt := 109) rfl (by decide) (fun hc hf => ?_) (fun hc hf => ?_)
  · refine zB zlokG 1 (pc' := 111) (ls' := [(8, .int (w0 - 1)), (1, .int v1), (2, .int v2), (3, .int v3), (4, .int v4), (5, .int v5), (6, .int v6), (7, .int v7)]) (st' := [.int v5, .int (w0 - 1)]) (s' := s) rfl ?_
    refine zLoc [1, 2, 3, 4, 5, 6, 7, 0] rfl ?_
    exact c_f_g_undercut_111 _ hk62 _ _ _ _ _ _ _ _ _ _ _ hf
  · refine zB zlokG 1 (pc' := 106) (ls' := [(8, .int (w0 - 1)), (1, .int v1), (2, .int v2), (3, .int v3), (4, .int v4), (5, .int v5), (6, .int v6), (7, .int v7)]) (st' := [.int v1, .int (w0 - 1)]) (s' := s) rfl ?_
    refine zGoto (tgt := 111) rfl (by decide) ?_
    refine zLoc [1, 2, 3, 4, 5, 6, 7, 0] rfl ?_
    exact c_f_g_undercut_111 _ hk62 _ _ _ _ _ _ _ _ _ _ _ hf
set_option maxRecDepth 20000 in
theorem c_f_g_undercut_81 {r : Int32 × zSt} (k62 : Int32 → Int32 → Int32 → Int32 → Int32 → Int32 → zSt → Option (Int32 × zSt)) (hk62 : ∀ (v1 : Int32) (v2 : Int32) (v3 : Int32) (v4 : Int32) (v5 : Int32) (v6 : Int32) (s : zSt), k62 v1 v2 v3 v4 v5 v6 s = some r → zWA zm_g_undercut ΛG 2 (some (.int r.1), r.2) 62 [(1, .int v1), (2, .int v2), (3, .int v3), (4, .int v4), (5, .int v5), (6, .int v6)] [] s) : ∀ (v1 : Int32) (v2 : Int32) (v3 : Int32) (v4 : Int32) (v5 : Int32) (v6 : Int32) (w0 : Int32) (s : zSt), f_g_undercut_81 k62 v1 v2 v3 v4 v5 v6 w0 s = some r → zWA zm_g_undercut ΛG 2 (some (.int r.1), r.2) 81 [(1, .int v1), (2, .int v2), (3, .int v3), (4, .int v4), (5, .int v5), (6, .int v6)] [.int w0] s := by
  intro v1 v2 v3 v4 v5 v6 w0 s hf
  refine zB zlokG 2 (pc' := 85) (ls' := [(7, .int w0), (1, .int v1), (2, .int v2), (3, .int v3), (4, .int v4), (5, .int v5), (6, .int v6)]) (st' := [.int w0]) (s' := s) rfl ?_
  refine zIeq hf (tgt := 92) rfl (by decide) (fun hc hf => ?_) (fun hc hf => ?_)
  · refine zB zlokG 1 (pc' := 94) (ls' := [(7, .int w0), (1, .int v1), (2, .int v2), (3, .int v3), (4, .int v4), (5, .int v5), (6, .int v6)]) (st' := [.int v4]) (s' := s) rfl ?_
    refine zLoc [1, 2, 3, 4, 5, 6, 0] rfl ?_
    exact c_f_g_undercut_94 _ hk62 _ _ _ _ _ _ _ _ _ hf
  · refine zB zlokG 1 (pc' := 89) (ls' := [(7, .int w0), (1, .int v1), (2, .int v2), (3, .int v3), (4, .int v4), (5, .int v5), (6, .int v6)]) (st' := [.int v3]) (s' := s) rfl ?_
    refine zGoto (tgt := 94) rfl (by decide) ?_
    refine zLoc [1, 2, 3, 4, 5, 6, 0] rfl ?_
    exact c_f_g_undercut_94 _ hk62 _ _ _ _ _ _ _ _ _ hf
set_option maxRecDepth 20000 in
theorem c_f_g_undercut_62 {r : Int32 × zSt} : ∀ (n : Nat) (v1 : Int32) (v2 : Int32) (v3 : Int32) (v4 : Int32) (v5 : Int32) (v6 : Int32) (s : zSt), f_g_undercut_62 n v1 v2 v3 v4 v5 v6 s = some r → zWA zm_g_undercut ΛG 2 (some (.int r.1), r.2) 62 [(1, .int v1), (2, .int v2), (3, .int v3), (4, .int v4), (5, .int v5), (6, .int v6)] [] s := by
  intro n
  induction n with
  | zero => intro v1 v2 v3 v4 v5 v6 s hf; cases hf
  | succ n ih =>
    intro v1 v2 v3 v4 v5 v6 s hf
    refine zB zlokG 2 (pc' := 66) (ls' := [(1, .int v1), (2, .int v2), (3, .int v3), (4, .int v4), (5, .int v5), (6, .int v6)]) (st' := [.int 50, .int v6]) (s' := s) rfl ?_
    refine zCgt hf (tgt := 149) rfl (by decide) (fun hc hf => ?_) (fun hc hf => ?_)
    · refine zLoc [1, 2, 3, 5] rfl ?_
      exact c_f_g_undercut_149 _ _ _ _ _ hf
    · refine zB zlokG 3 (pc' := 73) (ls' := [(1, .int v1), (2, .int v2), (3, .int v3), (4, .int v4), (5, .int v5), (6, .int v6)]) (st' := [.int (zrem v6 2)]) (s' := s) rfl ?_
      refine zIne hf (tgt := 80) rfl (by decide) (fun hc hf => ?_) (fun hc hf => ?_)
      · refine zB zlokG 1 (pc' := 77) (ls' := [(1, .int v1), (2, .int v2), (3, .int v3), (4, .int v4), (5, .int v5), (6, .int v6)]) (st' := [.int 1]) (s' := s) rfl ?_
        refine zGoto (tgt := 81) rfl (by decide) ?_
        refine zLoc [0, 1, 2, 3, 4, 5] rfl ?_
        exact c_f_g_undercut_81 _ ih _ _ _ _ _ _ _ _ hf
      · refine zB zlokG 1 (pc' := 81) (ls' := [(1, .int v1), (2, .int v2), (3, .int v3), (4, .int v4), (5, .int v5), (6, .int v6)]) (st' := [.int 0]) (s' := s) rfl ?_
        refine zLoc [0, 1, 2, 3, 4, 5] rfl ?_
        exact c_f_g_undercut_81 _ ih _ _ _ _ _ _ _ _ hf
set_option maxRecDepth 20000 in
theorem k_g_undercut (a0 : Int32) (a1 : Int32) (s : zSt) (r : Int32 × zSt) (hf : f_g_undercut a0 a1 s = some r) : zKp zm_g_undercut ΛG 2 [.ref 0, .int a0, .int a1] s (some (.int r.1), r.2) := by
  refine zKp_of zmk_g_undercut rfl ?_
  show zWA _ _ _ _ _ [(0, .ref 0), (1, .int a0), (2, .int a1)] _ _
  refine zB zlokG 3 (pc' := 4) (ls' := [(0, .ref 0), (1, .int a0), (2, .int a1)]) (st' := [.int 50, .int 0, .int a0]) (s' := s) rfl ?_
  refine zSI hf (As := [.int a0, .int 0, .int 50]) (rest := []) 3 zmk_g_isWithin zok_g_isWithin zl_340 rfl rfl rfl rfl rfl (fun _ e => k_g_isWithin _ _ _ _ _ e) (fun x1 hf => ?_)
  refine zIeq hf (tgt := 19) rfl (by decide) (fun hc hf => ?_) (fun hc hf => ?_)
  · refine zB zlokG 1 (pc' := 20) (ls' := [(0, .ref 0), (1, .int a0), (2, .int a1)]) (st' := [.int (-1)]) (s' := x1.2) rfl ?_
    exact zRetI hf rfl rfl
  · refine zB zlokG 3 (pc' := 13) (ls' := [(0, .ref 0), (1, .int a0), (2, .int a1)]) (st' := [.int 2, .int 0, .int a1]) (s' := x1.2) rfl ?_
    refine zSI hf (As := [.int a1, .int 0, .int 2]) (rest := []) 3 zmk_g_isWithin zok_g_isWithin zl_340 rfl rfl rfl rfl rfl (fun _ e => k_g_isWithin _ _ _ _ _ e) (fun x2 hf => ?_)
    refine zIne hf (tgt := 21) rfl (by decide) (fun hc hf => ?_) (fun hc hf => ?_)
    · refine zB zlokG 1 (pc' := 20) (ls' := [(0, .ref 0), (1, .int a0), (2, .int a1)]) (st' := [.int (-1)]) (s' := x2.2) rfl ?_
      exact zRetI hf rfl rfl
    · refine zB zlokG 4 (pc' := 29) (ls' := [(0, .ref 0), (1, .int a0), (2, .int a1)]) (st' := [.int 3, .ref 2]) (s' := x2.2) rfl ?_
      refine zIald hf rfl (by rfl) (fun x3 hf => ?_)
      refine zB zlokG 5 (pc' := 39) (ls' := [(3, .int x3), (0, .ref 0), (1, .int a0), (2, .int a1)]) (st' := [.int 4, .ref 2]) (s' := x2.2) rfl ?_
      refine zIald hf rfl (by rfl) (fun x4 hf => ?_)
      refine zB zlokG 3 (pc' := 46) (ls' := [(4, .int x4), (3, .int x3), (0, .ref 0), (1, .int a0), (2, .int a1)]) (st' := [.ref 1]) (s' := x2.2) rfl ?_
      refine zXI hf (As := []) (rest := []) 0 zmk_rc_glassCost zok_rc_glassCost zl_423 rfl rfl rfl rfl rfl rfl rfl rfl (fun _ e => k_rc_glassCost _ _ e) (fun x5 hf => ?_)
      refine zB zlokG 4 (pc' := 56) (ls' := [(6, .int 0), (5, .int x5.1), (4, .int x4), (3, .int x3), (0, .ref 0), (1, .int a0), (2, .int a1)]) (st' := [.int x4]) (s' := x5.2) rfl ?_
      refine zIne hf (tgt := 62) rfl (by decide) (fun hc hf => ?_) (fun hc hf => ?_)
      · refine zB zlokG 1 (pc' := 61) (ls' := [(6, .int 0), (5, .int x5.1), (4, .int x4), (3, .int x3), (0, .ref 0), (1, .int a0), (2, .int a1)]) (st' := [.int (-5)]) (s' := x5.2) rfl ?_
        exact zRetI hf rfl rfl
      · refine zLoc [5, 6, 3, 2, 1, 0] rfl ?_
        exact c_f_g_undercut_62 zFu _ _ _ _ _ _ _ hf
set_option maxRecDepth 20000 in
theorem k_g_brings (a0 : Int32) (a1 : Int32) (s : zSt) (r : Int32 × zSt) (hf : f_g_brings a0 a1 s = some r) : zKp zm_g_brings ΛG 1 [.ref 0, .int a0, .int a1] s (some (.int r.1), r.2) := by
  refine zKp_of zmk_g_brings rfl ?_
  show zWA _ _ _ _ _ [(0, .ref 0), (1, .int a0), (2, .int a1)] _ _
  refine zB zlokG 3 (pc' := 4) (ls' := [(0, .ref 0), (1, .int a0), (2, .int a1)]) (st' := [.int 7, .int 1, .int a0]) (s' := s) rfl ?_
  refine zSI hf (As := [.int a0, .int 1, .int 7]) (rest := []) 3 zmk_g_isWithin zok_g_isWithin zl_340 rfl rfl rfl rfl rfl (fun _ e => k_g_isWithin _ _ _ _ _ e) (fun x1 hf => ?_)
  refine zIeq hf (tgt := 21) rfl (by decide) (fun hc hf => ?_) (fun hc hf => ?_)
  · refine zB zlokG 1 (pc' := 22) (ls' := [(0, .ref 0), (1, .int a0), (2, .int a1)]) (st' := [.int (-1)]) (s' := x1.2) rfl ?_
    exact zRetI hf rfl rfl
  · refine zB zlokG 3 (pc' := 15) (ls' := [(0, .ref 0), (1, .int a0), (2, .int a1)]) (st' := [.int 999, .int 0, .int a1]) (s' := x1.2) rfl ?_
    refine zSI hf (As := [.int a1, .int 0, .int 999]) (rest := []) 3 zmk_g_isWithin zok_g_isWithin zl_340 rfl rfl rfl rfl rfl (fun _ e => k_g_isWithin _ _ _ _ _ e) (fun x2 hf => ?_)
    refine zIne hf (tgt := 23) rfl (by decide) (fun hc hf => ?_) (fun hc hf => ?_)
    · refine zB zlokG 1 (pc' := 22) (ls' := [(0, .ref 0), (1, .int a0), (2, .int a1)]) (st' := [.int (-1)]) (s' := x2.2) rfl ?_
      exact zRetI hf rfl rfl
    · refine zB zlokG 4 (pc' := 31) (ls' := [(0, .ref 0), (1, .int a0), (2, .int a1)]) (st' := [.int a0, .ref 30]) (s' := x2.2) rfl ?_
      refine zIald hf rfl (by rfl) (fun x3 hf => ?_)
      refine zB zlokG 6 (pc' := 42) (ls' := [(3, .int x3), (0, .ref 0), (1, .int a0), (2, .int a1)]) (st' := [.int a1, .int a0, .ref 30]) (s' := x2.2) rfl ?_
      refine zIast hf rfl (by rfl) (fun s4 hf => ?_)
      refine zB zlokG 1 (pc' := 44) (ls' := [(3, .int x3), (0, .ref 0), (1, .int a0), (2, .int a1)]) (st' := [.int x3]) (s' := s4) rfl ?_
      exact zRetI hf rfl rfl
set_option maxRecDepth 20000 in
theorem k_g_minutes (a0 : Int32) (a1 : Int32) (s : zSt) (r : Int32 × zSt) (hf : f_g_minutes a0 a1 s = some r) : zKp zm_g_minutes ΛG 1 [.ref 0, .int a0, .int a1] s (some (.int r.1), r.2) := by
  refine zKp_of zmk_g_minutes rfl ?_
  show zWA _ _ _ _ _ [(0, .ref 0), (1, .int a0), (2, .int a1)] _ _
  refine zB zlokG 3 (pc' := 3) (ls' := [(0, .ref 0), (1, .int a0), (2, .int a1)]) (st' := [.int 2, .int 0, .int a0]) (s' := s) rfl ?_
  refine zSI hf (As := [.int a0, .int 0, .int 2]) (rest := []) 3 zmk_g_isWithin zok_g_isWithin zl_340 rfl rfl rfl rfl rfl (fun _ e => k_g_isWithin _ _ _ _ _ e) (fun x1 hf => ?_)
  refine zIeq hf (tgt := 20) rfl (by decide) (fun hc hf => ?_) (fun hc hf => ?_)
  · refine zB zlokG 1 (pc' := 21) (ls' := [(0, .ref 0), (1, .int a0), (2, .int a1)]) (st' := [.int (-1)]) (s' := x1.2) rfl ?_
    exact zRetI hf rfl rfl
  · refine zB zlokG 3 (pc' := 14) (ls' := [(0, .ref 0), (1, .int a0), (2, .int a1)]) (st' := [.int 600, .int 0, .int a1]) (s' := x1.2) rfl ?_
    refine zSI hf (As := [.int a1, .int 0, .int 600]) (rest := []) 3 zmk_g_isWithin zok_g_isWithin zl_340 rfl rfl rfl rfl rfl (fun _ e => k_g_isWithin _ _ _ _ _ e) (fun x2 hf => ?_)
    refine zIne hf (tgt := 22) rfl (by decide) (fun hc hf => ?_) (fun hc hf => ?_)
    · refine zB zlokG 1 (pc' := 21) (ls' := [(0, .ref 0), (1, .int a0), (2, .int a1)]) (st' := [.int (-1)]) (s' := x2.2) rfl ?_
      exact zRetI hf rfl rfl
    · refine zB zlokG 4 (pc' := 30) (ls' := [(0, .ref 0), (1, .int a0), (2, .int a1)]) (st' := [.int a0, .ref 31]) (s' := x2.2) rfl ?_
      refine zIald hf rfl (by rfl) (fun x3 hf => ?_)
      refine zB zlokG 6 (pc' := 41) (ls' := [(3, .int x3), (0, .ref 0), (1, .int a0), (2, .int a1)]) (st' := [.int a1, .int a0, .ref 31]) (s' := x2.2) rfl ?_
      refine zIast hf rfl (by rfl) (fun s4 hf => ?_)
      refine zB zlokG 1 (pc' := 43) (ls' := [(3, .int x3), (0, .ref 0), (1, .int a0), (2, .int a1)]) (st' := [.int x3]) (s' := s4) rfl ?_
      exact zRetI hf rfl rfl
set_option maxRecDepth 20000 in
theorem k_g_share (a0 : Int32) (a1 : Int32) (a2 : Int32) (s : zSt) (r : Int32 × zSt) (hf : f_g_share a0 a1 a2 s = some r) : zKp zm_g_share ΛG 2 [.ref 0, .int a0, .int a1, .int a2] s (some (.int r.1), r.2) := by
  refine zKp_of zmk_g_share rfl ?_
  show zWA _ _ _ _ _ [(0, .ref 0), (1, .int a0), (2, .int a1), (3, .int a2)] _ _
  refine zB zlokG 3 (pc' := 3) (ls' := [(0, .ref 0), (1, .int a0), (2, .int a1), (3, .int a2)]) (st' := [.int 2, .int 0, .int a0]) (s' := s) rfl ?_
  refine zSI hf (As := [.int a0, .int 0, .int 2]) (rest := []) 3 zmk_g_isWithin zok_g_isWithin zl_340 rfl rfl rfl rfl rfl (fun _ e => k_g_isWithin _ _ _ _ _ e) (fun x1 hf => ?_)
  refine zIeq hf (tgt := 27) rfl (by decide) (fun hc hf => ?_) (fun hc hf => ?_)
  · refine zB zlokG 1 (pc' := 29) (ls' := [(0, .ref 0), (1, .int a0), (2, .int a1), (3, .int a2)]) (st' := [.int (-2000000000)]) (s' := x1.2) rfl ?_
    exact zRetI hf rfl rfl
  · refine zB zlokG 3 (pc' := 12) (ls' := [(0, .ref 0), (1, .int a0), (2, .int a1), (3, .int a2)]) (st' := [.int 2, .int 0, .int a1]) (s' := x1.2) rfl ?_
    refine zSI hf (As := [.int a1, .int 0, .int 2]) (rest := []) 3 zmk_g_isWithin zok_g_isWithin zl_340 rfl rfl rfl rfl rfl (fun _ e => k_g_isWithin _ _ _ _ _ e) (fun x2 hf => ?_)
    refine zIeq hf (tgt := 27) rfl (by decide) (fun hc hf => ?_) (fun hc hf => ?_)
    · refine zB zlokG 1 (pc' := 29) (ls' := [(0, .ref 0), (1, .int a0), (2, .int a1), (3, .int a2)]) (st' := [.int (-2000000000)]) (s' := x2.2) rfl ?_
      exact zRetI hf rfl rfl
    · refine zB zlokG 3 (pc' := 21) (ls' := [(0, .ref 0), (1, .int a0), (2, .int a1), (3, .int a2)]) (st' := [.int 1, .int 0, .int a2]) (s' := x2.2) rfl ?_
      refine zSI hf (As := [.int a2, .int 0, .int 1]) (rest := []) 3 zmk_g_isWithin zok_g_isWithin zl_340 rfl rfl rfl rfl rfl (fun _ e => k_g_isWithin _ _ _ _ _ e) (fun x3 hf => ?_)
      refine zIne hf (tgt := 30) rfl (by decide) (fun hc hf => ?_) (fun hc hf => ?_)
      · refine zB zlokG 1 (pc' := 29) (ls' := [(0, .ref 0), (1, .int a0), (2, .int a1), (3, .int a2)]) (st' := [.int (-2000000000)]) (s' := x3.2) rfl ?_
        exact zRetI hf rfl rfl
      · refine zB zlokG 4 (pc' := 36) (ls' := [(0, .ref 0), (1, .int a0), (2, .int a1), (3, .int a2)]) (st' := [.int a1, .int a0, .ref 29]) (s' := x3.2) rfl ?_
        refine zXI hf (As := [.int a0, .int a1]) (rest := []) 2 zmk_th_above zok_th_above zl_710 rfl rfl rfl rfl rfl rfl rfl rfl (fun _ e => k_th_above _ _ _ _ e) (fun x4 hf => ?_)
        refine zB zlokG 4 (pc' := 46) (ls' := [(4, .int x4.1), (0, .ref 0), (1, .int a0), (2, .int a1), (3, .int a2)]) (st' := [.int a1, .ref 29]) (s' := x4.2) rfl ?_
        refine zXI hf (As := [.int a1]) (rest := []) 1 zmk_th_below zok_th_below zl_718 rfl rfl rfl rfl rfl rfl rfl rfl (fun _ e => k_th_below _ _ _ e) (fun x5 hf => ?_)
        refine zB zlokG 2 (pc' := 52) (ls' := [(5, .int x5.1), (4, .int x4.1), (0, .ref 0), (1, .int a0), (2, .int a1), (3, .int a2)]) (st' := [.int a2]) (s' := x5.2) rfl ?_
        refine zIne hf (tgt := 60) rfl (by decide) (fun hc hf => ?_) (fun hc hf => ?_)
        · refine zB zlokG 1 (pc' := 57) (ls' := [(5, .int x5.1), (4, .int x4.1), (0, .ref 0), (1, .int a0), (2, .int a1), (3, .int a2)]) (st' := [.int x4.1]) (s' := x5.2) rfl ?_
          refine zGoto (tgt := 62) rfl (by decide) ?_
          refine zB zlokG 5 (pc' := 69) (ls' := [(5, .int x5.1), (4, .int x4.1), (0, .ref 0), (1, .int a0), (2, .int a1), (3, .int a2)]) (st' := [.long (x5.1 : Int32).toInt64, .long (x4.1 : Int32).toInt64, .long (x4.1 : Int32).toInt64]) (s' := x5.2) rfl ?_
          refine zSL hf (As := [.long (x4.1 : Int32).toInt64, .long (x5.1 : Int32).toInt64]) (rest := [.long (x4.1 : Int32).toInt64]) 2 zmk_su_divisor zok_su_divisor zl_685 rfl rfl rfl rfl rfl (fun _ e => k_su_divisor _ _ _ _ e) (fun x6 hf => ?_)
          refine zDivL hf rfl (fun x7 hf => ?_)
          refine zB zlokG 1 (pc' := 74) (ls' := [(5, .int x5.1), (4, .int x4.1), (0, .ref 0), (1, .int a0), (2, .int a1), (3, .int a2)]) (st' := [.int (x7 : Int64).toInt32]) (s' := x6.2) rfl ?_
          exact zRetI hf rfl rfl
        · refine zB zlokG 6 (pc' := 69) (ls' := [(5, .int x5.1), (4, .int x4.1), (0, .ref 0), (1, .int a0), (2, .int a1), (3, .int a2)]) (st' := [.long (x5.1 : Int32).toInt64, .long (x4.1 : Int32).toInt64, .long (x5.1 : Int32).toInt64]) (s' := x5.2) rfl ?_
          refine zSL hf (As := [.long (x4.1 : Int32).toInt64, .long (x5.1 : Int32).toInt64]) (rest := [.long (x5.1 : Int32).toInt64]) 2 zmk_su_divisor zok_su_divisor zl_685 rfl rfl rfl rfl rfl (fun _ e => k_su_divisor _ _ _ _ e) (fun x8 hf => ?_)
          refine zDivL hf rfl (fun x9 hf => ?_)
          refine zB zlokG 1 (pc' := 74) (ls' := [(5, .int x5.1), (4, .int x4.1), (0, .ref 0), (1, .int a0), (2, .int a1), (3, .int a2)]) (st' := [.int (x9 : Int64).toInt32]) (s' := x8.2) rfl ?_
          exact zRetI hf rfl rfl
set_option maxRecDepth 20000 in
theorem k_g_slate (a0 : Int32) (a1 : Int32) (s : zSt) (r : Int32 × zSt) (hf : f_g_slate a0 a1 s = some r) : zKp zm_g_slate ΛG 2 [.ref 0, .int a0, .int a1] s (some (.int r.1), r.2) := by
  refine zKp_of zmk_g_slate rfl ?_
  show zWA _ _ _ _ _ [(0, .ref 0), (1, .int a0), (2, .int a1)] _ _
  refine zB zlokG 9 (pc' := 12) (ls' := [(4, .int (zrem a0 10)), (3, .int (a0 / 10)), (0, .ref 0), (1, .int a0), (2, .int a1)]) (st' := [.int (a0 / 10)]) (s' := s) rfl ?_
  refine zSI hf (As := [.int (a0 / 10)]) (rest := []) 1 zmk_sl_isName zok_sl_isName zl_727 rfl rfl rfl rfl rfl (fun _ e => k_sl_isName _ _ _ e) (fun x1 hf => ?_)
  refine zIeq hf (tgt := 43) rfl (by decide) (fun hc hf => ?_) (fun hc hf => ?_)
  · refine zB zlokG 1 (pc' := 44) (ls' := [(4, .int (zrem a0 10)), (3, .int (a0 / 10)), (0, .ref 0), (1, .int a0), (2, .int a1)]) (st' := [.int (-1)]) (s' := x1.2) rfl ?_
    exact zRetI hf rfl rfl
  · refine zB zlokG 1 (pc' := 20) (ls' := [(4, .int (zrem a0 10)), (3, .int (a0 / 10)), (0, .ref 0), (1, .int a0), (2, .int a1)]) (st' := [.int (zrem a0 10)]) (s' := x1.2) rfl ?_
    refine zSI hf (As := [.int (zrem a0 10)]) (rest := []) 1 zmk_sl_isName zok_sl_isName zl_727 rfl rfl rfl rfl rfl (fun _ e => k_sl_isName _ _ _ e) (fun x2 hf => ?_)
    refine zIeq hf (tgt := 43) rfl (by decide) (fun hc hf => ?_) (fun hc hf => ?_)
    · refine zB zlokG 1 (pc' := 44) (ls' := [(4, .int (zrem a0 10)), (3, .int (a0 / 10)), (0, .ref 0), (1, .int a0), (2, .int a1)]) (st' := [.int (-1)]) (s' := x2.2) rfl ?_
      exact zRetI hf rfl rfl
    · refine zB zlokG 2 (pc' := 29) (ls' := [(4, .int (zrem a0 10)), (3, .int (a0 / 10)), (0, .ref 0), (1, .int a0), (2, .int a1)]) (st' := [.int (zrem a0 10), .int (a0 / 10)]) (s' := x2.2) rfl ?_
      refine zCeq hf (tgt := 43) rfl (by decide) (fun hc hf => ?_) (fun hc hf => ?_)
      · refine zB zlokG 1 (pc' := 44) (ls' := [(4, .int (zrem a0 10)), (3, .int (a0 / 10)), (0, .ref 0), (1, .int a0), (2, .int a1)]) (st' := [.int (-1)]) (s' := x2.2) rfl ?_
        exact zRetI hf rfl rfl
      · refine zB zlokG 3 (pc' := 37) (ls' := [(4, .int (zrem a0 10)), (3, .int (a0 / 10)), (0, .ref 0), (1, .int a0), (2, .int a1)]) (st' := [.int 999, .int 0, .int a1]) (s' := x2.2) rfl ?_
        refine zSI hf (As := [.int a1, .int 0, .int 999]) (rest := []) 3 zmk_g_isWithin zok_g_isWithin zl_340 rfl rfl rfl rfl rfl (fun _ e => k_g_isWithin _ _ _ _ _ e) (fun x3 hf => ?_)
        refine zIne hf (tgt := 45) rfl (by decide) (fun hc hf => ?_) (fun hc hf => ?_)
        · refine zB zlokG 1 (pc' := 44) (ls' := [(4, .int (zrem a0 10)), (3, .int (a0 / 10)), (0, .ref 0), (1, .int a0), (2, .int a1)]) (st' := [.int (-1)]) (s' := x3.2) rfl ?_
          exact zRetI hf rfl rfl
        · refine zB zlokG 5 (pc' := 53) (ls' := [(4, .int (zrem a0 10)), (3, .int (a0 / 10)), (0, .ref 0), (1, .int a0), (2, .int a1)]) (st' := [.int a1, .int (zrem a0 10), .int (a0 / 10), .ref 32]) (s' := x3.2) rfl ?_
          refine zXI hf (As := [.int (a0 / 10), .int (zrem a0 10), .int a1]) (rest := []) 3 zmk_sl_write zok_sl_write zl_731 rfl rfl rfl rfl rfl rfl rfl rfl (fun _ e => k_sl_write _ _ _ _ _ e) (fun x4 hf => ?_)
          exact zRetI hf rfl rfl
set_option maxRecDepth 20000 in
theorem k_g_owes (a0 : Int32) (s : zSt) (r : Int32 × zSt) (hf : f_g_owes a0 s = some r) : zKp zm_g_owes ΛG 2 [.ref 0, .int a0] s (some (.int r.1), r.2) := by
  refine zKp_of zmk_g_owes rfl ?_
  show zWA _ _ _ _ _ [(0, .ref 0), (1, .int a0)] _ _
  refine zB zlokG 1 (pc' := 1) (ls' := [(0, .ref 0), (1, .int a0)]) (st' := [.int a0]) (s' := s) rfl ?_
  refine zSI hf (As := [.int a0]) (rest := []) 1 zmk_sl_isName zok_sl_isName zl_727 rfl rfl rfl rfl rfl (fun _ e => k_sl_isName _ _ _ e) (fun x1 hf => ?_)
  refine zIeq hf (tgt := 18) rfl (by decide) (fun hc hf => ?_) (fun hc hf => ?_)
  · refine zB zlokG 1 (pc' := 20) (ls' := [(0, .ref 0), (1, .int a0)]) (st' := [.int (-2000000000)]) (s' := x1.2) rfl ?_
    exact zRetI hf rfl rfl
  · refine zB zlokG 3 (pc' := 12) (ls' := [(0, .ref 0), (1, .int a0)]) (st' := [.int a0, .ref 32]) (s' := x1.2) rfl ?_
    refine zXI hf (As := [.int a0]) (rest := []) 1 zmk_sl_balance zok_sl_balance zl_739 rfl rfl rfl rfl rfl rfl rfl rfl (fun _ e => k_sl_balance _ _ _ e) (fun x2 hf => ?_)
    refine zGoto (tgt := 20) rfl (by decide) ?_
    exact zRetI hf rfl rfl
set_option maxRecDepth 20000 in
theorem k_g_wiped (s : zSt) (r : Int32 × zSt) (hf : f_g_wiped s = some r) : zKp zm_g_wiped ΛG 3 [.ref 0] s (some (.int r.1), r.2) := by
  refine zKp_of zmk_g_wiped rfl ?_
  show zWA _ _ _ _ _ [(0, .ref 0)] _ _
  refine zB zlokG 2 (pc' := 4) (ls' := [(0, .ref 0)]) (st' := [.ref 32]) (s' := s) rfl ?_
  refine zXI hf (As := []) (rest := []) 0 zmk_sl_fewestPayments zok_sl_fewestPayments zl_747 rfl rfl rfl rfl rfl rfl rfl rfl (fun _ e => k_sl_fewestPayments _ _ e) (fun x1 hf => ?_)
  exact zRetI hf rfl rfl
set_option maxRecDepth 20000 in
theorem k_g_image (s : zSt) (r : Int32 × zSt) (hf : f_g_image s = some r) : zKp zm_g_image ΛG 2 [.ref 0] s (some (.int r.1), r.2) := by
  refine zKp_of zmk_g_image rfl ?_
  show zWA _ _ _ _ _ [(0, .ref 0)] _ _
  refine zB zlokG 2 (pc' := 4) (ls' := [(0, .ref 0)]) (st' := [.ref 6]) (s' := s) rfl ?_
  refine zXV hf (As := []) (rest := []) 0 zmk_st_keepImage zok_st_keepImage zl_761 rfl rfl rfl rfl rfl rfl rfl rfl (fun _ e => k_st_keepImage _ _ e) (fun x1 hf => ?_)
  refine zB zlokG 2 (pc' := 11) (ls' := [(0, .ref 0)]) (st' := [.ref 6]) (s' := x1) rfl ?_
  refine zXI hf (As := []) (rest := []) 0 zmk_st_sumOfHeats zok_st_sumOfHeats zl_766 rfl rfl rfl rfl rfl rfl rfl rfl (fun _ e => k_st_sumOfHeats _ _ e) (fun x2 hf => ?_)
  exact zRetI hf rfl rfl
set_option maxRecDepth 20000 in
theorem k_g_back (s : zSt) (r : Int32 × zSt) (hf : f_g_back s = some r) : zKp zm_g_back ΛG 2 [.ref 0] s (some (.int r.1), r.2) := by
  refine zKp_of zmk_g_back rfl ?_
  show zWA _ _ _ _ _ [(0, .ref 0)] _ _
  refine zB zlokG 3 (pc' := 7) (ls' := [(0, .ref 0)]) (st' := [.int (s.1 6 6)]) (s' := s) rfl ?_
  refine zIne hf (tgt := 13) rfl (by decide) (fun hc hf => ?_) (fun hc hf => ?_)
  · refine zB zlokG 1 (pc' := 12) (ls' := [(0, .ref 0)]) (st' := [.int (-5)]) (s' := s) rfl ?_
    exact zRetI hf rfl rfl
  · refine zB zlokG 2 (pc' := 17) (ls' := [(0, .ref 0)]) (st' := [.ref 6]) (s' := s) rfl ?_
    refine zXV hf (As := []) (rest := []) 0 zmk_st_takeImage zok_st_takeImage zl_774 rfl rfl rfl rfl rfl rfl rfl rfl (fun _ e => k_st_takeImage _ _ e) (fun x1 hf => ?_)
    refine zB zlokG 2 (pc' := 24) (ls' := [(0, .ref 0)]) (st' := [.ref 6]) (s' := x1) rfl ?_
    refine zXI hf (As := []) (rest := []) 0 zmk_st_sumOfHeats zok_st_sumOfHeats zl_766 rfl rfl rfl rfl rfl rfl rfl rfl (fun _ e => k_st_sumOfHeats _ _ e) (fun x2 hf => ?_)
    exact zRetI hf rfl rfl
set_option maxRecDepth 20000 in
theorem k_g_undo (s : zSt) (r : Int32 × zSt) (hf : f_g_undo s = some r) : zKp zm_g_undo ΛG 1 [.ref 0] s (some (.int r.1), r.2) := by
  refine zKp_of zmk_g_undo rfl ?_
  show zWA _ _ _ _ _ [(0, .ref 0)] _ _
  refine zB zlokG 2 (pc' := 4) (ls' := [(0, .ref 0)]) (st' := [.ref 1]) (s' := s) rfl ?_
  refine zXI hf (As := []) (rest := []) 0 zmk_rc_takeBack zok_rc_takeBack zl_782 rfl rfl rfl rfl rfl rfl rfl rfl (fun _ e => k_rc_takeBack _ _ e) (fun x1 hf => ?_)
  refine zIeq hf (tgt := 20) rfl (by decide) (fun hc hf => ?_) (fun hc hf => ?_)
  · refine zB zlokG 1 (pc' := 22) (ls' := [(0, .ref 0)]) (st' := [.int (-5)]) (s' := x1.2) rfl ?_
    exact zRetI hf rfl rfl
  · refine zB zlokG 3 (pc' := 17) (ls' := [(0, .ref 0)]) (st' := [.int (x1.2.1 1 4)]) (s' := x1.2) rfl ?_
    refine zGoto (tgt := 22) rfl (by decide) ?_
    exact zRetI hf rfl rfl
set_option maxRecDepth 20000 in
theorem k_g_redo (s : zSt) (r : Int32 × zSt) (hf : f_g_redo s = some r) : zKp zm_g_redo ΛG 1 [.ref 0] s (some (.int r.1), r.2) := by
  refine zKp_of zmk_g_redo rfl ?_
  show zWA _ _ _ _ _ [(0, .ref 0)] _ _
  refine zB zlokG 2 (pc' := 4) (ls' := [(0, .ref 0)]) (st' := [.ref 1]) (s' := s) rfl ?_
  refine zXI hf (As := []) (rest := []) 0 zmk_rc_doAgain zok_rc_doAgain zl_790 rfl rfl rfl rfl rfl rfl rfl rfl (fun _ e => k_rc_doAgain _ _ e) (fun x1 hf => ?_)
  refine zIeq hf (tgt := 28) rfl (by decide) (fun hc hf => ?_) (fun hc hf => ?_)
  · refine zB zlokG 1 (pc' := 30) (ls' := [(0, .ref 0)]) (st' := [.int (-5)]) (s' := x1.2) rfl ?_
    exact zRetI hf rfl rfl
  · refine zB zlokG 7 (pc' := 25) (ls' := [(0, .ref 0)]) (st' := [.int ((x1.2.1 1 5) - (x1.2.1 1 4))]) (s' := x1.2) rfl ?_
    refine zGoto (tgt := 30) rfl (by decide) ?_
    exact zRetI hf rfl rfl
set_option maxRecDepth 20000 in
theorem k_g_body (a0 : Int32) (s : zSt) (r : Int32 × zSt) (hf : f_g_body a0 s = some r) : zKp zm_g_body ΛG 1 [.ref 0, .int a0] s (some (.int r.1), r.2) := by
  refine zKp_of zmk_g_body rfl ?_
  show zWA _ _ _ _ _ [(0, .ref 0), (1, .int a0)] _ _
  refine zB zlokG 3 (pc' := 4) (ls' := [(0, .ref 0), (1, .int a0)]) (st' := [.int 7, .int 0, .int a0]) (s' := s) rfl ?_
  refine zSI hf (As := [.int a0, .int 0, .int 7]) (rest := []) 3 zmk_g_isWithin zok_g_isWithin zl_340 rfl rfl rfl rfl rfl (fun _ e => k_g_isWithin _ _ _ _ _ e) (fun x1 hf => ?_)
  refine zIne hf (tgt := 12) rfl (by decide) (fun hc hf => ?_) (fun hc hf => ?_)
  · refine zB zlokG 1 (pc' := 11) (ls' := [(0, .ref 0), (1, .int a0)]) (st' := [.int (-1)]) (s' := x1.2) rfl ?_
    exact zRetI hf rfl rfl
  · refine zB zlokG 3 (pc' := 17) (ls' := [(0, .ref 0), (1, .int a0)]) (st' := [.int a0, .ref 36]) (s' := x1.2) rfl ?_
    refine zXI hf (As := [.int a0]) (rest := []) 1 zmk_gl_add zok_gl_add zl_798 rfl rfl rfl rfl rfl rfl rfl rfl (fun _ e => k_gl_add _ _ _ e) (fun x2 hf => ?_)
    refine zIeq hf (tgt := 35) rfl (by decide) (fun hc hf => ?_) (fun hc hf => ?_)
    · refine zB zlokG 1 (pc' := 37) (ls' := [(0, .ref 0), (1, .int a0)]) (st' := [.int (-3)]) (s' := x2.2) rfl ?_
      exact zRetI hf rfl rfl
    · refine zB zlokG 5 (pc' := 32) (ls' := [(0, .ref 0), (1, .int a0)]) (st' := [.int ((x2.2.1 36 1) - 1)]) (s' := x2.2) rfl ?_
      refine zGoto (tgt := 37) rfl (by decide) ?_
      exact zRetI hf rfl rfl
set_option maxRecDepth 20000 in
theorem k_g_act (a0 : Int32) (a1 : Int32) (a2 : Int32) (s : zSt) (r : Int32 × zSt) (hf : f_g_act a0 a1 a2 s = some r) : zKp zm_g_act ΛG 71 [.ref 0, .int a0, .int a1, .int a2] s (some (.int r.1), r.2) := by
  refine zKp_of zmk_g_act rfl ?_
  show zWA _ _ _ _ _ [(0, .ref 0), (1, .int a0), (2, .int a1), (3, .int a2)] _ _
  refine zB zlokG 5 (pc' := 7) (ls' := [(0, .ref 0), (1, .int a0), (2, .int a1), (3, .int a2)]) (st' := [.int a2, .int a1, .int a0, .ref 36]) (s' := s) rfl ?_
  refine zXI hf (As := [.int a0, .int a1, .int a2]) (rest := []) 3 zmk_gl_enact zok_gl_enact zl_806 rfl rfl rfl rfl rfl rfl rfl rfl (fun _ e => k_gl_enact _ _ _ _ _ e) (fun x1 hf => ?_)
  exact zRetI hf rfl rfl
set_option maxRecDepth 20000 in
theorem k_g_trace (a0 : Int32) (s : zSt) (r : Int32 × zSt) (hf : f_g_trace a0 s = some r) : zKp zm_g_trace ΛG 2 [.ref 0, .int a0] s (some (.int r.1), r.2) := by
  refine zKp_of zmk_g_trace rfl ?_
  show zWA _ _ _ _ _ [(0, .ref 0), (1, .int a0)] _ _
  refine zB zlokG 4 (pc' := 6) (ls' := [(0, .ref 0), (1, .int a0)]) (st' := [.ref 36, .int 0, .int a0]) (s' := s) rfl ?_
  refine zXI hf (As := []) (rest := [.int 0, .int a0]) 0 zmk_gl_begunKept zok_gl_begunKept zl_835 rfl rfl rfl rfl rfl rfl rfl rfl (fun _ e => k_gl_begunKept _ _ e) (fun x1 hf => ?_)
  refine zB zlokG 2 (pc' := 11) (ls' := [(0, .ref 0), (1, .int a0)]) (st' := [.int (x1.1 - 1), .int 0, .int a0]) (s' := x1.2) rfl ?_
  refine zSI hf (As := [.int a0, .int 0, .int (x1.1 - 1)]) (rest := []) 3 zmk_g_isWithin zok_g_isWithin zl_340 rfl rfl rfl rfl rfl (fun _ e => k_g_isWithin _ _ _ _ _ e) (fun x2 hf => ?_)
  refine zIeq hf (tgt := 29) rfl (by decide) (fun hc hf => ?_) (fun hc hf => ?_)
  · refine zB zlokG 1 (pc' := 30) (ls' := [(0, .ref 0), (1, .int a0)]) (st' := [.int (-1)]) (s' := x2.2) rfl ?_
    exact zRetI hf rfl rfl
  · refine zB zlokG 4 (pc' := 25) (ls' := [(0, .ref 0), (1, .int a0)]) (st' := [.int a0, .ref 38]) (s' := x2.2) rfl ?_
    refine zIald hf rfl (by rfl) (fun x3 hf => ?_)
    refine zGoto (tgt := 30) rfl (by decide) ?_
    exact zRetI hf rfl rfl
set_option maxRecDepth 20000 in
theorem k_g_keep (a0 : Int32) (a1 : Int32) (s : zSt) (r : Int32 × zSt) (hf : f_g_keep a0 a1 s = some r) : zKp zm_g_keep ΛG 4 [.ref 0, .int a0, .int a1] s (some (.int r.1), r.2) := by
  refine zKp_of zmk_g_keep rfl ?_
  show zWA _ _ _ _ _ [(0, .ref 0), (1, .int a0), (2, .int a1)] _ _
  refine zB zlokG 2 (pc' := 2) (ls' := [(0, .ref 0), (1, .int a0), (2, .int a1)]) (st' := [.int a0, .ref 0]) (s' := s) rfl ?_
  refine zShelfAt hf zl_347 rfl rfl (by rfl) (fun j2 hj2 hf => ?_) (fun hf => ?_)
  · refine zB zlokG 2 (pc' := 7) (ls' := [(3, .ref (40 + 2 * j2)), (0, .ref 0), (1, .int a0), (2, .int a1)]) (st' := [.ref (40 + 2 * j2)]) (s' := s) rfl ?_
    refine zNull rfl ?_
    refine zB zlokG 2 (pc' := 12) (ls' := [(3, .ref (40 + 2 * j2)), (0, .ref 0), (1, .int a0), (2, .int a1)]) (st' := [.int (-1), .int a1]) (s' := s) rfl ?_
    refine zCeq hf (tgt := 28) rfl (by decide) (fun hc hf => ?_) (fun hc hf => ?_)
    · refine zB zlokG 2 (pc' := 30) (ls' := [(3, .ref (40 + 2 * j2)), (0, .ref 0), (1, .int a0), (2, .int a1)]) (st' := [.int a1, .ref (40 + 2 * j2)]) (s' := s) rfl ?_
      refine zXV hf (As := [.int a1]) (rest := []) 1 zmk_sh_holdGlass zok_sh_holdGlass zl_845 rfl (zsh_at hj2).1 rfl rfl rfl rfl rfl rfl (fun _ e => k_sh_holdGlass _ _ (zsh_at hj2) _ _ e) (fun x3 hf => ?_)
      refine zB zlokG 1 (pc' := 34) (ls' := [(3, .ref (40 + 2 * j2)), (0, .ref 0), (1, .int a0), (2, .int a1)]) (st' := [.int 1]) (s' := x3) rfl ?_
      exact zRetI hf rfl rfl
    · refine zB zlokG 3 (pc' := 20) (ls' := [(3, .ref (40 + 2 * j2)), (0, .ref 0), (1, .int a0), (2, .int a1)]) (st' := [.int a1, .ref 36]) (s' := s) rfl ?_
      refine zXI hf (As := [.int a1]) (rest := []) 1 zmk_gl_has zok_gl_has zl_844 rfl rfl rfl rfl rfl rfl rfl rfl (fun _ e => k_gl_has _ _ _ e) (fun x4 hf => ?_)
      refine zIne hf (tgt := 28) rfl (by decide) (fun hc hf => ?_) (fun hc hf => ?_)
      · refine zB zlokG 1 (pc' := 27) (ls' := [(3, .ref (40 + 2 * j2)), (0, .ref 0), (1, .int a0), (2, .int a1)]) (st' := [.int (-1)]) (s' := x4.2) rfl ?_
        exact zRetI hf rfl rfl
      · refine zB zlokG 2 (pc' := 30) (ls' := [(3, .ref (40 + 2 * j2)), (0, .ref 0), (1, .int a0), (2, .int a1)]) (st' := [.int a1, .ref (40 + 2 * j2)]) (s' := x4.2) rfl ?_
        refine zXV hf (As := [.int a1]) (rest := []) 1 zmk_sh_holdGlass zok_sh_holdGlass zl_845 rfl (zsh_at hj2).1 rfl rfl rfl rfl rfl rfl (fun _ e => k_sh_holdGlass _ _ (zsh_at hj2) _ _ e) (fun x5 hf => ?_)
        refine zB zlokG 1 (pc' := 34) (ls' := [(3, .ref (40 + 2 * j2)), (0, .ref 0), (1, .int a0), (2, .int a1)]) (st' := [.int 1]) (s' := x5) rfl ?_
        exact zRetI hf rfl rfl
  · refine zB zlokG 2 (pc' := 7) (ls' := [(3, .null), (0, .ref 0), (1, .int a0), (2, .int a1)]) (st' := [.null]) (s' := s) rfl ?_
    refine zNullN (tgt := 26) rfl (by decide) ?_
    refine zB zlokG 1 (pc' := 27) (ls' := [(3, .null), (0, .ref 0), (1, .int a0), (2, .int a1)]) (st' := [.int (-1)]) (s' := s) rfl ?_
    exact zRetI hf rfl rfl
set_option maxRecDepth 20000 in
theorem k_g_row (a0 : Int32) (a1 : Int32) (a2 : Int32) (s : zSt) (r : Int32 × zSt) (hf : f_g_row a0 a1 a2 s = some r) : zKp zm_g_row ΛG 4 [.ref 0, .int a0, .int a1, .int a2] s (some (.int r.1), r.2) := by
  refine zKp_of zmk_g_row rfl ?_
  show zWA _ _ _ _ _ [(0, .ref 0), (1, .int a0), (2, .int a1), (3, .int a2)] _ _
  refine zB zlokG 2 (pc' := 2) (ls' := [(0, .ref 0), (1, .int a0), (2, .int a1), (3, .int a2)]) (st' := [.int a0, .ref 0]) (s' := s) rfl ?_
  refine zShelfAt hf zl_347 rfl rfl (by rfl) (fun j2 hj2 hf => ?_) (fun hf => ?_)
  · refine zB zlokG 2 (pc' := 9) (ls' := [(4, .ref (40 + 2 * j2)), (0, .ref 0), (1, .int a0), (2, .int a1), (3, .int a2)]) (st' := [.ref (40 + 2 * j2)]) (s' := s) rfl ?_
    refine zNull rfl ?_
    refine zB zlokG 3 (pc' := 15) (ls' := [(4, .ref (40 + 2 * j2)), (0, .ref 0), (1, .int a0), (2, .int a1), (3, .int a2)]) (st' := [.int 4, .int 0, .int a1]) (s' := s) rfl ?_
    refine zSI hf (As := [.int a1, .int 0, .int 4]) (rest := []) 3 zmk_g_isWithin zok_g_isWithin zl_340 rfl rfl rfl rfl rfl (fun _ e => k_g_isWithin _ _ _ _ _ e) (fun x3 hf => ?_)
    refine zIeq hf (tgt := 27) rfl (by decide) (fun hc hf => ?_) (fun hc hf => ?_)
    · refine zB zlokG 1 (pc' := 28) (ls' := [(4, .ref (40 + 2 * j2)), (0, .ref 0), (1, .int a0), (2, .int a1), (3, .int a2)]) (st' := [.int (-1)]) (s' := x3.2) rfl ?_
      exact zRetI hf rfl rfl
    · refine zB zlokG 2 (pc' := 24) (ls' := [(4, .ref (40 + 2 * j2)), (0, .ref 0), (1, .int a0), (2, .int a1), (3, .int a2)]) (st' := [.int 60, .int a2]) (s' := x3.2) rfl ?_
      refine zCle hf (tgt := 29) rfl (by decide) (fun hc hf => ?_) (fun hc hf => ?_)
      · refine zB zlokG 1 (pc' := 30) (ls' := [(4, .ref (40 + 2 * j2)), (0, .ref 0), (1, .int a0), (2, .int a1), (3, .int a2)]) (st' := [.int a2]) (s' := x3.2) rfl ?_
        refine zIge hf (tgt := 36) rfl (by decide) (fun hc hf => ?_) (fun hc hf => ?_)
        · refine zB zlokG 3 (pc' := 40) (ls' := [(4, .ref (40 + 2 * j2)), (0, .ref 0), (1, .int a0), (2, .int a1), (3, .int a2)]) (st' := [.int a2, .int a1, .ref (40 + 2 * j2)]) (s' := x3.2) rfl ?_
          refine zXV hf (As := [.int a1, .int a2]) (rest := []) 2 zmk_sh_holdRow zok_sh_holdRow zl_853 rfl (zsh_at hj2).1 rfl rfl rfl rfl rfl rfl (fun _ e => k_sh_holdRow _ _ _ (zsh_at hj2) _ _ e) (fun x4 hf => ?_)
          refine zB zlokG 1 (pc' := 44) (ls' := [(4, .ref (40 + 2 * j2)), (0, .ref 0), (1, .int a0), (2, .int a1), (3, .int a2)]) (st' := [.int 1]) (s' := x4) rfl ?_
          exact zRetI hf rfl rfl
        · refine zB zlokG 1 (pc' := 35) (ls' := [(4, .ref (40 + 2 * j2)), (0, .ref 0), (1, .int a0), (2, .int a1), (3, .int a2)]) (st' := [.int (-14)]) (s' := x3.2) rfl ?_
          exact zRetI hf rfl rfl
      · refine zB zlokG 1 (pc' := 28) (ls' := [(4, .ref (40 + 2 * j2)), (0, .ref 0), (1, .int a0), (2, .int a1), (3, .int a2)]) (st' := [.int (-1)]) (s' := x3.2) rfl ?_
        exact zRetI hf rfl rfl
  · refine zB zlokG 2 (pc' := 9) (ls' := [(4, .null), (0, .ref 0), (1, .int a0), (2, .int a1), (3, .int a2)]) (st' := [.null]) (s' := s) rfl ?_
    refine zNullN (tgt := 27) rfl (by decide) ?_
    refine zB zlokG 1 (pc' := 28) (ls' := [(4, .null), (0, .ref 0), (1, .int a0), (2, .int a1), (3, .int a2)]) (st' := [.int (-1)]) (s' := s) rfl ?_
    exact zRetI hf rfl rfl
set_option maxRecDepth 20000 in
theorem k_g_put (a0 : Int32) (a1 : Int32) (a2 : Int64) (s : zSt) (r : Int32 × zSt) (hf : f_g_put a0 a1 a2 s = some r) : zKp zm_g_put ΛG 4 [.ref 0, .int a0, .int a1, .long a2] s (some (.int r.1), r.2) := by
  refine zKp_of zmk_g_put rfl ?_
  show zWA _ _ _ _ _ [(0, .ref 0), (1, .int a0), (2, .int a1), (3, .long a2)] _ _
  refine zB zlokG 2 (pc' := 2) (ls' := [(0, .ref 0), (1, .int a0), (2, .int a1), (3, .long a2)]) (st' := [.int a0, .ref 0]) (s' := s) rfl ?_
  refine zShelfAt hf zl_347 rfl rfl (by rfl) (fun j2 hj2 hf => ?_) (fun hf => ?_)
  · refine zB zlokG 2 (pc' := 9) (ls' := [(5, .ref (40 + 2 * j2)), (0, .ref 0), (1, .int a0), (2, .int a1), (3, .long a2)]) (st' := [.ref (40 + 2 * j2)]) (s' := s) rfl ?_
    refine zNon (tgt := 14) rfl (by decide) ?_
    refine zB zlokG 3 (pc' := 18) (ls' := [(5, .ref (40 + 2 * j2)), (0, .ref 0), (1, .int a0), (2, .int a1), (3, .long a2)]) (st' := [.int 1, .int a1, .ref (40 + 2 * j2)]) (s' := s) rfl ?_
    refine zXI hf (As := [.int a1, .int 1]) (rest := []) 2 zmk_sh_refusalOfPlaces zok_sh_refusalOfPlaces zl_865 rfl (zsh_at hj2).1 rfl rfl rfl rfl rfl rfl (fun _ e => k_sh_refusalOfPlaces _ _ _ (zsh_at hj2) _ _ e) (fun x3 hf => ?_)
    refine zB zlokG 2 (pc' := 25) (ls' := [(6, .int x3.1), (5, .ref (40 + 2 * j2)), (0, .ref 0), (1, .int a0), (2, .int a1), (3, .long a2)]) (st' := [.int x3.1]) (s' := x3.2) rfl ?_
    refine zIeq hf (tgt := 31) rfl (by decide) (fun hc hf => ?_) (fun hc hf => ?_)
    · refine zB zlokG 3 (pc' := 35) (ls' := [(6, .int x3.1), (5, .ref (40 + 2 * j2)), (0, .ref 0), (1, .int a0), (2, .int a1), (3, .long a2)]) (st' := [.long a2, .int a1, .ref (40 + 2 * j2)]) (s' := x3.2) rfl ?_
      refine zXV hf (As := [.int a1, .long a2]) (rest := []) 2 zmk_sh_write zok_sh_write zl_871 rfl (zsh_at hj2).1 rfl rfl rfl rfl rfl rfl (fun _ e => k_sh_write _ _ _ (zsh_at hj2) _ _ e) (fun x4 hf => ?_)
      refine zB zlokG 1 (pc' := 39) (ls' := [(6, .int x3.1), (5, .ref (40 + 2 * j2)), (0, .ref 0), (1, .int a0), (2, .int a1), (3, .long a2)]) (st' := [.int 1]) (s' := x4) rfl ?_
      exact zRetI hf rfl rfl
    · refine zB zlokG 1 (pc' := 30) (ls' := [(6, .int x3.1), (5, .ref (40 + 2 * j2)), (0, .ref 0), (1, .int a0), (2, .int a1), (3, .long a2)]) (st' := [.int x3.1]) (s' := x3.2) rfl ?_
      exact zRetI hf rfl rfl
  · refine zB zlokG 2 (pc' := 9) (ls' := [(5, .null), (0, .ref 0), (1, .int a0), (2, .int a1), (3, .long a2)]) (st' := [.null]) (s' := s) rfl ?_
    refine zNonN rfl ?_
    refine zB zlokG 1 (pc' := 13) (ls' := [(5, .null), (0, .ref 0), (1, .int a0), (2, .int a1), (3, .long a2)]) (st' := [.int (-1)]) (s' := s) rfl ?_
    exact zRetI hf rfl rfl
set_option maxRecDepth 20000 in
theorem k_g_element (a0 : Int32) (a1 : Int32) (s : zSt) (r : Int64 × zSt) (hf : f_g_element a0 a1 s = some r) : zKp zm_g_element ΛG 4 [.ref 0, .int a0, .int a1] s (some (.long r.1), r.2) := by
  refine zKp_of zmk_g_element rfl ?_
  show zWA _ _ _ _ _ [(0, .ref 0), (1, .int a0), (2, .int a1)] _ _
  refine zB zlokG 2 (pc' := 2) (ls' := [(0, .ref 0), (1, .int a0), (2, .int a1)]) (st' := [.int a0, .ref 0]) (s' := s) rfl ?_
  refine zShelfAt hf zl_347 rfl rfl (by rfl) (fun j2 hj2 hf => ?_) (fun hf => ?_)
  · refine zB zlokG 2 (pc' := 7) (ls' := [(3, .ref (40 + 2 * j2)), (0, .ref 0), (1, .int a0), (2, .int a1)]) (st' := [.ref (40 + 2 * j2)]) (s' := s) rfl ?_
    refine zNull rfl ?_
    refine zB zlokG 3 (pc' := 13) (ls' := [(3, .ref (40 + 2 * j2)), (0, .ref 0), (1, .int a0), (2, .int a1)]) (st' := [.int 1, .int a1, .ref (40 + 2 * j2)]) (s' := s) rfl ?_
    refine zXI hf (As := [.int a1, .int 1]) (rest := []) 2 zmk_sh_refusalOfPlaces zok_sh_refusalOfPlaces zl_865 rfl (zsh_at hj2).1 rfl rfl rfl rfl rfl rfl (fun _ e => k_sh_refusalOfPlaces _ _ _ (zsh_at hj2) _ _ e) (fun x3 hf => ?_)
    refine zIeq hf (tgt := 23) rfl (by decide) (fun hc hf => ?_) (fun hc hf => ?_)
    · refine zB zlokG 1 (pc' := 24) (ls' := [(3, .ref (40 + 2 * j2)), (0, .ref 0), (1, .int a0), (2, .int a1)]) (st' := [.ref (40 + 2 * j2)]) (s' := x3.2) rfl ?_
      refine zGetR (j := 3) rfl rfl (zsh_at hj2).1 rfl ?_
      refine zB zlokG 1 (pc' := 28) (ls' := [(3, .ref (40 + 2 * j2)), (0, .ref 0), (1, .int a0), (2, .int a1)]) (st' := [.int a1, .ref ((40 + 2 * j2) + 1)]) (s' := x3.2) rfl ?_
      refine zLald hf rfl (zsh_at hj2).2 (fun x4 hf => ?_)
      exact zRetL hf rfl rfl
    · refine zB zlokG 1 (pc' := 22) (ls' := [(3, .ref (40 + 2 * j2)), (0, .ref 0), (1, .int a0), (2, .int a1)]) (st' := [.long (-9223372036854775808)]) (s' := x3.2) rfl ?_
      exact zRetL hf rfl rfl
  · refine zB zlokG 2 (pc' := 7) (ls' := [(3, .null), (0, .ref 0), (1, .int a0), (2, .int a1)]) (st' := [.null]) (s' := s) rfl ?_
    refine zNullN (tgt := 19) rfl (by decide) ?_
    refine zB zlokG 1 (pc' := 22) (ls' := [(3, .null), (0, .ref 0), (1, .int a0), (2, .int a1)]) (st' := [.long (-9223372036854775808)]) (s' := s) rfl ?_
    exact zRetL hf rfl rfl
set_option maxRecDepth 20000 in
theorem k_g_shift (a0 : Int32) (a1 : Int32) (a2 : Int32) (a3 : Int32) (a4 : Int32) (s : zSt) (r : Int32 × zSt) (hf : f_g_shift a0 a1 a2 a3 a4 s = some r) : zKp zm_g_shift ΛG 4 [.ref 0, .int a0, .int a1, .int a2, .int a3, .int a4] s (some (.int r.1), r.2) := by
  refine zKp_of zmk_g_shift rfl ?_
  show zWA _ _ _ _ _ [(0, .ref 0), (1, .int a0), (2, .int a1), (3, .int a2), (4, .int a3), (5, .int a4)] _ _
  refine zB zlokG 2 (pc' := 2) (ls' := [(0, .ref 0), (1, .int a0), (2, .int a1), (3, .int a2), (4, .int a3), (5, .int a4)]) (st' := [.int a0, .ref 0]) (s' := s) rfl ?_
  refine zShelfAt hf zl_347 rfl rfl (by rfl) (fun j2 hj2 hf => ?_) (fun hf => ?_)
  · refine zB zlokG 3 (pc' := 9) (ls' := [(6, .ref (40 + 2 * j2)), (0, .ref 0), (1, .int a0), (2, .int a1), (3, .int a2), (4, .int a3), (5, .int a4)]) (st' := [.int a2, .ref 0]) (s' := s) rfl ?_
    refine zShelfAt hf zl_347 rfl rfl (by rfl) (fun j6 hj6 hf => ?_) (fun hf => ?_)
    · refine zB zlokG 2 (pc' := 16) (ls' := [(7, .ref (40 + 2 * j6)), (6, .ref (40 + 2 * j2)), (0, .ref 0), (1, .int a0), (2, .int a1), (3, .int a2), (4, .int a3), (5, .int a4)]) (st' := [.ref (40 + 2 * j2)]) (s' := s) rfl ?_
      refine zNull rfl ?_
      refine zB zlokG 1 (pc' := 21) (ls' := [(7, .ref (40 + 2 * j6)), (6, .ref (40 + 2 * j2)), (0, .ref 0), (1, .int a0), (2, .int a1), (3, .int a2), (4, .int a3), (5, .int a4)]) (st' := [.ref (40 + 2 * j6)]) (s' := s) rfl ?_
      refine zNon (tgt := 26) rfl (by decide) ?_
      refine zB zlokG 1 (pc' := 28) (ls' := [(7, .ref (40 + 2 * j6)), (6, .ref (40 + 2 * j2)), (0, .ref 0), (1, .int a0), (2, .int a1), (3, .int a2), (4, .int a3), (5, .int a4)]) (st' := [.ref (40 + 2 * j2)]) (s' := s) rfl ?_
      refine zXI hf (As := []) (rest := []) 0 zmk_sh_isEmpty zok_sh_isEmpty zl_351 rfl (zsh_at hj2).1 rfl rfl rfl rfl rfl rfl (fun _ e => k_sh_isEmpty _ (zsh_at hj2) _ _ e) (fun x7 hf => ?_)
      refine zIne hf (tgt := 42) rfl (by decide) (fun hc hf => ?_) (fun hc hf => ?_)
      · refine zB zlokG 1 (pc' := 36) (ls' := [(7, .ref (40 + 2 * j6)), (6, .ref (40 + 2 * j2)), (0, .ref 0), (1, .int a0), (2, .int a1), (3, .int a2), (4, .int a3), (5, .int a4)]) (st' := [.ref (40 + 2 * j6)]) (s' := x7.2) rfl ?_
        refine zXI hf (As := []) (rest := []) 0 zmk_sh_isEmpty zok_sh_isEmpty zl_351 rfl (zsh_at hj6).1 rfl rfl rfl rfl rfl rfl (fun _ e => k_sh_isEmpty _ (zsh_at hj6) _ _ e) (fun x8 hf => ?_)
        refine zIeq hf (tgt := 45) rfl (by decide) (fun hc hf => ?_) (fun hc hf => ?_)
        · refine zB zlokG 2 (pc' := 49) (ls' := [(7, .ref (40 + 2 * j6)), (6, .ref (40 + 2 * j2)), (0, .ref 0), (1, .int a0), (2, .int a1), (3, .int a2), (4, .int a3), (5, .int a4)]) (st' := [.ref (40 + 2 * j6), .ref (40 + 2 * j2)]) (s' := x8.2) rfl ?_
          refine zGetI (j := 1) rfl rfl (zsh_at hj6).1 rfl ?_
          refine zXI hf (As := [.int (x8.2.1 (40 + 2 * j6) 1)]) (rest := []) 1 zmk_sh_isRowOf zok_sh_isRowOf zl_355 rfl (zsh_at hj2).1 rfl rfl rfl rfl rfl rfl (fun _ e => k_sh_isRowOf _ _ (zsh_at hj2) _ _ e) (fun x9 hf => ?_)
          refine zIne hf (tgt := 61) rfl (by decide) (fun hc hf => ?_) (fun hc hf => ?_)
          · refine zB zlokG 1 (pc' := 60) (ls' := [(7, .ref (40 + 2 * j6)), (6, .ref (40 + 2 * j2)), (0, .ref 0), (1, .int a0), (2, .int a1), (3, .int a2), (4, .int a3), (5, .int a4)]) (st' := [.int (-12)]) (s' := x9.2) rfl ?_
            exact zRetI hf rfl rfl
          · refine zB zlokG 3 (pc' := 66) (ls' := [(7, .ref (40 + 2 * j6)), (6, .ref (40 + 2 * j2)), (0, .ref 0), (1, .int a0), (2, .int a1), (3, .int a2), (4, .int a3), (5, .int a4)]) (st' := [.int a4, .int a1, .ref (40 + 2 * j2)]) (s' := x9.2) rfl ?_
            refine zXI hf (As := [.int a1, .int a4]) (rest := []) 2 zmk_sh_hasPlaces zok_sh_hasPlaces zl_363 rfl (zsh_at hj2).1 rfl rfl rfl rfl rfl rfl (fun _ e => k_sh_hasPlaces _ _ _ (zsh_at hj2) _ _ e) (fun x10 hf => ?_)
            refine zIeq hf (tgt := 84) rfl (by decide) (fun hc hf => ?_) (fun hc hf => ?_)
            · refine zB zlokG 1 (pc' := 86) (ls' := [(7, .ref (40 + 2 * j6)), (6, .ref (40 + 2 * j2)), (0, .ref 0), (1, .int a0), (2, .int a1), (3, .int a2), (4, .int a3), (5, .int a4)]) (st' := [.int (-13)]) (s' := x10.2) rfl ?_
              exact zRetI hf rfl rfl
            · refine zB zlokG 3 (pc' := 78) (ls' := [(7, .ref (40 + 2 * j6)), (6, .ref (40 + 2 * j2)), (0, .ref 0), (1, .int a0), (2, .int a1), (3, .int a2), (4, .int a3), (5, .int a4)]) (st' := [.int a4, .int a3, .ref (40 + 2 * j6)]) (s' := x10.2) rfl ?_
              refine zXI hf (As := [.int a3, .int a4]) (rest := []) 2 zmk_sh_hasPlaces zok_sh_hasPlaces zl_363 rfl (zsh_at hj6).1 rfl rfl rfl rfl rfl rfl (fun _ e => k_sh_hasPlaces _ _ _ (zsh_at hj6) _ _ e) (fun x11 hf => ?_)
              refine zIne hf (tgt := 87) rfl (by decide) (fun hc hf => ?_) (fun hc hf => ?_)
              · refine zB zlokG 1 (pc' := 86) (ls' := [(7, .ref (40 + 2 * j6)), (6, .ref (40 + 2 * j2)), (0, .ref 0), (1, .int a0), (2, .int a1), (3, .int a2), (4, .int a3), (5, .int a4)]) (st' := [.int (-13)]) (s' := x11.2) rfl ?_
                exact zRetI hf rfl rfl
              · refine zB zlokG 1 (pc' := 89) (ls' := [(7, .ref (40 + 2 * j6)), (6, .ref (40 + 2 * j2)), (0, .ref 0), (1, .int a0), (2, .int a1), (3, .int a2), (4, .int a3), (5, .int a4)]) (st' := [.ref (40 + 2 * j2)]) (s' := x11.2) rfl ?_
                refine zGetR (j := 3) rfl rfl (zsh_at hj2).1 rfl ?_
                refine zB zlokG 2 (pc' := 95) (ls' := [(7, .ref (40 + 2 * j6)), (6, .ref (40 + 2 * j2)), (0, .ref 0), (1, .int a0), (2, .int a1), (3, .int a2), (4, .int a3), (5, .int a4)]) (st' := [.ref (40 + 2 * j6), .int a1, .ref ((40 + 2 * j2) + 1)]) (s' := x11.2) rfl ?_
                refine zGetR (j := 3) rfl rfl (zsh_at hj6).1 rfl ?_
                refine zB zlokG 2 (pc' := 102) (ls' := [(7, .ref (40 + 2 * j6)), (6, .ref (40 + 2 * j2)), (0, .ref 0), (1, .int a0), (2, .int a1), (3, .int a2), (4, .int a3), (5, .int a4)]) (st' := [.int a4, .int a3, .ref ((40 + 2 * j6) + 1), .int a1, .ref ((40 + 2 * j2) + 1)]) (s' := x11.2) rfl ?_
                refine zCpyL hf zl_883 rfl rfl rfl (zsh_at hj2).2 (zsh_at hj6).2 (fun s12 hf => ?_)
                refine zB zlokG 1 (pc' := 107) (ls' := [(7, .ref (40 + 2 * j6)), (6, .ref (40 + 2 * j2)), (0, .ref 0), (1, .int a0), (2, .int a1), (3, .int a2), (4, .int a3), (5, .int a4)]) (st' := [.int a4]) (s' := s12) rfl ?_
                exact zRetI hf rfl rfl
        · refine zB zlokG 1 (pc' := 44) (ls' := [(7, .ref (40 + 2 * j6)), (6, .ref (40 + 2 * j2)), (0, .ref 0), (1, .int a0), (2, .int a1), (3, .int a2), (4, .int a3), (5, .int a4)]) (st' := [.int (-11)]) (s' := x8.2) rfl ?_
          exact zRetI hf rfl rfl
      · refine zB zlokG 1 (pc' := 44) (ls' := [(7, .ref (40 + 2 * j6)), (6, .ref (40 + 2 * j2)), (0, .ref 0), (1, .int a0), (2, .int a1), (3, .int a2), (4, .int a3), (5, .int a4)]) (st' := [.int (-11)]) (s' := x7.2) rfl ?_
        exact zRetI hf rfl rfl
    · refine zB zlokG 2 (pc' := 16) (ls' := [(7, .null), (6, .ref (40 + 2 * j2)), (0, .ref 0), (1, .int a0), (2, .int a1), (3, .int a2), (4, .int a3), (5, .int a4)]) (st' := [.ref (40 + 2 * j2)]) (s' := s) rfl ?_
      refine zNull rfl ?_
      refine zB zlokG 1 (pc' := 21) (ls' := [(7, .null), (6, .ref (40 + 2 * j2)), (0, .ref 0), (1, .int a0), (2, .int a1), (3, .int a2), (4, .int a3), (5, .int a4)]) (st' := [.null]) (s' := s) rfl ?_
      refine zNonN rfl ?_
      refine zB zlokG 1 (pc' := 25) (ls' := [(7, .null), (6, .ref (40 + 2 * j2)), (0, .ref 0), (1, .int a0), (2, .int a1), (3, .int a2), (4, .int a3), (5, .int a4)]) (st' := [.int (-1)]) (s' := s) rfl ?_
      exact zRetI hf rfl rfl
  · refine zB zlokG 3 (pc' := 9) (ls' := [(6, .null), (0, .ref 0), (1, .int a0), (2, .int a1), (3, .int a2), (4, .int a3), (5, .int a4)]) (st' := [.int a2, .ref 0]) (s' := s) rfl ?_
    refine zShelfAt hf zl_347 rfl rfl (by rfl) (fun j4 hj4 hf => ?_) (fun hf => ?_)
    · refine zB zlokG 2 (pc' := 16) (ls' := [(7, .ref (40 + 2 * j4)), (6, .null), (0, .ref 0), (1, .int a0), (2, .int a1), (3, .int a2), (4, .int a3), (5, .int a4)]) (st' := [.null]) (s' := s) rfl ?_
      refine zNullN (tgt := 24) rfl (by decide) ?_
      refine zB zlokG 1 (pc' := 25) (ls' := [(7, .ref (40 + 2 * j4)), (6, .null), (0, .ref 0), (1, .int a0), (2, .int a1), (3, .int a2), (4, .int a3), (5, .int a4)]) (st' := [.int (-1)]) (s' := s) rfl ?_
      exact zRetI hf rfl rfl
    · refine zB zlokG 2 (pc' := 16) (ls' := [(7, .null), (6, .null), (0, .ref 0), (1, .int a0), (2, .int a1), (3, .int a2), (4, .int a3), (5, .int a4)]) (st' := [.null]) (s' := s) rfl ?_
      refine zNullN (tgt := 24) rfl (by decide) ?_
      refine zB zlokG 1 (pc' := 25) (ls' := [(7, .null), (6, .null), (0, .ref 0), (1, .int a0), (2, .int a1), (3, .int a2), (4, .int a3), (5, .int a4)]) (st' := [.int (-1)]) (s' := s) rfl ?_
      exact zRetI hf rfl rfl
set_option maxRecDepth 20000 in
theorem k_g_taken (a0 : Int32) (a1 : Int32) (s : zSt) (r : Int32 × zSt) (hf : f_g_taken a0 a1 s = some r) : zKp zm_g_taken ΛG 4 [.ref 0, .int a0, .int a1] s (some (.int r.1), r.2) := by
  refine zKp_of zmk_g_taken rfl ?_
  show zWA _ _ _ _ _ [(0, .ref 0), (1, .int a0), (2, .int a1)] _ _
  refine zB zlokG 2 (pc' := 2) (ls' := [(0, .ref 0), (1, .int a0), (2, .int a1)]) (st' := [.int a0, .ref 0]) (s' := s) rfl ?_
  refine zShelfAt hf zl_347 rfl rfl (by rfl) (fun j2 hj2 hf => ?_) (fun hf => ?_)
  · refine zB zlokG 2 (pc' := 7) (ls' := [(3, .ref (40 + 2 * j2)), (0, .ref 0), (1, .int a0), (2, .int a1)]) (st' := [.ref (40 + 2 * j2)]) (s' := s) rfl ?_
    refine zNull rfl ?_
    refine zB zlokG 3 (pc' := 14) (ls' := [(3, .ref (40 + 2 * j2)), (0, .ref 0), (1, .int a0), (2, .int a1)]) (st' := [.int 7, .int 0, .int a1]) (s' := s) rfl ?_
    refine zSI hf (As := [.int a1, .int 0, .int 7]) (rest := []) 3 zmk_g_isWithin zok_g_isWithin zl_340 rfl rfl rfl rfl rfl (fun _ e => k_g_isWithin _ _ _ _ _ e) (fun x3 hf => ?_)
    refine zIne hf (tgt := 22) rfl (by decide) (fun hc hf => ?_) (fun hc hf => ?_)
    · refine zB zlokG 1 (pc' := 21) (ls' := [(3, .ref (40 + 2 * j2)), (0, .ref 0), (1, .int a0), (2, .int a1)]) (st' := [.int (-1)]) (s' := x3.2) rfl ?_
      exact zRetI hf rfl rfl
    · refine zB zlokG 1 (pc' := 23) (ls' := [(3, .ref (40 + 2 * j2)), (0, .ref 0), (1, .int a0), (2, .int a1)]) (st' := [.ref (40 + 2 * j2)]) (s' := x3.2) rfl ?_
      refine zXI hf (As := []) (rest := []) 0 zmk_sh_isEmpty zok_sh_isEmpty zl_351 rfl (zsh_at hj2).1 rfl rfl rfl rfl rfl rfl (fun _ e => k_sh_isEmpty _ (zsh_at hj2) _ _ e) (fun x4 hf => ?_)
      refine zIeq hf (tgt := 32) rfl (by decide) (fun hc hf => ?_) (fun hc hf => ?_)
      · refine zB zlokG 3 (pc' := 37) (ls' := [(3, .ref (40 + 2 * j2)), (0, .ref 0), (1, .int a0), (2, .int a1)]) (st' := [.ref (40 + 2 * j2), .ref 36]) (s' := x4.2) rfl ?_
        refine zGetI (j := 0) rfl rfl (zsh_at hj2).1 rfl ?_
        refine zXI hf (As := [.int (x4.2.1 (40 + 2 * j2) 0)]) (rest := []) 1 zmk_gl_has zok_gl_has zl_844 rfl rfl rfl rfl rfl rfl rfl rfl (fun _ e => k_gl_has _ _ _ e) (fun x5 hf => ?_)
        refine zIeq hf (tgt := 61) rfl (by decide) (fun hc hf => ?_) (fun hc hf => ?_)
        · refine zB zlokG 1 (pc' := 63) (ls' := [(3, .ref (40 + 2 * j2)), (0, .ref 0), (1, .int a0), (2, .int a1)]) (st' := [.int (-12)]) (s' := x5.2) rfl ?_
          exact zRetI hf rfl rfl
        · refine zB zlokG 3 (pc' := 51) (ls' := [(3, .ref (40 + 2 * j2)), (0, .ref 0), (1, .int a0), (2, .int a1)]) (st' := [.ref (40 + 2 * j2), .ref 36]) (s' := x5.2) rfl ?_
          refine zGetI (j := 0) rfl rfl (zsh_at hj2).1 rfl ?_
          refine zB zlokG 1 (pc' := 55) (ls' := [(3, .ref (40 + 2 * j2)), (0, .ref 0), (1, .int a0), (2, .int a1)]) (st' := [.int a1, .int (x5.2.1 (40 + 2 * j2) 0), .ref 36]) (s' := x5.2) rfl ?_
          refine zXI hf (As := [.int (x5.2.1 (40 + 2 * j2) 0), .int a1]) (rest := []) 2 zmk_gl_isUnder zok_gl_isUnder zl_888 rfl rfl rfl rfl rfl rfl rfl rfl (fun _ e => k_gl_isUnder _ _ _ _ e) (fun x6 hf => ?_)
          refine zIne hf (tgt := 64) rfl (by decide) (fun hc hf => ?_) (fun hc hf => ?_)
          · refine zB zlokG 1 (pc' := 63) (ls' := [(3, .ref (40 + 2 * j2)), (0, .ref 0), (1, .int a0), (2, .int a1)]) (st' := [.int (-12)]) (s' := x6.2) rfl ?_
            exact zRetI hf rfl rfl
          · refine zB zlokG 4 (pc' := 72) (ls' := [(3, .ref (40 + 2 * j2)), (0, .ref 0), (1, .int a0), (2, .int a1)]) (st' := [.ref (40 + 2 * j2), .ref 37]) (s' := x6.2) rfl ?_
            refine zGetI (j := 0) rfl rfl (zsh_at hj2).1 rfl ?_
            refine zIald hf rfl (by rfl) (fun x7 hf => ?_)
            exact zRetI hf rfl rfl
      · refine zB zlokG 1 (pc' := 31) (ls' := [(3, .ref (40 + 2 * j2)), (0, .ref 0), (1, .int a0), (2, .int a1)]) (st' := [.int (-11)]) (s' := x4.2) rfl ?_
        exact zRetI hf rfl rfl
  · refine zB zlokG 2 (pc' := 7) (ls' := [(3, .null), (0, .ref 0), (1, .int a0), (2, .int a1)]) (st' := [.null]) (s' := s) rfl ?_
    refine zNullN (tgt := 20) rfl (by decide) ?_
    refine zB zlokG 1 (pc' := 21) (ls' := [(3, .null), (0, .ref 0), (1, .int a0), (2, .int a1)]) (st' := [.int (-1)]) (s' := s) rfl ?_
    exact zRetI hf rfl rfl
set_option maxRecDepth 20000 in
theorem k_g_count (a0 : Int32) (s : zSt) (r : Int32 × zSt) (hf : f_g_count a0 s = some r) : zKp zm_g_count ΛG 0 [.ref 0, .int a0] s (some (.int r.1), r.2) := by
  refine zKp_of zmk_g_count rfl ?_
  show zWA _ _ _ _ _ [(0, .ref 0), (1, .int a0)] _ _
  refine zB zlokG 1 (pc' := 1) (ls' := [(0, .ref 0), (1, .int a0)]) (st' := [.int a0]) (s' := s) rfl ?_
  refine zIte hf (fun hc hf => ?_) (fun hc hf => ?_)
  · refine zTabOut (tgt := 76) hc rfl (by decide) ?_
    refine zB zlokG 1 (pc' := 77) (ls' := [(0, .ref 0), (1, .int a0)]) (st' := [.int (-1)]) (s' := s) rfl ?_
    exact zRetI hf rfl rfl
  · refine zIte hf (fun hc hf => ?_) (fun hc hf => ?_)
    · refine zTabIn (tgt := 36) 0 hc rfl (by decide) (by decide) rfl (by decide) ?_
      refine zB zlokG 3 (pc' := 43) (ls' := [(0, .ref 0), (1, .int a0)]) (st' := [.int (s.1 6 3)]) (s' := s) rfl ?_
      exact zRetI hf rfl rfl
    · refine zIte hf (fun hc hf => ?_) (fun hc hf => ?_)
      · refine zTabIn (tgt := 44) 1 hc rfl (by decide) (by decide) rfl (by decide) ?_
        refine zB zlokG 3 (pc' := 51) (ls' := [(0, .ref 0), (1, .int a0)]) (st' := [.int (s.1 13 1)]) (s' := s) rfl ?_
        exact zRetI hf rfl rfl
      · refine zIte hf (fun hc hf => ?_) (fun hc hf => ?_)
        · refine zTabIn (tgt := 52) 2 hc rfl (by decide) (by decide) rfl (by decide) ?_
          refine zB zlokG 3 (pc' := 59) (ls' := [(0, .ref 0), (1, .int a0)]) (st' := [.int (s.1 1 4)]) (s' := s) rfl ?_
          exact zRetI hf rfl rfl
        · refine zIte hf (fun hc hf => ?_) (fun hc hf => ?_)
          · refine zTabIn (tgt := 60) 3 hc rfl (by decide) (by decide) rfl (by decide) ?_
            refine zB zlokG 3 (pc' := 67) (ls' := [(0, .ref 0), (1, .int a0)]) (st' := [.int (s.1 36 1)]) (s' := s) rfl ?_
            exact zRetI hf rfl rfl
          · refine zIte hf (fun hc hf => ?_) (fun hc hf => ?_)
            · refine zTabIn (tgt := 68) 4 hc rfl (by decide) (by decide) rfl (by decide) ?_
              refine zB zlokG 3 (pc' := 75) (ls' := [(0, .ref 0), (1, .int a0)]) (st' := [.int (s.1 36 3)]) (s' := s) rfl ?_
              exact zRetI hf rfl rfl
            · cases hf
set_option maxRecDepth 20000 in
theorem k_m_within (a0 : Int64) (a1 : Int64) (a2 : Int64) (s : zSt) (r : Int32 × zSt) (hf : f_m_within a0 a1 a2 s = some r) : zKp zm_m_within ΛM 0 [.long a0, .long a1, .long a2] s (some (.int r.1), r.2) := by
  refine zKp_of zmk_m_within rfl ?_
  show zWA _ _ _ _ _ [(0, .long a0), (2, .long a1), (4, .long a2)] _ _
  refine zB zlokM 3 (pc' := 3) (ls' := [(0, .long a0), (2, .long a1), (4, .long a2)]) (st' := [.int (lg_cmp a0 a1)]) (s' := s) rfl ?_
  refine zIlt hf (tgt := 17) rfl (by decide) (fun hc hf => ?_) (fun hc hf => ?_)
  · refine zB zlokM 1 (pc' := 18) (ls' := [(0, .long a0), (2, .long a1), (4, .long a2)]) (st' := [.int 0]) (s' := s) rfl ?_
    exact zRetZc hf (by decide) rfl rfl
  · refine zB zlokM 3 (pc' := 10) (ls' := [(0, .long a0), (2, .long a1), (4, .long a2)]) (st' := [.int (lg_cmp a0 a2)]) (s' := s) rfl ?_
    refine zIgt hf (tgt := 17) rfl (by decide) (fun hc hf => ?_) (fun hc hf => ?_)
    · refine zB zlokM 1 (pc' := 18) (ls' := [(0, .long a0), (2, .long a1), (4, .long a2)]) (st' := [.int 0]) (s' := s) rfl ?_
      exact zRetZc hf (by decide) rfl rfl
    · refine zB zlokM 1 (pc' := 14) (ls' := [(0, .long a0), (2, .long a1), (4, .long a2)]) (st' := [.int 1]) (s' := s) rfl ?_
      refine zGoto (tgt := 18) rfl (by decide) ?_
      exact zRetZc hf (by decide) rfl rfl
set_option maxRecDepth 20000 in
theorem c_f_m_becomes_97 {r : Int32 × zSt} : ∀ (v1 : Int32) (v2 : Int32) (v3 : Int32) (s : zSt), f_m_becomes_97 v1 v2 v3 s = some r → zWA zm_m_becomes ΛM 0 (some (.int r.1), r.2) 97 [(0, .ref 0), (1, .int v1), (2, .int v2), (3, .int v3)] [] s := by
  intro v1 v2 v3 s hf
  refine zB zlokM 5 (pc' := 106) (ls' := [(0, .ref 0), (1, .int v1), (2, .int v2), (3, .int v3)]) (st' := [.int v1, .int (s.1 0 5), .ref 2]) (s' := s) rfl ?_
  refine zIast hf rfl (by rfl) (fun s8 hf => ?_)
  refine zB zlokM 5 (pc' := 116) (ls' := [(0, .ref 0), (1, .int v1), (2, .int v2), (3, .int v3)]) (st' := [.int v3, .int (s8.1 0 5), .ref 3]) (s' := s8) rfl ?_
  refine zIast hf rfl (by rfl) (fun s9 hf => ?_)
  refine zB zlokM 5 (pc' := 126) (ls' := [(0, .ref 0), (1, .int v1), (2, .int v2), (3, .int v3)]) (st' := [.int v2, .int (s9.1 0 5), .ref 4]) (s' := s9) rfl ?_
  refine zIast hf rfl (by rfl) (fun s10 hf => ?_)
  refine zB zlokM 14 (pc' := 151) (ls' := [(0, .ref 0), (1, .int v1), (2, .int v2), (3, .int v3)]) (st' := [.int v2, .int v1, .ref 1]) (s' := (zw (zw s10 0 5 ((s10.1 0 5) + 1)) 0 4 ((zw s10 0 5 ((s10.1 0 5) + 1)).1 0 5))) rfl ?_
  refine zIast hf rfl (by rfl) (fun s11 hf => ?_)
  refine zB zlokM 1 (pc' := 153) (ls' := [(0, .ref 0), (1, .int v1), (2, .int v2), (3, .int v3)]) (st' := [.int v3]) (s' := s11) rfl ?_
  exact zRetI hf rfl rfl
set_option maxRecDepth 20000 in
theorem c_f_m_becomes_26 {r : Int32 × zSt} : ∀ (n : Nat) (v1 : Int32) (v2 : Int32) (v3 : Int32) (v4 : Int32) (s : zSt), f_m_becomes_26 n v1 v2 v3 v4 s = some r → zWA zm_m_becomes ΛM 0 (some (.int r.1), r.2) 26 [(0, .ref 0), (1, .int v1), (2, .int v2), (3, .int v3), (4, .int v4)] [] s := by
  intro n
  induction n with
  | zero => intro v1 v2 v3 v4 s hf; cases hf
  | succ n ih =>
    intro v1 v2 v3 v4 s hf
    refine zB zlokM 2 (pc' := 30) (ls' := [(0, .ref 0), (1, .int v1), (2, .int v2), (3, .int v3), (4, .int v4)]) (st' := [.int 40, .int v4]) (s' := s) rfl ?_
    refine zCge hf (tgt := 87) rfl (by decide) (fun hc hf => ?_) (fun hc hf => ?_)
    · refine zB zlokM 6 (pc' := 97) (ls' := [(0, .ref 0), (1, .int v1), (2, .int v2), (3, .int v3), (4, .int v4)]) (st' := []) (s' := (zw s 0 5 ((s.1 0 5) - 1))) rfl ?_
      refine zLoc [0, 1, 2, 3] rfl ?_
      exact c_f_m_becomes_97 _ _ _ _ hf
    · refine zB zlokM 8 (pc' := 47) (ls' := [(0, .ref 0), (1, .int v1), (2, .int v2), (3, .int v3), (4, .int v4)]) (st' := [.int v4, .ref 2, .int (v4 - 1), .ref 2]) (s' := s) rfl ?_
      refine zIald hf rfl (by rfl) (fun x2 hf => ?_)
      refine zIast hf rfl (by rfl) (fun s3 hf => ?_)
      refine zB zlokM 8 (pc' := 63) (ls' := [(0, .ref 0), (1, .int v1), (2, .int v2), (3, .int v3), (4, .int v4)]) (st' := [.int v4, .ref 3, .int (v4 - 1), .ref 3]) (s' := s3) rfl ?_
      refine zIald hf rfl (by rfl) (fun x4 hf => ?_)
      refine zIast hf rfl (by rfl) (fun s5 hf => ?_)
      refine zB zlokM 8 (pc' := 79) (ls' := [(0, .ref 0), (1, .int v1), (2, .int v2), (3, .int v3), (4, .int v4)]) (st' := [.int v4, .ref 4, .int (v4 - 1), .ref 4]) (s' := s5) rfl ?_
      refine zIald hf rfl (by rfl) (fun x6 hf => ?_)
      refine zIast hf rfl (by rfl) (fun s7 hf => ?_)
      refine zB zlokM 1 (pc' := 84) (ls' := [(4, .int (v4 + 1)), (0, .ref 0), (1, .int v1), (2, .int v2), (3, .int v3)]) (st' := []) (s' := s7) rfl ?_
      refine zGoto (tgt := 26) rfl (by decide) ?_
      refine zLoc [1, 2, 3, 4, 0] rfl ?_
      exact ih _ _ _ _ _ hf
set_option maxRecDepth 20000 in
theorem k_m_becomes (a0 : Int32) (a1 : Int32) (s : zSt) (r : Int32 × zSt) (hf : f_m_becomes a0 a1 s = some r) : zKp zm_m_becomes ΛM 0 [.ref 0, .int a0, .int a1] s (some (.int r.1), r.2) := by
  refine zKp_of zmk_m_becomes rfl ?_
  show zWA _ _ _ _ _ [(0, .ref 0), (1, .int a0), (2, .int a1)] _ _
  refine zB zlokM 3 (pc' := 5) (ls' := [(0, .ref 0), (1, .int a0), (2, .int a1)]) (st' := [.int a0, .ref 1]) (s' := s) rfl ?_
  refine zIald hf rfl (by rfl) (fun x1 hf => ?_)
  refine zB zlokM 3 (pc' := 9) (ls' := [(3, .int x1), (0, .ref 0), (1, .int a0), (2, .int a1)]) (st' := [.int a1, .int x1]) (s' := s) rfl ?_
  refine zCne hf (tgt := 14) rfl (by decide) (fun hc hf => ?_) (fun hc hf => ?_)
  · refine zB zlokM 1 (pc' := 13) (ls' := [(3, .int x1), (0, .ref 0), (1, .int a0), (2, .int a1)]) (st' := [.int x1]) (s' := s) rfl ?_
    exact zRetI hf rfl rfl
  · refine zB zlokM 3 (pc' := 20) (ls' := [(3, .int x1), (0, .ref 0), (1, .int a0), (2, .int a1)]) (st' := [.int 40, .int (s.1 0 5)]) (s' := s) rfl ?_
    refine zCne hf (tgt := 97) rfl (by decide) (fun hc hf => ?_) (fun hc hf => ?_)
    · refine zB zlokM 2 (pc' := 26) (ls' := [(4, .int 1), (3, .int x1), (0, .ref 0), (1, .int a0), (2, .int a1)]) (st' := []) (s' := s) rfl ?_
      refine zLoc [2, 3, 4, 1, 0] rfl ?_
      exact c_f_m_becomes_26 zFu _ _ _ _ _ hf
    · refine zLoc [1, 2, 3, 0] rfl ?_
      exact c_f_m_becomes_97 _ _ _ _ hf
set_option maxRecDepth 20000 in
theorem k_m_undo (s : zSt) (r : Int32 × zSt) (hf : f_m_undo s = some r) : zKp zm_m_undo ΛM 0 [.ref 0] s (some (.int r.1), r.2) := by
  refine zKp_of zmk_m_undo rfl ?_
  show zWA _ _ _ _ _ [(0, .ref 0)] _ _
  refine zB zlokM 2 (pc' := 4) (ls' := [(0, .ref 0)]) (st' := [.int (s.1 0 5)]) (s' := s) rfl ?_
  refine zIne hf (tgt := 10) rfl (by decide) (fun hc hf => ?_) (fun hc hf => ?_)
  · refine zB zlokM 1 (pc' := 9) (ls' := [(0, .ref 0)]) (st' := [.int (-5)]) (s' := s) rfl ?_
    exact zRetI hf rfl rfl
  · refine zB zlokM 12 (pc' := 32) (ls' := [(0, .ref 0)]) (st' := [.int ((zw s 0 5 ((s.1 0 5) - 1)).1 0 5), .ref 2, .ref 1]) (s' := (zw s 0 5 ((s.1 0 5) - 1))) rfl ?_
    refine zIald hf rfl (by rfl) (fun x1 hf => ?_)
    refine zB zlokM 4 (pc' := 41) (ls' := [(0, .ref 0)]) (st' := [.int ((zw s 0 5 ((s.1 0 5) - 1)).1 0 5), .ref 3, .int x1, .ref 1]) (s' := (zw s 0 5 ((s.1 0 5) - 1))) rfl ?_
    refine zIald hf rfl (by rfl) (fun x2 hf => ?_)
    refine zIast hf rfl (by rfl) (fun s3 hf => ?_)
    refine zB zlokM 2 (pc' := 47) (ls' := [(0, .ref 0)]) (st' := [.int (s3.1 0 5)]) (s' := s3) rfl ?_
    exact zRetI hf rfl rfl
set_option maxRecDepth 20000 in
theorem k_m_redo (s : zSt) (r : Int32 × zSt) (hf : f_m_redo s = some r) : zKp zm_m_redo ΛM 0 [.ref 0] s (some (.int r.1), r.2) := by
  refine zKp_of zmk_m_redo rfl ?_
  show zWA _ _ _ _ _ [(0, .ref 0)] _ _
  refine zB zlokM 4 (pc' := 8) (ls' := [(0, .ref 0)]) (st' := [.int (s.1 0 4), .int (s.1 0 5)]) (s' := s) rfl ?_
  refine zCne hf (tgt := 14) rfl (by decide) (fun hc hf => ?_) (fun hc hf => ?_)
  · refine zB zlokM 1 (pc' := 13) (ls' := [(0, .ref 0)]) (st' := [.int (-5)]) (s' := s) rfl ?_
    exact zRetI hf rfl rfl
  · refine zB zlokM 6 (pc' := 26) (ls' := [(0, .ref 0)]) (st' := [.int (s.1 0 5), .ref 2, .ref 1]) (s' := s) rfl ?_
    refine zIald hf rfl (by rfl) (fun x1 hf => ?_)
    refine zB zlokM 4 (pc' := 35) (ls' := [(0, .ref 0)]) (st' := [.int (s.1 0 5), .ref 4, .int x1, .ref 1]) (s' := s) rfl ?_
    refine zIald hf rfl (by rfl) (fun x2 hf => ?_)
    refine zIast hf rfl (by rfl) (fun s3 hf => ?_)
    refine zB zlokM 11 (pc' := 56) (ls' := [(0, .ref 0)]) (st' := [.int (((zw s3 0 5 ((s3.1 0 5) + 1)).1 0 4) - ((zw s3 0 5 ((s3.1 0 5) + 1)).1 0 5))]) (s' := (zw s3 0 5 ((s3.1 0 5) + 1))) rfl ?_
    exact zRetI hf rfl rfl
set_option maxRecDepth 20000 in
theorem k_m_isQuarter (a0 : Int32) (s : zSt) (r : Int32 × zSt) (hf : f_m_isQuarter a0 s = some r) : zKp zm_m_isQuarter ΛM 1 [.int a0] s (some (.int r.1), r.2) := by
  refine zKp_of zmk_m_isQuarter rfl ?_
  show zWA _ _ _ _ _ [(0, .int a0)] _ _
  refine zB zlokM 4 (pc' := 6) (ls' := [(0, .int a0)]) (st' := [.long 31, .long 0, .long (a0 : Int32).toInt64]) (s' := s) rfl ?_
  refine zSI hf (As := [.long (a0 : Int32).toInt64, .long 0, .long 31]) (rest := []) 3 zmk_m_within zok_m_within zl_1072 rfl rfl rfl rfl rfl (fun _ e => k_m_within _ _ _ _ _ e) (fun x1 hf => ?_)
  exact zRetZb hf rfl rfl
