/-! contracts: m_undercut m_brings m_minutes m_addsOf m_share m_slate m_owesOf m_owes m_wiped m_allHeats m_image m_back m_isBody m_kindOf m_body m_above m_begins m_makesAs m_sharesAs -/
set_option maxRecDepth 20000 in
theorem c_f_m_undercut_140 {r : Int32 × zSt} (k72 : Int32 → Int32 → Int32 → Int32 → Int32 → Int32 → Int32 → zSt → Option (Int32 × zSt)) (hk72 : ∀ (v1 : Int32) (v2 : Int32) (v3 : Int32) (v4 : Int32) (v5 : Int32) (v6 : Int32) (v7 : Int32) (s : zSt), k72 v1 v2 v3 v4 v5 v6 v7 s = some r → zWA zm_m_undercut ΛM 1 (some (.int r.1), r.2) 72 [(1, .int v1), (2, .int v2), (3, .int v3), (4, .int v4), (5, .int v5), (6, .int v6), (7, .int v7)] [] s) : ∀ (v1 : Int32) (v2 : Int32) (v3 : Int32) (v4 : Int32) (v6 : Int32) (v7 : Int32) (v8 : Int32) (w0 : Int32) (s : zSt), f_m_undercut_140 k72 v1 v2 v3 v4 v6 v7 v8 w0 s = some r → zWA zm_m_undercut ΛM 1 (some (.int r.1), r.2) 140 [(1, .int v1), (2, .int v2), (3, .int v3), (4, .int v4), (6, .int v6), (7, .int v7), (8, .int v8)] [.int w0] s := by
  intro v1 v2 v3 v4 v6 v7 v8 w0 s hf
  refine zB zlokM 4 (pc' := 146) (ls' := [(5, .int w0), (1, .int v1), (2, .int v2), (3, .int v3), (4, .int v4), (6, .int v6), (7, .int v7), (8, .int v8)]) (st' := [.int (zrem v6 2)]) (s' := s) rfl ?_
  refine zIne hf (tgt := 154) rfl (by decide) (fun hc hf => ?_) (fun hc hf => ?_)
  · refine zB zlokM 1 (pc' := 151) (ls' := [(5, .int w0), (1, .int v1), (2, .int v2), (3, .int v3), (4, .int v4), (6, .int v6), (7, .int v7), (8, .int v8)]) (st' := [.int v4]) (s' := s) rfl ?_
    refine zGoto (tgt := 156) rfl (by decide) ?_
    refine zB zlokM 2 (pc' := 161) (ls' := [(6, .int (v6 + 1)), (4, .int v4), (5, .int w0), (1, .int v1), (2, .int v2), (3, .int v3), (7, .int v7), (8, .int v8)]) (st' := []) (s' := s) rfl ?_
    refine zGoto (tgt := 72) rfl (by decide) ?_
    refine zLoc [3, 4, 5, 1, 2, 0, 6] rfl ?_
    exact hk72 _ _ _ _ _ _ _ _ hf
  · refine zB zlokM 3 (pc' := 161) (ls' := [(6, .int (v6 + 1)), (4, .int v8), (5, .int w0), (1, .int v1), (2, .int v2), (3, .int v3), (7, .int v7), (8, .int v8)]) (st' := []) (s' := s) rfl ?_
    refine zGoto (tgt := 72) rfl (by decide) ?_
    refine zLoc [3, 4, 5, 1, 2, 0, 6] rfl ?_
    exact hk72 _ _ _ _ _ _ _ _ hf
set_option maxRecDepth 20000 in
theorem c_f_m_undercut_119 {r : Int32 × zSt} (k72 : Int32 → Int32 → Int32 → Int32 → Int32 → Int32 → Int32 → zSt → Option (Int32 × zSt)) (hk72 : ∀ (v1 : Int32) (v2 : Int32) (v3 : Int32) (v4 : Int32) (v5 : Int32) (v6 : Int32) (v7 : Int32) (s : zSt), k72 v1 v2 v3 v4 v5 v6 v7 s = some r → zWA zm_m_undercut ΛM 1 (some (.int r.1), r.2) 72 [(1, .int v1), (2, .int v2), (3, .int v3), (4, .int v4), (5, .int v5), (6, .int v6), (7, .int v7)] [] s) : ∀ (v1 : Int32) (v2 : Int32) (v3 : Int32) (v4 : Int32) (v5 : Int32) (v6 : Int32) (v8 : Int32) (w0 : Int32) (s : zSt), f_m_undercut_119 k72 v1 v2 v3 v4 v5 v6 v8 w0 s = some r → zWA zm_m_undercut ΛM 1 (some (.int r.1), r.2) 119 [(1, .int v1), (2, .int v2), (3, .int v3), (4, .int v4), (5, .int v5), (6, .int v6), (8, .int v8)] [.int w0] s := by
  intro v1 v2 v3 v4 v5 v6 v8 w0 s hf
  refine zB zlokM 2 (pc' := 123) (ls' := [(7, .int w0), (1, .int v1), (2, .int v2), (3, .int v3), (4, .int v4), (5, .int v5), (6, .int v6), (8, .int v8)]) (st' := [.int w0]) (s' := s) rfl ?_
  refine zIeq hf (tgt := 161) rfl (by decide) (fun hc hf => ?_) (fun hc hf => ?_)
  · refine zGoto (tgt := 72) rfl (by decide) ?_
    refine zLoc [1, 2, 3, 4, 5, 6, 0] rfl ?_
    exact hk72 _ _ _ _ _ _ _ _ hf
  · refine zB zlokM 3 (pc' := 130) (ls' := [(7, .int w0), (1, .int v1), (2, .int v2), (3, .int v3), (4, .int v4), (5, .int v5), (6, .int v6), (8, .int v8)]) (st' := [.int (zrem v6 2)]) (s' := s) rfl ?_
    refine zIne hf (tgt := 138) rfl (by decide) (fun hc hf => ?_) (fun hc hf => ?_)
    · refine zB zlokM 1 (pc' := 135) (ls' := [(7, .int w0), (1, .int v1), (2, .int v2), (3, .int v3), (4, .int v4), (5, .int v5), (6, .int v6), (8, .int v8)]) (st' := [.int v8]) (s' := s) rfl ?_
      refine zGoto (tgt := 140) rfl (by decide) ?_
      refine zLoc [1, 2, 3, 4, 6, 0, 7] rfl ?_
      exact c_f_m_undercut_140 _ hk72 _ _ _ _ _ _ _ _ _ hf
    · refine zB zlokM 1 (pc' := 140) (ls' := [(7, .int w0), (1, .int v1), (2, .int v2), (3, .int v3), (4, .int v4), (5, .int v5), (6, .int v6), (8, .int v8)]) (st' := [.int v5]) (s' := s) rfl ?_
      refine zLoc [1, 2, 3, 4, 6, 0, 7] rfl ?_
      exact c_f_m_undercut_140 _ hk72 _ _ _ _ _ _ _ _ _ hf
set_option maxRecDepth 20000 in
theorem c_f_m_undercut_111 {r : Int32 × zSt} (k72 : Int32 → Int32 → Int32 → Int32 → Int32 → Int32 → Int32 → zSt → Option (Int32 × zSt)) (hk72 : ∀ (v1 : Int32) (v2 : Int32) (v3 : Int32) (v4 : Int32) (v5 : Int32) (v6 : Int32) (v7 : Int32) (s : zSt), k72 v1 v2 v3 v4 v5 v6 v7 s = some r → zWA zm_m_undercut ΛM 1 (some (.int r.1), r.2) 72 [(1, .int v1), (2, .int v2), (3, .int v3), (4, .int v4), (5, .int v5), (6, .int v6), (7, .int v7)] [] s) : ∀ (v1 : Int32) (v2 : Int32) (v3 : Int32) (v4 : Int32) (v5 : Int32) (v6 : Int32) (v8 : Int32) (w0 : Int32) (w1 : Int32) (s : zSt), f_m_undercut_111 k72 v1 v2 v3 v4 v5 v6 v8 w0 w1 s = some r → zWA zm_m_undercut ΛM 1 (some (.int r.1), r.2) 111 [(1, .int v1), (2, .int v2), (3, .int v3), (4, .int v4), (5, .int v5), (6, .int v6), (8, .int v8)] [.int w0, .int w1] s := by
  intro v1 v2 v3 v4 v5 v6 v8 w0 w1 s hf
  refine zClt hf (tgt := 118) rfl (by decide) (fun hc hf => ?_) (fun hc hf => ?_)
  · refine zB zlokM 1 (pc' := 119) (ls' := [(1, .int v1), (2, .int v2), (3, .int v3), (4, .int v4), (5, .int v5), (6, .int v6), (8, .int v8)]) (st' := [.int 0]) (s' := s) rfl ?_
    refine zLoc [0, 1, 2, 3, 4, 5, 6] rfl ?_
    exact c_f_m_undercut_119 _ hk72 _ _ _ _ _ _ _ _ _ hf
  · refine zB zlokM 1 (pc' := 115) (ls' := [(1, .int v1), (2, .int v2), (3, .int v3), (4, .int v4), (5, .int v5), (6, .int v6), (8, .int v8)]) (st' := [.int 1]) (s' := s) rfl ?_
    refine zGoto (tgt := 119) rfl (by decide) ?_
    refine zLoc [0, 1, 2, 3, 4, 5, 6] rfl ?_
    exact c_f_m_undercut_119 _ hk72 _ _ _ _ _ _ _ _ _ hf
set_option maxRecDepth 20000 in
theorem c_f_m_undercut_95 {r : Int32 × zSt} (k72 : Int32 → Int32 → Int32 → Int32 → Int32 → Int32 → Int32 → zSt → Option (Int32 × zSt)) (hk72 : ∀ (v1 : Int32) (v2 : Int32) (v3 : Int32) (v4 : Int32) (v5 : Int32) (v6 : Int32) (v7 : Int32) (s : zSt), k72 v1 v2 v3 v4 v5 v6 v7 s = some r → zWA zm_m_undercut ΛM 1 (some (.int r.1), r.2) 72 [(1, .int v1), (2, .int v2), (3, .int v3), (4, .int v4), (5, .int v5), (6, .int v6), (7, .int v7)] [] s) : ∀ (v1 : Int32) (v2 : Int32) (v3 : Int32) (v4 : Int32) (v5 : Int32) (v6 : Int32) (w0 : Int32) (s : zSt), f_m_undercut_95 k72 v1 v2 v3 v4 v5 v6 w0 s = some r → zWA zm_m_undercut ΛM 1 (some (.int r.1), r.2) 95 [(1, .int v1), (2, .int v2), (3, .int v3), (4, .int v4), (5, .int v5), (6, .int v6)] [.int w0] s := by
  intro v1 v2 v3 v4 v5 v6 w0 s hf
  refine zB zlokM 5 (pc' := 103) (ls' := [(8, .int w0), (1, .int v1), (2, .int v2), (3, .int v3), (4, .int v4), (5, .int v5), (6, .int v6)]) (st' := [.int (zrem v6 2), .int w0]) (s' := s) rfl ?_
  refine zIne hf (tgt := 110) rfl (by decide) (fun hc hf => ?_) (fun hc hf => ?_)
  · refine zB zlokM 1 (pc' := 107) (ls' := [(8, .int w0), (1, .int v1), (2, .int v2), (3, .int v3), (4, .int v4), (5, .int v5), (6, .int v6)]) (st' := [.int v1, .int w0]) (s' := s) rfl ?_
    refine zGoto (tgt := 111) rfl (by decide) ?_
    refine zLoc [1, 2, 3, 4, 5, 6, 0] rfl ?_
    exact c_f_m_undercut_111 _ hk72 _ _ _ _ _ _ _ _ _ _ hf
  · refine zB zlokM 1 (pc' := 111) (ls' := [(8, .int w0), (1, .int v1), (2, .int v2), (3, .int v3), (4, .int v4), (5, .int v5), (6, .int v6)]) (st' := [.int v3, .int w0]) (s' := s) rfl ?_
    refine zLoc [1, 2, 3, 4, 5, 6, 0] rfl ?_
    exact c_f_m_undercut_111 _ hk72 _ _ _ _ _ _ _ _ _ _ hf
set_option maxRecDepth 20000 in
theorem c_f_m_undercut_72 {r : Int32 × zSt} : ∀ (n : Nat) (v1 : Int32) (v2 : Int32) (v3 : Int32) (v4 : Int32) (v5 : Int32) (v6 : Int32) (v7 : Int32) (s : zSt), f_m_undercut_72 n v1 v2 v3 v4 v5 v6 v7 s = some r → zWA zm_m_undercut ΛM 1 (some (.int r.1), r.2) 72 [(1, .int v1), (2, .int v2), (3, .int v3), (4, .int v4), (5, .int v5), (6, .int v6), (7, .int v7)] [] s := by
  intro n
  induction n with
  | zero => intro v1 v2 v3 v4 v5 v6 v7 s hf; cases hf
  | succ n ih =>
    intro v1 v2 v3 v4 v5 v6 v7 s hf
    refine zB zlokM 1 (pc' := 74) (ls' := [(1, .int v1), (2, .int v2), (3, .int v3), (4, .int v4), (5, .int v5), (6, .int v6), (7, .int v7)]) (st' := [.int v7]) (s' := s) rfl ?_
    refine zIeq hf (tgt := 164) rfl (by decide) (fun hc hf => ?_) (fun hc hf => ?_)
    · refine zB zlokM 1 (pc' := 165) (ls' := [(1, .int v1), (2, .int v2), (3, .int v3), (4, .int v4), (5, .int v5), (6, .int v6), (7, .int v7)]) (st' := [.int v2]) (s' := s) rfl ?_
      refine zIne hf (tgt := 173) rfl (by decide) (fun hc hf => ?_) (fun hc hf => ?_)
      · refine zB zlokM 1 (pc' := 170) (ls' := [(1, .int v1), (2, .int v2), (3, .int v3), (4, .int v4), (5, .int v5), (6, .int v6), (7, .int v7)]) (st' := [.int v6]) (s' := s) rfl ?_
        refine zGoto (tgt := 185) rfl (by decide) ?_
        exact zRetI hf rfl rfl
      · refine zB zlokM 2 (pc' := 175) (ls' := [(1, .int v1), (2, .int v2), (3, .int v3), (4, .int v4), (5, .int v5), (6, .int v6), (7, .int v7)]) (st' := [.int 1, .int v2]) (s' := s) rfl ?_
        refine zCne hf (tgt := 183) rfl (by decide) (fun hc hf => ?_) (fun hc hf => ?_)
        · refine zB zlokM 1 (pc' := 180) (ls' := [(1, .int v1), (2, .int v2), (3, .int v3), (4, .int v4), (5, .int v5), (6, .int v6), (7, .int v7)]) (st' := [.int v4]) (s' := s) rfl ?_
          refine zGoto (tgt := 185) rfl (by decide) ?_
          exact zRetI hf rfl rfl
        · refine zB zlokM 1 (pc' := 185) (ls' := [(1, .int v1), (2, .int v2), (3, .int v3), (4, .int v4), (5, .int v5), (6, .int v6), (7, .int v7)]) (st' := [.int v5]) (s' := s) rfl ?_
          exact zRetI hf rfl rfl
    · refine zB zlokM 3 (pc' := 81) (ls' := [(1, .int v1), (2, .int v2), (3, .int v3), (4, .int v4), (5, .int v5), (6, .int v6), (7, .int v7)]) (st' := [.int (zrem v6 2)]) (s' := s) rfl ?_
      refine zIne hf (tgt := 91) rfl (by decide) (fun hc hf => ?_) (fun hc hf => ?_)
      · refine zB zlokM 3 (pc' := 88) (ls' := [(1, .int v1), (2, .int v2), (3, .int v3), (4, .int v4), (5, .int v5), (6, .int v6), (7, .int v7)]) (st' := [.int (v4 - 1)]) (s' := s) rfl ?_
        refine zGoto (tgt := 95) rfl (by decide) ?_
        refine zLoc [0, 1, 2, 3, 4, 5] rfl ?_
        exact c_f_m_undercut_95 _ ih _ _ _ _ _ _ _ _ hf
      · refine zB zlokM 3 (pc' := 95) (ls' := [(1, .int v1), (2, .int v2), (3, .int v3), (4, .int v4), (5, .int v5), (6, .int v6), (7, .int v7)]) (st' := [.int (v5 - 1)]) (s' := s) rfl ?_
        refine zLoc [0, 1, 2, 3, 4, 5] rfl ?_
        exact c_f_m_undercut_95 _ ih _ _ _ _ _ _ _ _ hf
set_option maxRecDepth 20000 in
theorem k_m_undercut (a0 : Int32) (a1 : Int32) (s : zSt) (r : Int32 × zSt) (hf : f_m_undercut a0 a1 s = some r) : zKp zm_m_undercut ΛM 1 [.ref 0, .int a0, .int a1] s (some (.int r.1), r.2) := by
  refine zKp_of zmk_m_undercut rfl ?_
  show zWA _ _ _ _ _ [(0, .ref 0), (1, .int a0), (2, .int a1)] _ _
  refine zB zlokM 4 (pc' := 6) (ls' := [(0, .ref 0), (1, .int a0), (2, .int a1)]) (st' := [.long 50, .long 0, .long (a0 : Int32).toInt64]) (s' := s) rfl ?_
  refine zSI hf (As := [.long (a0 : Int32).toInt64, .long 0, .long 50]) (rest := []) 3 zmk_m_within zok_m_within zl_1072 rfl rfl rfl rfl rfl (fun _ e => k_m_within _ _ _ _ _ e) (fun x1 hf => ?_)
  refine zIeq hf (tgt := 24) rfl (by decide) (fun hc hf => ?_) (fun hc hf => ?_)
  · refine zB zlokM 1 (pc' := 25) (ls' := [(0, .ref 0), (1, .int a0), (2, .int a1)]) (st' := [.int (-1)]) (s' := x1.2) rfl ?_
    exact zRetI hf rfl rfl
  · refine zB zlokM 4 (pc' := 18) (ls' := [(0, .ref 0), (1, .int a0), (2, .int a1)]) (st' := [.long 2, .long 0, .long (a1 : Int32).toInt64]) (s' := x1.2) rfl ?_
    refine zSI hf (As := [.long (a1 : Int32).toInt64, .long 0, .long 2]) (rest := []) 3 zmk_m_within zok_m_within zl_1072 rfl rfl rfl rfl rfl (fun _ e => k_m_within _ _ _ _ _ e) (fun x2 hf => ?_)
    refine zIne hf (tgt := 26) rfl (by decide) (fun hc hf => ?_) (fun hc hf => ?_)
    · refine zB zlokM 1 (pc' := 25) (ls' := [(0, .ref 0), (1, .int a0), (2, .int a1)]) (st' := [.int (-1)]) (s' := x2.2) rfl ?_
      exact zRetI hf rfl rfl
    · refine zB zlokM 3 (pc' := 31) (ls' := [(0, .ref 0), (1, .int a0), (2, .int a1)]) (st' := [.int 4, .ref 1]) (s' := x2.2) rfl ?_
      refine zIald hf rfl (by rfl) (fun x3 hf => ?_)
      refine zIne hf (tgt := 38) rfl (by decide) (fun hc hf => ?_) (fun hc hf => ?_)
      · refine zB zlokM 1 (pc' := 37) (ls' := [(0, .ref 0), (1, .int a0), (2, .int a1)]) (st' := [.int (-5)]) (s' := x2.2) rfl ?_
        exact zRetI hf rfl rfl
      · refine zB zlokM 1 (pc' := 39) (ls' := [(0, .ref 0), (1, .int a0), (2, .int a1)]) (st' := [.ref 0]) (s' := x2.2) rfl ?_
        refine zXI hf (As := []) (rest := []) 0 zmk_m_jugCost zok_m_jugCost zl_1125 rfl rfl rfl rfl rfl rfl rfl rfl (fun _ e => k_m_jugCost _ _ e) (fun x4 hf => ?_)
        refine zB zlokM 3 (pc' := 47) (ls' := [(0, .ref 0), (1, .int a0), (2, .int a1)]) (st' := [.int 2, .ref 1, .int x4.1]) (s' := x4.2) rfl ?_
        refine zIald hf rfl (by rfl) (fun x5 hf => ?_)
        refine zDiv hf rfl (fun x6 hf => ?_)
        refine zB zlokM 4 (pc' := 55) (ls' := [(3, .int x6), (0, .ref 0), (1, .int a0), (2, .int a1)]) (st' := [.int 3, .ref 1]) (s' := x4.2) rfl ?_
        refine zIald hf rfl (by rfl) (fun x7 hf => ?_)
        refine zB zlokM 4 (pc' := 63) (ls' := [(4, .int x7), (3, .int x6), (0, .ref 0), (1, .int a0), (2, .int a1)]) (st' := [.int 4, .ref 1]) (s' := x4.2) rfl ?_
        refine zIald hf rfl (by rfl) (fun x8 hf => ?_)
        refine zB zlokM 5 (pc' := 72) (ls' := [(7, .int 1), (6, .int 0), (5, .int x8), (4, .int x7), (3, .int x6), (0, .ref 0), (1, .int a0), (2, .int a1)]) (st' := []) (s' := x4.2) rfl ?_
        refine zLoc [6, 7, 4, 3, 2, 1, 0] rfl ?_
        exact c_f_m_undercut_72 zFu _ _ _ _ _ _ _ _ hf
set_option maxRecDepth 20000 in
theorem k_m_brings (a0 : Int32) (a1 : Int32) (s : zSt) (r : Int32 × zSt) (hf : f_m_brings a0 a1 s = some r) : zKp zm_m_brings ΛM 1 [.ref 0, .int a0, .int a1] s (some (.int r.1), r.2) := by
  refine zKp_of zmk_m_brings rfl ?_
  show zWA _ _ _ _ _ [(0, .ref 0), (1, .int a0), (2, .int a1)] _ _
  refine zB zlokM 4 (pc' := 6) (ls' := [(0, .ref 0), (1, .int a0), (2, .int a1)]) (st' := [.long 7, .long 1, .long (a0 : Int32).toInt64]) (s' := s) rfl ?_
  refine zSI hf (As := [.long (a0 : Int32).toInt64, .long 1, .long 7]) (rest := []) 3 zmk_m_within zok_m_within zl_1072 rfl rfl rfl rfl rfl (fun _ e => k_m_within _ _ _ _ _ e) (fun x1 hf => ?_)
  refine zIeq hf (tgt := 24) rfl (by decide) (fun hc hf => ?_) (fun hc hf => ?_)
  · refine zB zlokM 1 (pc' := 25) (ls' := [(0, .ref 0), (1, .int a0), (2, .int a1)]) (st' := [.int (-1)]) (s' := x1.2) rfl ?_
    exact zRetI hf rfl rfl
  · refine zB zlokM 4 (pc' := 18) (ls' := [(0, .ref 0), (1, .int a0), (2, .int a1)]) (st' := [.long 999, .long 0, .long (a1 : Int32).toInt64]) (s' := x1.2) rfl ?_
    refine zSI hf (As := [.long (a1 : Int32).toInt64, .long 0, .long 999]) (rest := []) 3 zmk_m_within zok_m_within zl_1072 rfl rfl rfl rfl rfl (fun _ e => k_m_within _ _ _ _ _ e) (fun x2 hf => ?_)
    refine zIne hf (tgt := 26) rfl (by decide) (fun hc hf => ?_) (fun hc hf => ?_)
    · refine zB zlokM 1 (pc' := 25) (ls' := [(0, .ref 0), (1, .int a0), (2, .int a1)]) (st' := [.int (-1)]) (s' := x2.2) rfl ?_
      exact zRetI hf rfl rfl
    · refine zB zlokM 3 (pc' := 31) (ls' := [(0, .ref 0), (1, .int a0), (2, .int a1)]) (st' := [.int a0, .ref 17]) (s' := x2.2) rfl ?_
      refine zIald hf rfl (by rfl) (fun x3 hf => ?_)
      refine zB zlokM 5 (pc' := 39) (ls' := [(3, .int x3), (0, .ref 0), (1, .int a0), (2, .int a1)]) (st' := [.int a1, .int a0, .ref 17]) (s' := x2.2) rfl ?_
      refine zIast hf rfl (by rfl) (fun s4 hf => ?_)
      refine zB zlokM 1 (pc' := 41) (ls' := [(3, .int x3), (0, .ref 0), (1, .int a0), (2, .int a1)]) (st' := [.int x3]) (s' := s4) rfl ?_
      exact zRetI hf rfl rfl
set_option maxRecDepth 20000 in
theorem k_m_minutes (a0 : Int32) (a1 : Int32) (s : zSt) (r : Int32 × zSt) (hf : f_m_minutes a0 a1 s = some r) : zKp zm_m_minutes ΛM 1 [.ref 0, .int a0, .int a1] s (some (.int r.1), r.2) := by
  refine zKp_of zmk_m_minutes rfl ?_
  show zWA _ _ _ _ _ [(0, .ref 0), (1, .int a0), (2, .int a1)] _ _
  refine zB zlokM 4 (pc' := 6) (ls' := [(0, .ref 0), (1, .int a0), (2, .int a1)]) (st' := [.long 2, .long 0, .long (a0 : Int32).toInt64]) (s' := s) rfl ?_
  refine zSI hf (As := [.long (a0 : Int32).toInt64, .long 0, .long 2]) (rest := []) 3 zmk_m_within zok_m_within zl_1072 rfl rfl rfl rfl rfl (fun _ e => k_m_within _ _ _ _ _ e) (fun x1 hf => ?_)
  refine zIeq hf (tgt := 24) rfl (by decide) (fun hc hf => ?_) (fun hc hf => ?_)
  · refine zB zlokM 1 (pc' := 25) (ls' := [(0, .ref 0), (1, .int a0), (2, .int a1)]) (st' := [.int (-1)]) (s' := x1.2) rfl ?_
    exact zRetI hf rfl rfl
  · refine zB zlokM 4 (pc' := 18) (ls' := [(0, .ref 0), (1, .int a0), (2, .int a1)]) (st' := [.long 600, .long 0, .long (a1 : Int32).toInt64]) (s' := x1.2) rfl ?_
    refine zSI hf (As := [.long (a1 : Int32).toInt64, .long 0, .long 600]) (rest := []) 3 zmk_m_within zok_m_within zl_1072 rfl rfl rfl rfl rfl (fun _ e => k_m_within _ _ _ _ _ e) (fun x2 hf => ?_)
    refine zIne hf (tgt := 26) rfl (by decide) (fun hc hf => ?_) (fun hc hf => ?_)
    · refine zB zlokM 1 (pc' := 25) (ls' := [(0, .ref 0), (1, .int a0), (2, .int a1)]) (st' := [.int (-1)]) (s' := x2.2) rfl ?_
      exact zRetI hf rfl rfl
    · refine zB zlokM 3 (pc' := 31) (ls' := [(0, .ref 0), (1, .int a0), (2, .int a1)]) (st' := [.int a0, .ref 18]) (s' := x2.2) rfl ?_
      refine zIald hf rfl (by rfl) (fun x3 hf => ?_)
      refine zB zlokM 5 (pc' := 39) (ls' := [(3, .int x3), (0, .ref 0), (1, .int a0), (2, .int a1)]) (st' := [.int a1, .int a0, .ref 18]) (s' := x2.2) rfl ?_
      refine zIast hf rfl (by rfl) (fun s4 hf => ?_)
      refine zB zlokM 1 (pc' := 41) (ls' := [(3, .int x3), (0, .ref 0), (1, .int a0), (2, .int a1)]) (st' := [.int x3]) (s' := s4) rfl ?_
      exact zRetI hf rfl rfl
set_option maxRecDepth 20000 in
theorem k_m_addsOf (a0 : Int32) (s : zSt) (r : Int32 × zSt) (hf : f_m_addsOf a0 s = some r) : zKp zm_m_addsOf ΛM 0 [.ref 0, .int a0] s (some (.int r.1), r.2) := by
  refine zKp_of zmk_m_addsOf rfl ?_
  show zWA _ _ _ _ _ [(0, .ref 0), (1, .int a0)] _ _
  refine zB zlokM 23 (pc' := 27) (ls' := [(4, .int (1 <<< (a0 &&& 31))), (3, .int (1 <<< ((zrem (a0 + 2) 3) &&& 31))), (2, .int (1 <<< ((zrem (a0 + 1) 3) &&& 31))), (0, .ref 0), (1, .int a0)]) (st' := [.int (1 <<< (a0 &&& 31)), .ref 17]) (s' := s) rfl ?_
  refine zIald hf rfl (by rfl) (fun x1 hf => ?_)
  refine zB zlokM 6 (pc' := 38) (ls' := [(5, .int x1), (4, .int (1 <<< (a0 &&& 31))), (3, .int (1 <<< ((zrem (a0 + 2) 3) &&& 31))), (2, .int (1 <<< ((zrem (a0 + 1) 3) &&& 31))), (0, .ref 0), (1, .int a0)]) (st' := [.int ((1 <<< (a0 &&& 31)) ||| (1 <<< ((zrem (a0 + 1) 3) &&& 31))), .ref 17]) (s' := s) rfl ?_
  refine zIald hf rfl (by rfl) (fun x2 hf => ?_)
  refine zB zlokM 3 (pc' := 44) (ls' := [(5, .int x1), (4, .int (1 <<< (a0 &&& 31))), (3, .int (1 <<< ((zrem (a0 + 2) 3) &&& 31))), (2, .int (1 <<< ((zrem (a0 + 1) 3) &&& 31))), (0, .ref 0), (1, .int a0)]) (st' := [.int (1 <<< ((zrem (a0 + 1) 3) &&& 31)), .ref 17, .int x2]) (s' := s) rfl ?_
  refine zIald hf rfl (by rfl) (fun x3 hf => ?_)
  refine zB zlokM 6 (pc' := 54) (ls' := [(5, .int x1), (4, .int (1 <<< (a0 &&& 31))), (3, .int (1 <<< ((zrem (a0 + 2) 3) &&& 31))), (2, .int (1 <<< ((zrem (a0 + 1) 3) &&& 31))), (0, .ref 0), (1, .int a0)]) (st' := [.int ((1 <<< (a0 &&& 31)) ||| (1 <<< ((zrem (a0 + 2) 3) &&& 31))), .ref 17, .int (x2 - x3)]) (s' := s) rfl ?_
  refine zIald hf rfl (by rfl) (fun x4 hf => ?_)
  refine zB zlokM 4 (pc' := 61) (ls' := [(5, .int x1), (4, .int (1 <<< (a0 &&& 31))), (3, .int (1 <<< ((zrem (a0 + 2) 3) &&& 31))), (2, .int (1 <<< ((zrem (a0 + 1) 3) &&& 31))), (0, .ref 0), (1, .int a0)]) (st' := [.int (1 <<< ((zrem (a0 + 2) 3) &&& 31)), .ref 17, .int ((x2 - x3) + x4)]) (s' := s) rfl ?_
  refine zIald hf rfl (by rfl) (fun x5 hf => ?_)
  refine zB zlokM 11 (pc' := 79) (ls' := [(6, .int (((x2 - x3) + x4) - x5)), (5, .int x1), (4, .int (1 <<< (a0 &&& 31))), (3, .int (1 <<< ((zrem (a0 + 2) 3) &&& 31))), (2, .int (1 <<< ((zrem (a0 + 1) 3) &&& 31))), (0, .ref 0), (1, .int a0)]) (st' := [.int 7, .ref 17, .int 2, .int ((2 * x1) + (((x2 - x3) + x4) - x5))]) (s' := s) rfl ?_
  refine zIald hf rfl (by rfl) (fun x6 hf => ?_)
  refine zB zlokM 5 (pc' := 87) (ls' := [(6, .int (((x2 - x3) + x4) - x5)), (5, .int x1), (4, .int (1 <<< (a0 &&& 31))), (3, .int (1 <<< ((zrem (a0 + 2) 3) &&& 31))), (2, .int (1 <<< ((zrem (a0 + 1) 3) &&& 31))), (0, .ref 0), (1, .int a0)]) (st' := [.int ((1 <<< ((zrem (a0 + 1) 3) &&& 31)) ||| (1 <<< ((zrem (a0 + 2) 3) &&& 31))), .ref 17, .int x6, .int 2, .int ((2 * x1) + (((x2 - x3) + x4) - x5))]) (s' := s) rfl ?_
  refine zIald hf rfl (by rfl) (fun x7 hf => ?_)
  refine zB zlokM 3 (pc' := 91) (ls' := [(6, .int (((x2 - x3) + x4) - x5)), (5, .int x1), (4, .int (1 <<< (a0 &&& 31))), (3, .int (1 <<< ((zrem (a0 + 2) 3) &&& 31))), (2, .int (1 <<< ((zrem (a0 + 1) 3) &&& 31))), (0, .ref 0), (1, .int a0)]) (st' := [.int (((2 * x1) + (((x2 - x3) + x4) - x5)) + (2 * (x6 - x7)))]) (s' := s) rfl ?_
  exact zRetI hf rfl rfl
set_option maxRecDepth 20000 in
theorem k_m_share (a0 : Int32) (a1 : Int32) (a2 : Int32) (s : zSt) (r : Int32 × zSt) (hf : f_m_share a0 a1 a2 s = some r) : zKp zm_m_share ΛM 2 [.ref 0, .int a0, .int a1, .int a2] s (some (.int r.1), r.2) := by
  refine zKp_of zmk_m_share rfl ?_
  show zWA _ _ _ _ _ [(0, .ref 0), (1, .int a0), (2, .int a1), (3, .int a2)] _ _
  refine zB zlokM 4 (pc' := 6) (ls' := [(0, .ref 0), (1, .int a0), (2, .int a1), (3, .int a2)]) (st' := [.long 2, .long 0, .long (a0 : Int32).toInt64]) (s' := s) rfl ?_
  refine zSI hf (As := [.long (a0 : Int32).toInt64, .long 0, .long 2]) (rest := []) 3 zmk_m_within zok_m_within zl_1072 rfl rfl rfl rfl rfl (fun _ e => k_m_within _ _ _ _ _ e) (fun x1 hf => ?_)
  refine zIeq hf (tgt := 34) rfl (by decide) (fun hc hf => ?_) (fun hc hf => ?_)
  · refine zB zlokM 1 (pc' := 36) (ls' := [(0, .ref 0), (1, .int a0), (2, .int a1), (3, .int a2)]) (st' := [.int (-2000000000)]) (s' := x1.2) rfl ?_
    exact zRetI hf rfl rfl
  · refine zB zlokM 4 (pc' := 18) (ls' := [(0, .ref 0), (1, .int a0), (2, .int a1), (3, .int a2)]) (st' := [.long 2, .long 0, .long (a1 : Int32).toInt64]) (s' := x1.2) rfl ?_
    refine zSI hf (As := [.long (a1 : Int32).toInt64, .long 0, .long 2]) (rest := []) 3 zmk_m_within zok_m_within zl_1072 rfl rfl rfl rfl rfl (fun _ e => k_m_within _ _ _ _ _ e) (fun x2 hf => ?_)
    refine zIeq hf (tgt := 34) rfl (by decide) (fun hc hf => ?_) (fun hc hf => ?_)
    · refine zB zlokM 1 (pc' := 36) (ls' := [(0, .ref 0), (1, .int a0), (2, .int a1), (3, .int a2)]) (st' := [.int (-2000000000)]) (s' := x2.2) rfl ?_
      exact zRetI hf rfl rfl
    · refine zB zlokM 4 (pc' := 28) (ls' := [(0, .ref 0), (1, .int a0), (2, .int a1), (3, .int a2)]) (st' := [.long 1, .long 0, .long (a2 : Int32).toInt64]) (s' := x2.2) rfl ?_
      refine zSI hf (As := [.long (a2 : Int32).toInt64, .long 0, .long 1]) (rest := []) 3 zmk_m_within zok_m_within zl_1072 rfl rfl rfl rfl rfl (fun _ e => k_m_within _ _ _ _ _ e) (fun x3 hf => ?_)
      refine zIne hf (tgt := 37) rfl (by decide) (fun hc hf => ?_) (fun hc hf => ?_)
      · refine zB zlokM 1 (pc' := 36) (ls' := [(0, .ref 0), (1, .int a0), (2, .int a1), (3, .int a2)]) (st' := [.int (-2000000000)]) (s' := x3.2) rfl ?_
        exact zRetI hf rfl rfl
      · refine zB zlokM 1 (pc' := 38) (ls' := [(0, .ref 0), (1, .int a0), (2, .int a1), (3, .int a2)]) (st' := [.int a1]) (s' := x3.2) rfl ?_
        refine zIne hf (tgt := 58) rfl (by decide) (fun hc hf => ?_) (fun hc hf => ?_)
        · refine zB zlokM 3 (pc' := 47) (ls' := [(0, .ref 0), (1, .int a0), (2, .int a1), (3, .int a2)]) (st' := [.int 7, .ref 17]) (s' := x3.2) rfl ?_
          refine zIald hf rfl (by rfl) (fun x4 hf => ?_)
          refine zB zlokM 3 (pc' := 53) (ls' := [(0, .ref 0), (1, .int a0), (2, .int a1), (3, .int a2)]) (st' := [.int a2, .long 3, .long (x4 : Int32).toInt64]) (s' := x3.2) rfl ?_
          refine zSL hf (As := [.long (x4 : Int32).toInt64, .long 3, .int a2]) (rest := []) 3 zmk_m_partOf zok_m_partOf zl_1278 rfl rfl rfl rfl rfl (fun _ e => k_m_partOf _ _ _ _ _ e) (fun x5 hf => ?_)
          refine zB zlokM 1 (pc' := 57) (ls' := [(0, .ref 0), (1, .int a0), (2, .int a1), (3, .int a2)]) (st' := [.int (x5.1 : Int64).toInt32]) (s' := x5.2) rfl ?_
          exact zRetI hf rfl rfl
        · refine zB zlokM 2 (pc' := 60) (ls' := [(0, .ref 0), (1, .int a0), (2, .int a1), (3, .int a2)]) (st' := [.int 2, .int a1]) (s' := x3.2) rfl ?_
          refine zCne hf (tgt := 78) rfl (by decide) (fun hc hf => ?_) (fun hc hf => ?_)
          · refine zB zlokM 2 (pc' := 65) (ls' := [(0, .ref 0), (1, .int a0), (2, .int a1), (3, .int a2)]) (st' := [.int a0, .ref 0]) (s' := x3.2) rfl ?_
            refine zXI hf (As := [.int a0]) (rest := []) 1 zmk_m_addsOf zok_m_addsOf zl_1303 rfl rfl rfl rfl rfl rfl rfl rfl (fun _ e => k_m_addsOf _ _ _ e) (fun x6 hf => ?_)
            refine zB zlokM 3 (pc' := 73) (ls' := [(0, .ref 0), (1, .int a0), (2, .int a1), (3, .int a2)]) (st' := [.int a2, .long 6, .long (x6.1 : Int32).toInt64]) (s' := x6.2) rfl ?_
            refine zSL hf (As := [.long (x6.1 : Int32).toInt64, .long 6, .int a2]) (rest := []) 3 zmk_m_partOf zok_m_partOf zl_1278 rfl rfl rfl rfl rfl (fun _ e => k_m_partOf _ _ _ _ _ e) (fun x7 hf => ?_)
            refine zB zlokM 1 (pc' := 77) (ls' := [(0, .ref 0), (1, .int a0), (2, .int a1), (3, .int a2)]) (st' := [.int (x7.1 : Int64).toInt32]) (s' := x7.2) rfl ?_
            exact zRetI hf rfl rfl
          · refine zB zlokM 3 (pc' := 83) (ls' := [(0, .ref 0), (1, .int a0), (2, .int a1), (3, .int a2)]) (st' := [.int 0, .ref 18]) (s' := x3.2) rfl ?_
            refine zIald hf rfl (by rfl) (fun x8 hf => ?_)
            refine zB zlokM 3 (pc' := 89) (ls' := [(0, .ref 0), (1, .int a0), (2, .int a1), (3, .int a2)]) (st' := [.int 1, .ref 18, .int x8]) (s' := x3.2) rfl ?_
            refine zIald hf rfl (by rfl) (fun x9 hf => ?_)
            refine zB zlokM 4 (pc' := 96) (ls' := [(0, .ref 0), (1, .int a0), (2, .int a1), (3, .int a2)]) (st' := [.int 2, .ref 18, .int (x8 + x9)]) (s' := x3.2) rfl ?_
            refine zIald hf rfl (by rfl) (fun x10 hf => ?_)
            refine zB zlokM 3 (pc' := 102) (ls' := [(4, .int ((x8 + x9) + x10)), (0, .ref 0), (1, .int a0), (2, .int a1), (3, .int a2)]) (st' := [.int ((x8 + x9) + x10)]) (s' := x3.2) rfl ?_
            refine zIne hf (tgt := 110) rfl (by decide) (fun hc hf => ?_) (fun hc hf => ?_)
            · refine zB zlokM 2 (pc' := 107) (ls' := [(4, .int ((x8 + x9) + x10)), (0, .ref 0), (1, .int a0), (2, .int a1), (3, .int a2)]) (st' := [.long (a2 : Int32).toInt64]) (s' := x3.2) rfl ?_
              refine zGoto (tgt := 133) rfl (by decide) ?_
              refine zB zlokM 1 (pc' := 134) (ls' := [(4, .int ((x8 + x9) + x10)), (0, .ref 0), (1, .int a0), (2, .int a1), (3, .int a2)]) (st' := [.int ((a2 : Int32).toInt64 : Int64).toInt32]) (s' := x3.2) rfl ?_
              exact zRetI hf rfl rfl
            · refine zB zlokM 3 (pc' := 116) (ls' := [(4, .int ((x8 + x9) + x10)), (0, .ref 0), (1, .int a0), (2, .int a1), (3, .int a2)]) (st' := [.int 7, .ref 17]) (s' := x3.2) rfl ?_
              refine zIald hf rfl (by rfl) (fun x11 hf => ?_)
              refine zB zlokM 4 (pc' := 123) (ls' := [(4, .int ((x8 + x9) + x10)), (0, .ref 0), (1, .int a0), (2, .int a1), (3, .int a2)]) (st' := [.int a0, .ref 18, .long (x11 : Int32).toInt64]) (s' := x3.2) rfl ?_
              refine zIald hf rfl (by rfl) (fun x12 hf => ?_)
              refine zB zlokM 5 (pc' := 130) (ls' := [(4, .int ((x8 + x9) + x10)), (0, .ref 0), (1, .int a0), (2, .int a1), (3, .int a2)]) (st' := [.int a2, .long (((x8 + x9) + x10) : Int32).toInt64, .long ((x11 : Int32).toInt64 * (x12 : Int32).toInt64)]) (s' := x3.2) rfl ?_
              refine zSL hf (As := [.long ((x11 : Int32).toInt64 * (x12 : Int32).toInt64), .long (((x8 + x9) + x10) : Int32).toInt64, .int a2]) (rest := []) 3 zmk_m_partOf zok_m_partOf zl_1278 rfl rfl rfl rfl rfl (fun _ e => k_m_partOf _ _ _ _ _ e) (fun x13 hf => ?_)
              refine zB zlokM 1 (pc' := 134) (ls' := [(4, .int ((x8 + x9) + x10)), (0, .ref 0), (1, .int a0), (2, .int a1), (3, .int a2)]) (st' := [.int (x13.1 : Int64).toInt32]) (s' := x13.2) rfl ?_
              exact zRetI hf rfl rfl
set_option maxRecDepth 20000 in
theorem k_m_slate (a0 : Int32) (a1 : Int32) (s : zSt) (r : Int32 × zSt) (hf : f_m_slate a0 a1 s = some r) : zKp zm_m_slate ΛM 1 [.ref 0, .int a0, .int a1] s (some (.int r.1), r.2) := by
  refine zKp_of zmk_m_slate rfl ?_
  show zWA _ _ _ _ _ [(0, .ref 0), (1, .int a0), (2, .int a1)] _ _
  refine zB zlokM 1 (pc' := 1) (ls' := [(0, .ref 0), (1, .int a0), (2, .int a1)]) (st' := [.int a0]) (s' := s) rfl ?_
  refine zIlt hf (tgt := 45) rfl (by decide) (fun hc hf => ?_) (fun hc hf => ?_)
  · refine zB zlokM 1 (pc' := 46) (ls' := [(0, .ref 0), (1, .int a0), (2, .int a1)]) (st' := [.int (-1)]) (s' := s) rfl ?_
    exact zRetI hf rfl rfl
  · refine zB zlokM 4 (pc' := 10) (ls' := [(0, .ref 0), (1, .int a0), (2, .int a1)]) (st' := [.int 6, .int (a0 / 10)]) (s' := s) rfl ?_
    refine zCge hf (tgt := 45) rfl (by decide) (fun hc hf => ?_) (fun hc hf => ?_)
    · refine zB zlokM 1 (pc' := 46) (ls' := [(0, .ref 0), (1, .int a0), (2, .int a1)]) (st' := [.int (-1)]) (s' := s) rfl ?_
      exact zRetI hf rfl rfl
    · refine zB zlokM 4 (pc' := 19) (ls' := [(0, .ref 0), (1, .int a0), (2, .int a1)]) (st' := [.int 6, .int (zrem a0 10)]) (s' := s) rfl ?_
      refine zCge hf (tgt := 45) rfl (by decide) (fun hc hf => ?_) (fun hc hf => ?_)
      · refine zB zlokM 1 (pc' := 46) (ls' := [(0, .ref 0), (1, .int a0), (2, .int a1)]) (st' := [.int (-1)]) (s' := s) rfl ?_
        exact zRetI hf rfl rfl
      · refine zB zlokM 6 (pc' := 30) (ls' := [(0, .ref 0), (1, .int a0), (2, .int a1)]) (st' := [.int (zrem a0 10), .int (a0 / 10)]) (s' := s) rfl ?_
        refine zCeq hf (tgt := 45) rfl (by decide) (fun hc hf => ?_) (fun hc hf => ?_)
        · refine zB zlokM 1 (pc' := 46) (ls' := [(0, .ref 0), (1, .int a0), (2, .int a1)]) (st' := [.int (-1)]) (s' := s) rfl ?_
          exact zRetI hf rfl rfl
        · refine zB zlokM 4 (pc' := 39) (ls' := [(0, .ref 0), (1, .int a0), (2, .int a1)]) (st' := [.long 999, .long 0, .long (a1 : Int32).toInt64]) (s' := s) rfl ?_
          refine zSI hf (As := [.long (a1 : Int32).toInt64, .long 0, .long 999]) (rest := []) 3 zmk_m_within zok_m_within zl_1072 rfl rfl rfl rfl rfl (fun _ e => k_m_within _ _ _ _ _ e) (fun x1 hf => ?_)
          refine zIne hf (tgt := 47) rfl (by decide) (fun hc hf => ?_) (fun hc hf => ?_)
          · refine zB zlokM 1 (pc' := 46) (ls' := [(0, .ref 0), (1, .int a0), (2, .int a1)]) (st' := [.int (-1)]) (s' := x1.2) rfl ?_
            exact zRetI hf rfl rfl
          · refine zB zlokM 11 (pc' := 63) (ls' := [(0, .ref 0), (1, .int a0), (2, .int a1)]) (st' := [.int ((6 * (a0 / 10)) + (zrem a0 10)), .ref 19]) (s' := x1.2) rfl ?_
            refine zIald hf rfl (by rfl) (fun x2 hf => ?_)
            refine zB zlokM 13 (pc' := 82) (ls' := [(3, .int x2), (0, .ref 0), (1, .int a0), (2, .int a1)]) (st' := [.int a1, .int ((6 * (a0 / 10)) + (zrem a0 10)), .ref 19]) (s' := x1.2) rfl ?_
            refine zIast hf rfl (by rfl) (fun s3 hf => ?_)
            refine zB zlokM 1 (pc' := 84) (ls' := [(3, .int x2), (0, .ref 0), (1, .int a0), (2, .int a1)]) (st' := [.int x2]) (s' := s3) rfl ?_
            exact zRetI hf rfl rfl
set_option maxRecDepth 20000 in
theorem c_f_m_owesOf_4 {r : Int32 × zSt} : ∀ (n : Nat) (v1 : Int32) (v2 : Int32) (v3 : Int32) (s : zSt), f_m_owesOf_4 n v1 v2 v3 s = some r → zWA zm_m_owesOf ΛM 0 (some (.int r.1), r.2) 4 [(0, .ref 0), (1, .int v1), (2, .int v2), (3, .int v3)] [] s := by
  intro n
  induction n with
  | zero => intro v1 v2 v3 s hf; cases hf
  | succ n ih =>
    intro v1 v2 v3 s hf
    refine zB zlokM 2 (pc' := 7) (ls' := [(0, .ref 0), (1, .int v1), (2, .int v2), (3, .int v3)]) (st' := [.int 6, .int v3]) (s' := s) rfl ?_
    refine zCge hf (tgt := 42) rfl (by decide) (fun hc hf => ?_) (fun hc hf => ?_)
    · refine zB zlokM 1 (pc' := 43) (ls' := [(0, .ref 0), (1, .int v1), (2, .int v2), (3, .int v3)]) (st' := [.int v2]) (s' := s) rfl ?_
      exact zRetI hf rfl rfl
    · refine zB zlokM 8 (pc' := 21) (ls' := [(0, .ref 0), (1, .int v1), (2, .int v2), (3, .int v3)]) (st' := [.int ((6 * v1) + v3), .ref 19, .int v2]) (s' := s) rfl ?_
      refine zIald hf rfl (by rfl) (fun x1 hf => ?_)
      refine zB zlokM 7 (pc' := 32) (ls' := [(0, .ref 0), (1, .int v1), (2, .int v2), (3, .int v3)]) (st' := [.int ((6 * v3) + v1), .ref 19, .int x1, .int v2]) (s' := s) rfl ?_
      refine zIald hf rfl (by rfl) (fun x2 hf => ?_)
      refine zB zlokM 4 (pc' := 39) (ls' := [(3, .int (v3 + 1)), (2, .int (v2 + (x1 - x2))), (0, .ref 0), (1, .int v1)]) (st' := []) (s' := s) rfl ?_
      refine zGoto (tgt := 4) rfl (by decide) ?_
      refine zLoc [2, 3, 1, 0] rfl ?_
      exact ih _ _ _ _ hf
set_option maxRecDepth 20000 in
theorem k_m_owesOf (a0 : Int32) (s : zSt) (r : Int32 × zSt) (hf : f_m_owesOf a0 s = some r) : zKp zm_m_owesOf ΛM 0 [.ref 0, .int a0] s (some (.int r.1), r.2) := by
  refine zKp_of zmk_m_owesOf rfl ?_
  show zWA _ _ _ _ _ [(0, .ref 0), (1, .int a0)] _ _
  refine zB zlokM 4 (pc' := 4) (ls' := [(3, .int 0), (2, .int 0), (0, .ref 0), (1, .int a0)]) (st' := []) (s' := s) rfl ?_
  refine zLoc [2, 3, 1, 0] rfl ?_
  exact c_f_m_owesOf_4 zFu _ _ _ _ hf
set_option maxRecDepth 20000 in
theorem k_m_owes (a0 : Int32) (s : zSt) (r : Int32 × zSt) (hf : f_m_owes a0 s = some r) : zKp zm_m_owes ΛM 1 [.ref 0, .int a0] s (some (.int r.1), r.2) := by
  refine zKp_of zmk_m_owes rfl ?_
  show zWA _ _ _ _ _ [(0, .ref 0), (1, .int a0)] _ _
  refine zB zlokM 4 (pc' := 6) (ls' := [(0, .ref 0), (1, .int a0)]) (st' := [.long 5, .long 0, .long (a0 : Int32).toInt64]) (s' := s) rfl ?_
  refine zSI hf (As := [.long (a0 : Int32).toInt64, .long 0, .long 5]) (rest := []) 3 zmk_m_within zok_m_within zl_1072 rfl rfl rfl rfl rfl (fun _ e => k_m_within _ _ _ _ _ e) (fun x1 hf => ?_)
  refine zIeq hf (tgt := 20) rfl (by decide) (fun hc hf => ?_) (fun hc hf => ?_)
  · refine zB zlokM 1 (pc' := 22) (ls' := [(0, .ref 0), (1, .int a0)]) (st' := [.int (-2000000000)]) (s' := x1.2) rfl ?_
    exact zRetI hf rfl rfl
  · refine zB zlokM 2 (pc' := 14) (ls' := [(0, .ref 0), (1, .int a0)]) (st' := [.int a0, .ref 0]) (s' := x1.2) rfl ?_
    refine zXI hf (As := [.int a0]) (rest := []) 1 zmk_m_owesOf zok_m_owesOf zl_1316 rfl rfl rfl rfl rfl rfl rfl rfl (fun _ e => k_m_owesOf _ _ _ e) (fun x2 hf => ?_)
    refine zGoto (tgt := 22) rfl (by decide) ?_
    exact zRetI hf rfl rfl
set_option maxRecDepth 20000 in
theorem c_f_m_wiped_74 {r : Int32 × zSt} (k64 : Int32 → zSt → Option (Int32 × zSt)) (hk64 : ∀ (v1 : Int32) (s : zSt), k64 v1 s = some r → zWA zm_m_wiped ΛM 1 (some (.int r.1), r.2) 64 [(0, .ref 0), (1, .int v1)] [] s) : ∀ (n : Nat) (v1 : Int32) (v2 : Int32) (v3 : Int32) (s : zSt), f_m_wiped_74 k64 n v1 v2 v3 s = some r → zWA zm_m_wiped ΛM 1 (some (.int r.1), r.2) 74 [(0, .ref 0), (1, .int v1), (2, .int v2), (3, .int v3)] [] s := by
  intro n
  induction n with
  | zero => intro v1 v2 v3 s hf; cases hf
  | succ n ih =>
    intro v1 v2 v3 s hf
    refine zB zlokM 2 (pc' := 77) (ls' := [(0, .ref 0), (1, .int v1), (2, .int v2), (3, .int v3)]) (st' := [.int 6, .int v3]) (s' := s) rfl ?_
    refine zCge hf (tgt := 126) rfl (by decide) (fun hc hf => ?_) (fun hc hf => ?_)
    · refine zB zlokM 5 (pc' := 133) (ls' := [(0, .ref 0), (1, .int v1), (2, .int v2), (3, .int v3)]) (st' := [.int v1, .int v2, .int v1, .ref 21]) (s' := s) rfl ?_
      refine zIle hf (tgt := 149) rfl (by decide) (fun hc hf => ?_) (fun hc hf => ?_)
      · refine zB zlokM 2 (pc' := 151) (ls' := [(0, .ref 0), (1, .int v1), (2, .int v2), (3, .int v3)]) (st' := [.int (v2 + 0), .int v1, .ref 21]) (s' := s) rfl ?_
        refine zIast hf rfl (by rfl) (fun s7 hf => ?_)
        refine zB zlokM 1 (pc' := 155) (ls' := [(1, .int (v1 + 1)), (0, .ref 0), (2, .int v2), (3, .int v3)]) (st' := []) (s' := s7) rfl ?_
        refine zGoto (tgt := 64) rfl (by decide) ?_
        refine zLoc [1, 0] rfl ?_
        exact hk64 _ _ hf
      · refine zB zlokM 3 (pc' := 141) (ls' := [(0, .ref 0), (1, .int v1), (2, .int v2), (3, .int v3)]) (st' := [.int v1, .ref 20, .int v2, .int v1, .ref 21]) (s' := s) rfl ?_
        refine zIald hf rfl (by rfl) (fun x8 hf => ?_)
        refine zIne hf (tgt := 149) rfl (by decide) (fun hc hf => ?_) (fun hc hf => ?_)
        · refine zB zlokM 1 (pc' := 146) (ls' := [(0, .ref 0), (1, .int v1), (2, .int v2), (3, .int v3)]) (st' := [.int 1, .int v2, .int v1, .ref 21]) (s' := s) rfl ?_
          refine zGoto (tgt := 150) rfl (by decide) ?_
          refine zB zlokM 1 (pc' := 151) (ls' := [(0, .ref 0), (1, .int v1), (2, .int v2), (3, .int v3)]) (st' := [.int (v2 + 1), .int v1, .ref 21]) (s' := s) rfl ?_
          refine zIast hf rfl (by rfl) (fun s9 hf => ?_)
          refine zB zlokM 1 (pc' := 155) (ls' := [(1, .int (v1 + 1)), (0, .ref 0), (2, .int v2), (3, .int v3)]) (st' := []) (s' := s9) rfl ?_
          refine zGoto (tgt := 64) rfl (by decide) ?_
          refine zLoc [1, 0] rfl ?_
          exact hk64 _ _ hf
        · refine zB zlokM 2 (pc' := 151) (ls' := [(0, .ref 0), (1, .int v1), (2, .int v2), (3, .int v3)]) (st' := [.int (v2 + 0), .int v1, .ref 21]) (s' := s) rfl ?_
          refine zIast hf rfl (by rfl) (fun s10 hf => ?_)
          refine zB zlokM 1 (pc' := 155) (ls' := [(1, .int (v1 + 1)), (0, .ref 0), (2, .int v2), (3, .int v3)]) (st' := []) (s' := s10) rfl ?_
          refine zGoto (tgt := 64) rfl (by decide) ?_
          refine zLoc [1, 0] rfl ?_
          exact hk64 _ _ hf
    · refine zB zlokM 6 (pc' := 86) (ls' := [(0, .ref 0), (1, .int v1), (2, .int v2), (3, .int v3)]) (st' := [.int 1, .int ((v1 >>> (v3 &&& 31)) &&& 1)]) (s' := s) rfl ?_
      refine zCne hf (tgt := 104) rfl (by decide) (fun hc hf => ?_) (fun hc hf => ?_)
      · refine zB zlokM 9 (pc' := 100) (ls' := [(0, .ref 0), (1, .int v1), (2, .int v2), (3, .int v3)]) (st' := [.int (v1 &&& ((1 <<< (v3 &&& 31)) ^^^ (-1))), .ref 21]) (s' := s) rfl ?_
        refine zIald hf rfl (by rfl) (fun x11 hf => ?_)
        refine zGoto (tgt := 105) rfl (by decide) ?_
        refine zB zlokM 3 (pc' := 110) (ls' := [(4, .int x11), (0, .ref 0), (1, .int v1), (2, .int v2), (3, .int v3)]) (st' := [.int v2, .int x11]) (s' := s) rfl ?_
        refine zCle hf (tgt := 118) rfl (by decide) (fun hc hf => ?_) (fun hc hf => ?_)
        · refine zB zlokM 3 (pc' := 123) (ls' := [(3, .int (v3 + 1)), (2, .int v2), (4, .int x11), (0, .ref 0), (1, .int v1)]) (st' := []) (s' := s) rfl ?_
          refine zGoto (tgt := 74) rfl (by decide) ?_
          refine zLoc [3, 4, 1, 0] rfl ?_
          exact ih _ _ _ _ hf
        · refine zB zlokM 1 (pc' := 115) (ls' := [(4, .int x11), (0, .ref 0), (1, .int v1), (2, .int v2), (3, .int v3)]) (st' := [.int x11]) (s' := s) rfl ?_
          refine zGoto (tgt := 119) rfl (by decide) ?_
          refine zB zlokM 2 (pc' := 123) (ls' := [(3, .int (v3 + 1)), (2, .int x11), (4, .int x11), (0, .ref 0), (1, .int v1)]) (st' := []) (s' := s) rfl ?_
          refine zGoto (tgt := 74) rfl (by decide) ?_
          refine zLoc [3, 4, 1, 0] rfl ?_
          exact ih _ _ _ _ hf
      · refine zB zlokM 4 (pc' := 110) (ls' := [(4, .int 0), (0, .ref 0), (1, .int v1), (2, .int v2), (3, .int v3)]) (st' := [.int v2, .int 0]) (s' := s) rfl ?_
        refine zCle hf (tgt := 118) rfl (by decide) (fun hc hf => ?_) (fun hc hf => ?_)
        · refine zB zlokM 3 (pc' := 123) (ls' := [(3, .int (v3 + 1)), (2, .int v2), (4, .int 0), (0, .ref 0), (1, .int v1)]) (st' := []) (s' := s) rfl ?_
          refine zGoto (tgt := 74) rfl (by decide) ?_
          refine zLoc [3, 4, 1, 0] rfl ?_
          exact ih _ _ _ _ hf
        · refine zB zlokM 1 (pc' := 115) (ls' := [(4, .int 0), (0, .ref 0), (1, .int v1), (2, .int v2), (3, .int v3)]) (st' := [.int 0]) (s' := s) rfl ?_
          refine zGoto (tgt := 119) rfl (by decide) ?_
          refine zB zlokM 2 (pc' := 123) (ls' := [(3, .int (v3 + 1)), (2, .int 0), (4, .int 0), (0, .ref 0), (1, .int v1)]) (st' := []) (s' := s) rfl ?_
          refine zGoto (tgt := 74) rfl (by decide) ?_
          refine zLoc [3, 4, 1, 0] rfl ?_
          exact ih _ _ _ _ hf
set_option maxRecDepth 20000 in
theorem c_f_m_wiped_64 {r : Int32 × zSt} : ∀ (n : Nat) (v1 : Int32) (s : zSt), f_m_wiped_64 n v1 s = some r → zWA zm_m_wiped ΛM 1 (some (.int r.1), r.2) 64 [(0, .ref 0), (1, .int v1)] [] s := by
  intro n
  induction n with
  | zero => intro v1 s hf; cases hf
  | succ n ih =>
    intro v1 s hf
    refine zB zlokM 2 (pc' := 67) (ls' := [(0, .ref 0), (1, .int v1)]) (st' := [.int 64, .int v1]) (s' := s) rfl ?_
    refine zCge hf (tgt := 158) rfl (by decide) (fun hc hf => ?_) (fun hc hf => ?_)
    · refine zB zlokM 4 (pc' := 166) (ls' := [(0, .ref 0), (1, .int v1)]) (st' := [.int 63, .ref 21, .int 6]) (s' := s) rfl ?_
      refine zIald hf rfl (by rfl) (fun x2 hf => ?_)
      refine zB zlokM 1 (pc' := 168) (ls' := [(0, .ref 0), (1, .int v1)]) (st' := [.int (6 - x2)]) (s' := s) rfl ?_
      exact zRetI hf rfl rfl
    · refine zB zlokM 4 (pc' := 74) (ls' := [(3, .int 0), (2, .int 0), (0, .ref 0), (1, .int v1)]) (st' := []) (s' := s) rfl ?_
      refine zLoc [2, 3, 1, 0] rfl ?_
      exact c_f_m_wiped_74 _ ih zFu _ _ _ _ hf
set_option maxRecDepth 20000 in
theorem c_f_m_wiped_17 {r : Int32 × zSt} (k2 : Int32 → zSt → Option (Int32 × zSt)) (hk2 : ∀ (v1 : Int32) (s : zSt), k2 v1 s = some r → zWA zm_m_wiped ΛM 1 (some (.int r.1), r.2) 2 [(0, .ref 0), (1, .int v1)] [] s) : ∀ (n : Nat) (v1 : Int32) (v2 : Int32) (s : zSt), f_m_wiped_17 k2 n v1 v2 s = some r → zWA zm_m_wiped ΛM 1 (some (.int r.1), r.2) 17 [(0, .ref 0), (1, .int v1), (2, .int v2)] [] s := by
  intro n
  induction n with
  | zero => intro v1 v2 s hf; cases hf
  | succ n ih =>
    intro v1 v2 s hf
    refine zB zlokM 2 (pc' := 20) (ls' := [(0, .ref 0), (1, .int v1), (2, .int v2)]) (st' := [.int 6, .int v2]) (s' := s) rfl ?_
    refine zCge hf (tgt := 56) rfl (by decide) (fun hc hf => ?_) (fun hc hf => ?_)
    · refine zB zlokM 1 (pc' := 59) (ls' := [(1, .int (v1 + 1)), (0, .ref 0), (2, .int v2)]) (st' := []) (s' := s) rfl ?_
      refine zGoto (tgt := 2) rfl (by decide) ?_
      refine zLoc [1, 0] rfl ?_
      exact hk2 _ _ hf
    · refine zB zlokM 4 (pc' := 29) (ls' := [(0, .ref 0), (1, .int v1), (2, .int v2)]) (st' := [.int v1, .ref 20, .int v1, .ref 20]) (s' := s) rfl ?_
      refine zIald hf rfl (by rfl) (fun x3 hf => ?_)
      refine zB zlokM 6 (pc' := 36) (ls' := [(0, .ref 0), (1, .int v1), (2, .int v2)]) (st' := [.int 1, .int ((v1 >>> (v2 &&& 31)) &&& 1), .int x3, .int v1, .ref 20]) (s' := s) rfl ?_
      refine zCne hf (tgt := 47) rfl (by decide) (fun hc hf => ?_) (fun hc hf => ?_)
      · refine zB zlokM 2 (pc' := 41) (ls' := [(0, .ref 0), (1, .int v1), (2, .int v2)]) (st' := [.int v2, .ref 0, .int x3, .int v1, .ref 20]) (s' := s) rfl ?_
        refine zXI hf (As := [.int v2]) (rest := [.int x3, .int v1, .ref 20]) 1 zmk_m_owesOf zok_m_owesOf zl_1316 rfl rfl rfl rfl rfl rfl rfl rfl (fun _ e => k_m_owesOf _ _ _ e) (fun x4 hf => ?_)
        refine zGoto (tgt := 48) rfl (by decide) ?_
        refine zB zlokM 1 (pc' := 49) (ls' := [(0, .ref 0), (1, .int v1), (2, .int v2)]) (st' := [.int (x3 + x4.1), .int v1, .ref 20]) (s' := x4.2) rfl ?_
        refine zIast hf rfl (by rfl) (fun s5 hf => ?_)
        refine zB zlokM 1 (pc' := 53) (ls' := [(2, .int (v2 + 1)), (0, .ref 0), (1, .int v1)]) (st' := []) (s' := s5) rfl ?_
        refine zGoto (tgt := 17) rfl (by decide) ?_
        refine zLoc [1, 2, 0] rfl ?_
        exact ih _ _ _ hf
      · refine zB zlokM 2 (pc' := 49) (ls' := [(0, .ref 0), (1, .int v1), (2, .int v2)]) (st' := [.int (x3 + 0), .int v1, .ref 20]) (s' := s) rfl ?_
        refine zIast hf rfl (by rfl) (fun s6 hf => ?_)
        refine zB zlokM 1 (pc' := 53) (ls' := [(2, .int (v2 + 1)), (0, .ref 0), (1, .int v1)]) (st' := []) (s' := s6) rfl ?_
        refine zGoto (tgt := 17) rfl (by decide) ?_
        refine zLoc [1, 2, 0] rfl ?_
        exact ih _ _ _ hf
set_option maxRecDepth 20000 in
theorem c_f_m_wiped_2 {r : Int32 × zSt} : ∀ (n : Nat) (v1 : Int32) (s : zSt), f_m_wiped_2 n v1 s = some r → zWA zm_m_wiped ΛM 1 (some (.int r.1), r.2) 2 [(0, .ref 0), (1, .int v1)] [] s := by
  intro n
  induction n with
  | zero => intro v1 s hf; cases hf
  | succ n ih =>
    intro v1 s hf
    refine zB zlokM 2 (pc' := 5) (ls' := [(0, .ref 0), (1, .int v1)]) (st' := [.int 64, .int v1]) (s' := s) rfl ?_
    refine zCge hf (tgt := 62) rfl (by decide) (fun hc hf => ?_) (fun hc hf => ?_)
    · refine zB zlokM 2 (pc' := 64) (ls' := [(1, .int 0), (0, .ref 0)]) (st' := []) (s' := s) rfl ?_
      refine zLoc [1, 0] rfl ?_
      exact c_f_m_wiped_64 zFu _ _ hf
    · refine zB zlokM 4 (pc' := 14) (ls' := [(0, .ref 0), (1, .int v1)]) (st' := [.int 0, .int v1, .ref 20]) (s' := s) rfl ?_
      refine zIast hf rfl (by rfl) (fun s1 hf => ?_)
      refine zB zlokM 2 (pc' := 17) (ls' := [(2, .int 0), (0, .ref 0), (1, .int v1)]) (st' := []) (s' := s1) rfl ?_
      refine zLoc [1, 2, 0] rfl ?_
      exact c_f_m_wiped_17 _ ih zFu _ _ _ hf
set_option maxRecDepth 20000 in
theorem k_m_wiped (s : zSt) (r : Int32 × zSt) (hf : f_m_wiped s = some r) : zKp zm_m_wiped ΛM 1 [.ref 0] s (some (.int r.1), r.2) := by
  refine zKp_of zmk_m_wiped rfl ?_
  show zWA _ _ _ _ _ [(0, .ref 0)] _ _
  refine zB zlokM 2 (pc' := 2) (ls' := [(1, .int 0), (0, .ref 0)]) (st' := []) (s' := s) rfl ?_
  refine zLoc [1, 0] rfl ?_
  exact c_f_m_wiped_2 zFu _ _ hf
set_option maxRecDepth 20000 in
theorem c_f_m_allHeats_4 {r : Int32 × zSt} : ∀ (n : Nat) (v1 : Int32) (v2 : Int32) (s : zSt), f_m_allHeats_4 n v1 v2 s = some r → zWA zm_m_allHeats ΛM 0 (some (.int r.1), r.2) 4 [(0, .ref 0), (1, .int v1), (2, .int v2)] [] s := by
  intro n
  induction n with
  | zero => intro v1 v2 s hf; cases hf
  | succ n ih =>
    intro v1 v2 s hf
    refine zB zlokM 2 (pc' := 7) (ls' := [(0, .ref 0), (1, .int v1), (2, .int v2)]) (st' := [.int 32, .int v2]) (s' := s) rfl ?_
    refine zCge hf (tgt := 25) rfl (by decide) (fun hc hf => ?_) (fun hc hf => ?_)
    · refine zB zlokM 1 (pc' := 26) (ls' := [(0, .ref 0), (1, .int v1), (2, .int v2)]) (st' := [.int v1]) (s' := s) rfl ?_
      exact zRetI hf rfl rfl
    · refine zB zlokM 4 (pc' := 16) (ls' := [(0, .ref 0), (1, .int v1), (2, .int v2)]) (st' := [.int v2, .ref 5, .int v1]) (s' := s) rfl ?_
      refine zIald hf rfl (by rfl) (fun x1 hf => ?_)
      refine zB zlokM 3 (pc' := 22) (ls' := [(2, .int (v2 + 1)), (1, .int (v1 + x1)), (0, .ref 0)]) (st' := []) (s' := s) rfl ?_
      refine zGoto (tgt := 4) rfl (by decide) ?_
      refine zLoc [2, 1, 0] rfl ?_
      exact ih _ _ _ hf
set_option maxRecDepth 20000 in
theorem k_m_allHeats (s : zSt) (r : Int32 × zSt) (hf : f_m_allHeats s = some r) : zKp zm_m_allHeats ΛM 0 [.ref 0] s (some (.int r.1), r.2) := by
  refine zKp_of zmk_m_allHeats rfl ?_
  show zWA _ _ _ _ _ [(0, .ref 0)] _ _
  refine zB zlokM 4 (pc' := 4) (ls' := [(2, .int 0), (1, .int 0), (0, .ref 0)]) (st' := []) (s' := s) rfl ?_
  refine zLoc [2, 1, 0] rfl ?_
  exact c_f_m_allHeats_4 zFu _ _ _ hf
set_option maxRecDepth 20000 in
theorem c_f_m_image_7 {r : Int32 × zSt} : ∀ (n : Nat) (v1 : Int32) (s : zSt), f_m_image_7 n v1 s = some r → zWA zm_m_image ΛM 1 (some (.int r.1), r.2) 7 [(0, .ref 0), (1, .int v1)] [] s := by
  intro n
  induction n with
  | zero => intro v1 s hf; cases hf
  | succ n ih =>
    intro v1 s hf
    refine zB zlokM 2 (pc' := 10) (ls' := [(0, .ref 0), (1, .int v1)]) (st' := [.int 32, .int v1]) (s' := s) rfl ?_
    refine zCge hf (tgt := 43) rfl (by decide) (fun hc hf => ?_) (fun hc hf => ?_)
    · refine zB zlokM 1 (pc' := 44) (ls' := [(0, .ref 0), (1, .int v1)]) (st' := [.ref 0]) (s' := s) rfl ?_
      refine zXI hf (As := []) (rest := []) 0 zmk_m_allHeats zok_m_allHeats zl_1328 rfl rfl rfl rfl rfl rfl rfl rfl (fun _ e => k_m_allHeats _ _ e) (fun x1 hf => ?_)
      exact zRetI hf rfl rfl
    · refine zB zlokM 6 (pc' := 23) (ls' := [(0, .ref 0), (1, .int v1)]) (st' := [.int v1, .ref 5, .int v1, .ref 22]) (s' := s) rfl ?_
      refine zIald hf rfl (by rfl) (fun x2 hf => ?_)
      refine zIast hf rfl (by rfl) (fun s3 hf => ?_)
      refine zB zlokM 6 (pc' := 35) (ls' := [(0, .ref 0), (1, .int v1)]) (st' := [.int v1, .ref 6, .int v1, .ref 23]) (s' := s3) rfl ?_
      refine zIald hf rfl (by rfl) (fun x4 hf => ?_)
      refine zIast hf rfl (by rfl) (fun s5 hf => ?_)
      refine zB zlokM 1 (pc' := 40) (ls' := [(1, .int (v1 + 1)), (0, .ref 0)]) (st' := []) (s' := s5) rfl ?_
      refine zGoto (tgt := 7) rfl (by decide) ?_
      refine zLoc [1, 0] rfl ?_
      exact ih _ _ hf
set_option maxRecDepth 20000 in
theorem k_m_image (s : zSt) (r : Int32 × zSt) (hf : f_m_image s = some r) : zKp zm_m_image ΛM 1 [.ref 0] s (some (.int r.1), r.2) := by
  refine zKp_of zmk_m_image rfl ?_
  show zWA _ _ _ _ _ [(0, .ref 0)] _ _
  refine zB zlokM 5 (pc' := 7) (ls' := [(1, .int 0), (0, .ref 0)]) (st' := []) (s' := (zw s 0 38 1)) rfl ?_
  refine zLoc [1, 0] rfl ?_
  exact c_f_m_image_7 zFu _ _ hf
set_option maxRecDepth 20000 in
theorem c_f_m_back_12 {r : Int32 × zSt} : ∀ (n : Nat) (v1 : Int32) (s : zSt), f_m_back_12 n v1 s = some r → zWA zm_m_back ΛM 1 (some (.int r.1), r.2) 12 [(0, .ref 0), (1, .int v1)] [] s := by
  intro n
  induction n with
  | zero => intro v1 s hf; cases hf
  | succ n ih =>
    intro v1 s hf
    refine zB zlokM 2 (pc' := 15) (ls' := [(0, .ref 0), (1, .int v1)]) (st' := [.int 32, .int v1]) (s' := s) rfl ?_
    refine zCge hf (tgt := 48) rfl (by decide) (fun hc hf => ?_) (fun hc hf => ?_)
    · refine zB zlokM 1 (pc' := 49) (ls' := [(0, .ref 0), (1, .int v1)]) (st' := [.ref 0]) (s' := s) rfl ?_
      refine zXI hf (As := []) (rest := []) 0 zmk_m_allHeats zok_m_allHeats zl_1328 rfl rfl rfl rfl rfl rfl rfl rfl (fun _ e => k_m_allHeats _ _ e) (fun x1 hf => ?_)
      exact zRetI hf rfl rfl
    · refine zB zlokM 6 (pc' := 28) (ls' := [(0, .ref 0), (1, .int v1)]) (st' := [.int v1, .ref 22, .int v1, .ref 5]) (s' := s) rfl ?_
      refine zIald hf rfl (by rfl) (fun x2 hf => ?_)
      refine zIast hf rfl (by rfl) (fun s3 hf => ?_)
      refine zB zlokM 6 (pc' := 40) (ls' := [(0, .ref 0), (1, .int v1)]) (st' := [.int v1, .ref 23, .int v1, .ref 6]) (s' := s3) rfl ?_
      refine zIald hf rfl (by rfl) (fun x4 hf => ?_)
      refine zIast hf rfl (by rfl) (fun s5 hf => ?_)
      refine zB zlokM 1 (pc' := 45) (ls' := [(1, .int (v1 + 1)), (0, .ref 0)]) (st' := []) (s' := s5) rfl ?_
      refine zGoto (tgt := 12) rfl (by decide) ?_
      refine zLoc [1, 0] rfl ?_
      exact ih _ _ hf
set_option maxRecDepth 20000 in
theorem k_m_back (s : zSt) (r : Int32 × zSt) (hf : f_m_back s = some r) : zKp zm_m_back ΛM 1 [.ref 0] s (some (.int r.1), r.2) := by
  refine zKp_of zmk_m_back rfl ?_
  show zWA _ _ _ _ _ [(0, .ref 0)] _ _
  refine zB zlokM 2 (pc' := 4) (ls' := [(0, .ref 0)]) (st' := [.int (s.1 0 38)]) (s' := s) rfl ?_
  refine zIne hf (tgt := 10) rfl (by decide) (fun hc hf => ?_) (fun hc hf => ?_)
  · refine zB zlokM 1 (pc' := 9) (ls' := [(0, .ref 0)]) (st' := [.int (-5)]) (s' := s) rfl ?_
    exact zRetI hf rfl rfl
  · refine zB zlokM 2 (pc' := 12) (ls' := [(1, .int 0), (0, .ref 0)]) (st' := []) (s' := s) rfl ?_
    refine zLoc [1, 0] rfl ?_
    exact c_f_m_back_12 zFu _ _ hf
set_option maxRecDepth 20000 in
theorem k_m_isBody (a0 : Int32) (s : zSt) (r : Int32 × zSt) (hf : f_m_isBody a0 s = some r) : zKp zm_m_isBody ΛM 1 [.ref 0, .int a0] s (some (.int r.1), r.2) := by
  refine zKp_of zmk_m_isBody rfl ?_
  show zWA _ _ _ _ _ [(0, .ref 0), (1, .int a0)] _ _
  refine zB zlokM 8 (pc' := 10) (ls' := [(0, .ref 0), (1, .int a0)]) (st' := [.long (((s.1 0 41) - 1) : Int32).toInt64, .long 0, .long (a0 : Int32).toInt64]) (s' := s) rfl ?_
  refine zSI hf (As := [.long (a0 : Int32).toInt64, .long 0, .long (((s.1 0 41) - 1) : Int32).toInt64]) (rest := []) 3 zmk_m_within zok_m_within zl_1072 rfl rfl rfl rfl rfl (fun _ e => k_m_within _ _ _ _ _ e) (fun x1 hf => ?_)
  exact zRetZb hf rfl rfl
set_option maxRecDepth 20000 in
theorem k_m_kindOf (a0 : Int32) (s : zSt) (r : Int32 × zSt) (hf : f_m_kindOf a0 s = some r) : zKp zm_m_kindOf ΛM 0 [.ref 0, .int a0] s (some (.int r.1), r.2) := by
  refine zKp_of zmk_m_kindOf rfl ?_
  show zWA _ _ _ _ _ [(0, .ref 0), (1, .int a0)] _ _
  refine zB zlokM 3 (pc' := 5) (ls' := [(0, .ref 0), (1, .int a0)]) (st' := [.int a0, .ref 24]) (s' := s) rfl ?_
  refine zIald hf rfl (by rfl) (fun x1 hf => ?_)
  exact zRetI hf rfl rfl
set_option maxRecDepth 20000 in
theorem k_m_body (a0 : Int32) (s : zSt) (r : Int32 × zSt) (hf : f_m_body a0 s = some r) : zKp zm_m_body ΛM 1 [.ref 0, .int a0] s (some (.int r.1), r.2) := by
  refine zKp_of zmk_m_body rfl ?_
  show zWA _ _ _ _ _ [(0, .ref 0), (1, .int a0)] _ _
  refine zB zlokM 4 (pc' := 6) (ls' := [(0, .ref 0), (1, .int a0)]) (st' := [.long 7, .long 0, .long (a0 : Int32).toInt64]) (s' := s) rfl ?_
  refine zSI hf (As := [.long (a0 : Int32).toInt64, .long 0, .long 7]) (rest := []) 3 zmk_m_within zok_m_within zl_1072 rfl rfl rfl rfl rfl (fun _ e => k_m_within _ _ _ _ _ e) (fun x1 hf => ?_)
  refine zIne hf (tgt := 14) rfl (by decide) (fun hc hf => ?_) (fun hc hf => ?_)
  · refine zB zlokM 1 (pc' := 13) (ls' := [(0, .ref 0), (1, .int a0)]) (st' := [.int (-1)]) (s' := x1.2) rfl ?_
    exact zRetI hf rfl rfl
  · refine zB zlokM 3 (pc' := 20) (ls' := [(0, .ref 0), (1, .int a0)]) (st' := [.int 50, .int (x1.2.1 0 41)]) (s' := x1.2) rfl ?_
    refine zCne hf (tgt := 26) rfl (by decide) (fun hc hf => ?_) (fun hc hf => ?_)
    · refine zB zlokM 1 (pc' := 25) (ls' := [(0, .ref 0), (1, .int a0)]) (st' := [.int (-3)]) (s' := x1.2) rfl ?_
      exact zRetI hf rfl rfl
    · refine zB zlokM 5 (pc' := 35) (ls' := [(0, .ref 0), (1, .int a0)]) (st' := [.int a0, .int (x1.2.1 0 41), .ref 24]) (s' := x1.2) rfl ?_
      refine zIast hf rfl (by rfl) (fun s2 hf => ?_)
      refine zB zlokM 10 (pc' := 52) (ls' := [(0, .ref 0), (1, .int a0)]) (st' := [.int (((zw s2 0 41 ((s2.1 0 41) + 1)).1 0 41) - 1)]) (s' := (zw s2 0 41 ((s2.1 0 41) + 1))) rfl ?_
      exact zRetI hf rfl rfl
set_option maxRecDepth 20000 in
theorem k_m_above (a0 : Int32) (s : zSt) (r : Int32 × zSt) (hf : f_m_above a0 s = some r) : zKp zm_m_above ΛM 0 [.int a0] s (some (.int r.1), r.2) := by
  refine zKp_of zmk_m_above rfl ?_
  show zWA _ _ _ _ _ [(0, .int a0)] _ _
  refine zB zlokM 2 (pc' := 2) (ls' := [(0, .int a0)]) (st' := [.int 3, .int a0]) (s' := s) rfl ?_
  refine zCne hf (tgt := 9) rfl (by decide) (fun hc hf => ?_) (fun hc hf => ?_)
  · refine zB zlokM 1 (pc' := 6) (ls' := [(0, .int a0)]) (st' := [.int 2]) (s' := s) rfl ?_
    refine zGoto (tgt := 38) rfl (by decide) ?_
    exact zRetI hf rfl rfl
  · refine zB zlokM 2 (pc' := 11) (ls' := [(0, .int a0)]) (st' := [.int 4, .int a0]) (s' := s) rfl ?_
    refine zCne hf (tgt := 18) rfl (by decide) (fun hc hf => ?_) (fun hc hf => ?_)
    · refine zB zlokM 1 (pc' := 15) (ls' := [(0, .int a0)]) (st' := [.int 1]) (s' := s) rfl ?_
      refine zGoto (tgt := 38) rfl (by decide) ?_
      exact zRetI hf rfl rfl
    · refine zB zlokM 2 (pc' := 20) (ls' := [(0, .int a0)]) (st' := [.int 5, .int a0]) (s' := s) rfl ?_
      refine zCne hf (tgt := 27) rfl (by decide) (fun hc hf => ?_) (fun hc hf => ?_)
      · refine zB zlokM 1 (pc' := 24) (ls' := [(0, .int a0)]) (st' := [.int 3]) (s' := s) rfl ?_
        refine zGoto (tgt := 38) rfl (by decide) ?_
        exact zRetI hf rfl rfl
      · refine zB zlokM 2 (pc' := 30) (ls' := [(0, .int a0)]) (st' := [.int 7, .int a0]) (s' := s) rfl ?_
        refine zCne hf (tgt := 37) rfl (by decide) (fun hc hf => ?_) (fun hc hf => ?_)
        · refine zB zlokM 1 (pc' := 34) (ls' := [(0, .int a0)]) (st' := [.int 4]) (s' := s) rfl ?_
          refine zGoto (tgt := 38) rfl (by decide) ?_
          exact zRetI hf rfl rfl
        · refine zB zlokM 1 (pc' := 38) (ls' := [(0, .int a0)]) (st' := [.int 0]) (s' := s) rfl ?_
          exact zRetI hf rfl rfl
set_option maxRecDepth 20000 in
theorem k_m_begins (a0 : Int32) (s : zSt) (r : zSt) (hf : f_m_begins a0 s = some r) : zKp zm_m_begins ΛM 0 [.ref 0, .int a0] s (none, r) := by
  refine zKp_of zmk_m_begins rfl ?_
  show zWA _ _ _ _ _ [(0, .ref 0), (1, .int a0)] _ _
  refine zB zlokM 3 (pc' := 6) (ls' := [(0, .ref 0), (1, .int a0)]) (st' := [.int 24, .int (s.1 0 44)]) (s' := s) rfl ?_
  refine zCge hf (tgt := 19) rfl (by decide) (fun hc hf => ?_) (fun hc hf => ?_)
  · refine zB zlokM 6 (pc' := 29) (ls' := [(0, .ref 0), (1, .int a0)]) (st' := []) (s' := (zw s 0 44 ((s.1 0 44) + 1))) rfl ?_
    exact zRetV hf rfl rfl
  · refine zB zlokM 5 (pc' := 18) (ls' := [(0, .ref 0), (1, .int a0)]) (st' := [.int a0, .int (s.1 0 44), .ref 25]) (s' := s) rfl ?_
    refine zIast hf rfl (by rfl) (fun s1 hf => ?_)
    refine zB zlokM 6 (pc' := 29) (ls' := [(0, .ref 0), (1, .int a0)]) (st' := []) (s' := (zw s1 0 44 ((s1.1 0 44) + 1))) rfl ?_
    exact zRetV hf rfl rfl
set_option maxRecDepth 20000 in
theorem kb_m_makesAs (c_m_makesAs : Int32 → Int32 → zSt → Option (Int32 × zSt)) {dd : Nat} (hdd : 9 ≤ dd) (hk_m_makesAs : ∀ (a0 a1 : Int32) (s : zSt) (r : Int32 × zSt), c_m_makesAs a0 a1 s = some r → zKp zm_m_makesAs ΛM dd [.ref 0, .int a0, .int a1] s (some (.int r.1), r.2)) (a0 : Int32) (a1 : Int32) (s : zSt) (r : Int32 × zSt) (hf : b_m_makesAs c_m_makesAs a0 a1 s = some r) : zKp zm_m_makesAs ΛM (dd + 1) [.ref 0, .int a0, .int a1] s (some (.int r.1), r.2) := by
  refine zKp_of zmk_m_makesAs rfl ?_
  show zWA _ _ _ _ _ [(0, .ref 0), (1, .int a0), (2, .int a1)] _ _
  refine zB zlokM 2 (pc' := 2) (ls' := [(0, .ref 0), (1, .int a0), (2, .int a1)]) (st' := [.int 1, .int a0]) (s' := s) rfl ?_
  refine zCeq hf (tgt := 16) rfl (by decide) (fun hc hf => ?_) (fun hc hf => ?_)
  · refine zB zlokM 2 (pc' := 19) (ls' := [(0, .ref 0), (1, .int a0), (2, .int a1)]) (st' := [.int 20, .ref 0]) (s' := s) rfl ?_
    refine zXV hf (As := [.int 20]) (rest := []) 1 zmk_m_begins zok_m_begins zl_1352 rfl rfl rfl rfl (zdr (by omega) rfl) rfl rfl rfl (fun _ e => k_m_begins _ _ _ e) (fun x1 hf => ?_)
    refine zB zlokM 3 (pc' := 25) (ls' := [(0, .ref 0), (1, .int a0), (2, .int a1)]) (st' := [.int a1, .int 0, .ref 0]) (s' := x1) rfl ?_
    refine zXI hf (As := [.int 0, .int a1]) (rest := []) 2 zmk_m_makesAs zok_m_makesAs zl_1348 rfl rfl rfl rfl (zdr (by omega) rfl) rfl rfl rfl (fun _ e => hk_m_makesAs _ _ _ _ e) (fun x2 hf => ?_)
    refine zB zlokM 2 (pc' := 30) (ls' := [(0, .ref 0), (1, .int a0), (2, .int a1)]) (st' := [.int (x2.1 + 3)]) (s' := x2.2) rfl ?_
    exact zRetI hf rfl rfl
  · refine zB zlokM 2 (pc' := 7) (ls' := [(0, .ref 0), (1, .int a0), (2, .int a1)]) (st' := [.int 4, .int a0]) (s' := s) rfl ?_
    refine zCeq hf (tgt := 16) rfl (by decide) (fun hc hf => ?_) (fun hc hf => ?_)
    · refine zB zlokM 2 (pc' := 19) (ls' := [(0, .ref 0), (1, .int a0), (2, .int a1)]) (st' := [.int 20, .ref 0]) (s' := s) rfl ?_
      refine zXV hf (As := [.int 20]) (rest := []) 1 zmk_m_begins zok_m_begins zl_1352 rfl rfl rfl rfl (zdr (by omega) rfl) rfl rfl rfl (fun _ e => k_m_begins _ _ _ e) (fun x3 hf => ?_)
      refine zB zlokM 3 (pc' := 25) (ls' := [(0, .ref 0), (1, .int a0), (2, .int a1)]) (st' := [.int a1, .int 0, .ref 0]) (s' := x3) rfl ?_
      refine zXI hf (As := [.int 0, .int a1]) (rest := []) 2 zmk_m_makesAs zok_m_makesAs zl_1348 rfl rfl rfl rfl (zdr (by omega) rfl) rfl rfl rfl (fun _ e => hk_m_makesAs _ _ _ _ e) (fun x4 hf => ?_)
      refine zB zlokM 2 (pc' := 30) (ls' := [(0, .ref 0), (1, .int a0), (2, .int a1)]) (st' := [.int (x4.1 + 3)]) (s' := x4.2) rfl ?_
      exact zRetI hf rfl rfl
    · refine zB zlokM 2 (pc' := 13) (ls' := [(0, .ref 0), (1, .int a0), (2, .int a1)]) (st' := [.int 7, .int a0]) (s' := s) rfl ?_
      refine zCne hf (tgt := 31) rfl (by decide) (fun hc hf => ?_) (fun hc hf => ?_)
      · refine zB zlokM 2 (pc' := 19) (ls' := [(0, .ref 0), (1, .int a0), (2, .int a1)]) (st' := [.int 20, .ref 0]) (s' := s) rfl ?_
        refine zXV hf (As := [.int 20]) (rest := []) 1 zmk_m_begins zok_m_begins zl_1352 rfl rfl rfl rfl (zdr (by omega) rfl) rfl rfl rfl (fun _ e => k_m_begins _ _ _ e) (fun x5 hf => ?_)
        refine zB zlokM 3 (pc' := 25) (ls' := [(0, .ref 0), (1, .int a0), (2, .int a1)]) (st' := [.int a1, .int 0, .ref 0]) (s' := x5) rfl ?_
        refine zXI hf (As := [.int 0, .int a1]) (rest := []) 2 zmk_m_makesAs zok_m_makesAs zl_1348 rfl rfl rfl rfl (zdr (by omega) rfl) rfl rfl rfl (fun _ e => hk_m_makesAs _ _ _ _ e) (fun x6 hf => ?_)
        refine zB zlokM 2 (pc' := 30) (ls' := [(0, .ref 0), (1, .int a0), (2, .int a1)]) (st' := [.int (x6.1 + 3)]) (s' := x6.2) rfl ?_
        exact zRetI hf rfl rfl
      · refine zB zlokM 2 (pc' := 34) (ls' := [(0, .ref 0), (1, .int a0), (2, .int a1)]) (st' := [.int 6, .int a0]) (s' := s) rfl ?_
        refine zCne hf (tgt := 52) rfl (by decide) (fun hc hf => ?_) (fun hc hf => ?_)
        · refine zB zlokM 2 (pc' := 40) (ls' := [(0, .ref 0), (1, .int a0), (2, .int a1)]) (st' := [.int 70, .ref 0]) (s' := s) rfl ?_
          refine zXV hf (As := [.int 70]) (rest := []) 1 zmk_m_begins zok_m_begins zl_1352 rfl rfl rfl rfl (zdr (by omega) rfl) rfl rfl rfl (fun _ e => k_m_begins _ _ _ e) (fun x7 hf => ?_)
          refine zB zlokM 3 (pc' := 46) (ls' := [(0, .ref 0), (1, .int a0), (2, .int a1)]) (st' := [.int a1, .int 0, .ref 0]) (s' := x7) rfl ?_
          refine zXI hf (As := [.int 0, .int a1]) (rest := []) 2 zmk_m_makesAs zok_m_makesAs zl_1348 rfl rfl rfl rfl (zdr (by omega) rfl) rfl rfl rfl (fun _ e => hk_m_makesAs _ _ _ _ e) (fun x8 hf => ?_)
          refine zB zlokM 2 (pc' := 51) (ls' := [(0, .ref 0), (1, .int a0), (2, .int a1)]) (st' := [.int (x8.1 * 2)]) (s' := x8.2) rfl ?_
          exact zRetI hf rfl rfl
        · refine zB zlokM 2 (pc' := 54) (ls' := [(0, .ref 0), (1, .int a0), (2, .int a1)]) (st' := [.int 1, .ref 0]) (s' := s) rfl ?_
          refine zXV hf (As := [.int 1]) (rest := []) 1 zmk_m_begins zok_m_begins zl_1352 rfl rfl rfl rfl (zdr (by omega) rfl) rfl rfl rfl (fun _ e => k_m_begins _ _ _ e) (fun x9 hf => ?_)
          refine zB zlokM 4 (pc' := 63) (ls' := [(0, .ref 0), (1, .int a0), (2, .int a1)]) (st' := [.int (a1 + (x9.1 0 46))]) (s' := x9) rfl ?_
          exact zRetI hf rfl rfl
theorem K_mk : ∀ n : Nat, ∀ a b s r, F_mk n a b s = some r → zKp zm_m_makesAs ΛM (n + 9) [.ref 0, .int a, .int b] s (some (.int r.1), r.2)
  | 0 => fun _ _ _ _ h => (by cases h)
  | n + 1 => by
    have h0 := K_mk n
    have e : n + 1 + 9 = n + 9 + 1 := by omega
    rw [e]
    exact fun a b s r h => kb_m_makesAs _ (by omega) h0 a b s r h
theorem k_m_makesAs (a0 a1 : Int32) (s : zSt) (r : Int32 × zSt) (hf : f_m_makesAs a0 a1 s = some r) : zKp zm_m_makesAs ΛM 29 [.ref 0, .int a0, .int a1] s (some (.int r.1), r.2) := K_mk 20 a0 a1 s r hf
set_option maxRecDepth 20000 in
theorem c_f_m_sharesAs_36 (c_m_sharesAs : Int32 → Int32 → zSt → Option (Int32 × zSt)) {dd : Nat} (hdd : 30 ≤ dd) (hk_m_sharesAs : ∀ (a0 a1 : Int32) (s : zSt) (r : Int32 × zSt), c_m_sharesAs a0 a1 s = some r → zKp zm_m_sharesAs ΛM dd [.ref 0, .int a0, .int a1] s (some (.int r.1), r.2)) {r : Int32 × zSt} : ∀ (v2 : Int32) (s : zSt), f_m_sharesAs_36 c_m_sharesAs v2 s = some r → zWA zm_m_sharesAs ΛM (dd + 1) (some (.int r.1), r.2) 36 [(0, .ref 0), (2, .int v2)] [] s := by
  intro v2 s hf
  refine zB zlokM 2 (pc' := 39) (ls' := [(0, .ref 0), (2, .int v2)]) (st' := [.int 50, .ref 0]) (s' := s) rfl ?_
  refine zXV hf (As := [.int 50]) (rest := []) 1 zmk_m_begins zok_m_begins zl_1352 rfl rfl rfl rfl (zdr (by omega) rfl) rfl rfl rfl (fun _ e => k_m_begins _ _ _ e) (fun x6 hf => ?_)
  refine zB zlokM 3 (pc' := 45) (ls' := [(0, .ref 0), (2, .int v2)]) (st' := [.int v2, .int 1, .ref 0]) (s' := x6) rfl ?_
  refine zXI hf (As := [.int 1, .int v2]) (rest := []) 2 zmk_m_sharesAs zok_m_sharesAs zl_1360 rfl rfl rfl rfl (zdr (by omega) rfl) rfl rfl rfl (fun _ e => hk_m_sharesAs _ _ _ _ e) (fun x7 hf => ?_)
  refine zB zlokM 6 (pc' := 56) (ls' := [(3, .int x7.1), (0, .ref 0), (2, .int v2)]) (st' := [.int 2, .int (x7.2.1 0 45), .ref 0, .int x7.1]) (s' := x7.2) rfl ?_
  refine zXI hf (As := [.int (x7.2.1 0 45), .int 2]) (rest := [.int x7.1]) 2 zmk_m_makesAs zok_m_makesAs zl_1348 rfl rfl rfl rfl (zdr (by omega) rfl) rfl rfl rfl (fun _ e => k_m_makesAs _ _ _ _ e) (fun x8 hf => ?_)
  refine zB zlokM 1 (pc' := 60) (ls' := [(3, .int x7.1), (0, .ref 0), (2, .int v2)]) (st' := [.int (x7.1 - x8.1)]) (s' := x8.2) rfl ?_
  exact zRetI hf rfl rfl
set_option maxRecDepth 20000 in
theorem kb_m_sharesAs (c_m_sharesAs : Int32 → Int32 → zSt → Option (Int32 × zSt)) {dd : Nat} (hdd : 30 ≤ dd) (hk_m_sharesAs : ∀ (a0 a1 : Int32) (s : zSt) (r : Int32 × zSt), c_m_sharesAs a0 a1 s = some r → zKp zm_m_sharesAs ΛM dd [.ref 0, .int a0, .int a1] s (some (.int r.1), r.2)) (a0 : Int32) (a1 : Int32) (s : zSt) (r : Int32 × zSt) (hf : b_m_sharesAs c_m_sharesAs a0 a1 s = some r) : zKp zm_m_sharesAs ΛM (dd + 1) [.ref 0, .int a0, .int a1] s (some (.int r.1), r.2) := by
  refine zKp_of zmk_m_sharesAs rfl ?_
  show zWA _ _ _ _ _ [(0, .ref 0), (1, .int a0), (2, .int a1)] _ _
  refine zB zlokM 2 (pc' := 2) (ls' := [(0, .ref 0), (1, .int a0), (2, .int a1)]) (st' := [.int 3, .int a0]) (s' := s) rfl ?_
  refine zCeq hf (tgt := 10) rfl (by decide) (fun hc hf => ?_) (fun hc hf => ?_)
  · refine zB zlokM 2 (pc' := 13) (ls' := [(0, .ref 0), (1, .int a0), (2, .int a1)]) (st' := [.int 40, .ref 0]) (s' := s) rfl ?_
    refine zXV hf (As := [.int 40]) (rest := []) 1 zmk_m_begins zok_m_begins zl_1352 rfl rfl rfl rfl (zdr (by omega) rfl) rfl rfl rfl (fun _ e => k_m_begins _ _ _ e) (fun x1 hf => ?_)
    refine zB zlokM 3 (pc' := 19) (ls' := [(0, .ref 0), (1, .int a0), (2, .int a1)]) (st' := [.int a1, .int 2, .ref 0]) (s' := x1) rfl ?_
    refine zXI hf (As := [.int 2, .int a1]) (rest := []) 2 zmk_m_sharesAs zok_m_sharesAs zl_1360 rfl rfl rfl rfl (zdr (by omega) rfl) rfl rfl rfl (fun _ e => hk_m_sharesAs _ _ _ _ e) (fun x2 hf => ?_)
    refine zB zlokM 2 (pc' := 24) (ls' := [(0, .ref 0), (1, .int a0), (2, .int a1)]) (st' := [.int (x2.1 * 3)]) (s' := x2.2) rfl ?_
    exact zRetI hf rfl rfl
  · refine zB zlokM 2 (pc' := 7) (ls' := [(0, .ref 0), (1, .int a0), (2, .int a1)]) (st' := [.int 5, .int a0]) (s' := s) rfl ?_
    refine zCne hf (tgt := 25) rfl (by decide) (fun hc hf => ?_) (fun hc hf => ?_)
    · refine zB zlokM 2 (pc' := 13) (ls' := [(0, .ref 0), (1, .int a0), (2, .int a1)]) (st' := [.int 40, .ref 0]) (s' := s) rfl ?_
      refine zXV hf (As := [.int 40]) (rest := []) 1 zmk_m_begins zok_m_begins zl_1352 rfl rfl rfl rfl (zdr (by omega) rfl) rfl rfl rfl (fun _ e => k_m_begins _ _ _ e) (fun x3 hf => ?_)
      refine zB zlokM 3 (pc' := 19) (ls' := [(0, .ref 0), (1, .int a0), (2, .int a1)]) (st' := [.int a1, .int 2, .ref 0]) (s' := x3) rfl ?_
      refine zXI hf (As := [.int 2, .int a1]) (rest := []) 2 zmk_m_sharesAs zok_m_sharesAs zl_1360 rfl rfl rfl rfl (zdr (by omega) rfl) rfl rfl rfl (fun _ e => hk_m_sharesAs _ _ _ _ e) (fun x4 hf => ?_)
      refine zB zlokM 2 (pc' := 24) (ls' := [(0, .ref 0), (1, .int a0), (2, .int a1)]) (st' := [.int (x4.1 * 3)]) (s' := x4.2) rfl ?_
      exact zRetI hf rfl rfl
    · refine zB zlokM 2 (pc' := 27) (ls' := [(0, .ref 0), (1, .int a0), (2, .int a1)]) (st' := [.int 4, .int a0]) (s' := s) rfl ?_
      refine zCeq hf (tgt := 36) rfl (by decide) (fun hc hf => ?_) (fun hc hf => ?_)
      · refine zLoc [0, 2] rfl ?_
        exact c_f_m_sharesAs_36 _ hdd hk_m_sharesAs _ _ hf
      · refine zB zlokM 2 (pc' := 33) (ls' := [(0, .ref 0), (1, .int a0), (2, .int a1)]) (st' := [.int 7, .int a0]) (s' := s) rfl ?_
        refine zCne hf (tgt := 61) rfl (by decide) (fun hc hf => ?_) (fun hc hf => ?_)
        · refine zLoc [0, 2] rfl ?_
          exact c_f_m_sharesAs_36 _ hdd hk_m_sharesAs _ _ hf
        · refine zB zlokM 2 (pc' := 64) (ls' := [(0, .ref 0), (1, .int a0), (2, .int a1)]) (st' := [.int 11, .ref 0]) (s' := s) rfl ?_
          refine zXV hf (As := [.int 11]) (rest := []) 1 zmk_m_begins zok_m_begins zl_1352 rfl rfl rfl rfl (zdr (by omega) rfl) rfl rfl rfl (fun _ e => k_m_begins _ _ _ e) (fun x5 hf => ?_)
          refine zB zlokM 4 (pc' := 73) (ls' := [(0, .ref 0), (1, .int a0), (2, .int a1)]) (st' := [.int (a1 ^^^ (x5.1 0 46))]) (s' := x5) rfl ?_
          exact zRetI hf rfl rfl
theorem K_sr : ∀ n : Nat, ∀ a b s r, F_sr n a b s = some r → zKp zm_m_sharesAs ΛM (n + 30) [.ref 0, .int a, .int b] s (some (.int r.1), r.2)
  | 0 => fun _ _ _ _ h => (by cases h)
  | n + 1 => by
    have h0 := K_sr n
    have e : n + 1 + 30 = n + 30 + 1 := by omega
    rw [e]
    exact fun a b s r h => kb_m_sharesAs _ (by omega) h0 a b s r h
theorem k_m_sharesAs (a0 a1 : Int32) (s : zSt) (r : Int32 × zSt) (hf : f_m_sharesAs a0 a1 s = some r) : zKp zm_m_sharesAs ΛM 50 [.ref 0, .int a0, .int a1] s (some (.int r.1), r.2) := K_sr 20 a0 a1 s r hf
