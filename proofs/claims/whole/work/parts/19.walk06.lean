/-! contracts: m_isPlace m_isFt m_heat m_isShelf m_heats m_place m_flow m_stand m_mayBe m_mend m_jugCost m_of m_feed m_byteAt m_wrong m_takes m_nameOf m_either m_both m_compared -/
set_option maxRecDepth 20000 in
theorem k_m_isPlace (a0 : Int32) (s : zSt) (r : Int32 × zSt) (hf : f_m_isPlace a0 s = some r) : zKp zm_m_isPlace ΛM 1 [.ref 0, .int a0] s (some (.int r.1), r.2) := by
  refine zKp_of zmk_m_isPlace rfl ?_
  show zWA _ _ _ _ _ [(0, .ref 0), (1, .int a0)] _ _
  refine zB zlokM 8 (pc' := 10) (ls' := [(0, .ref 0), (1, .int a0)]) (st' := [.long (((s.1 0 8) - 1) : Int32).toInt64, .long 0, .long (a0 : Int32).toInt64]) (s' := s) rfl ?_
  refine zSI hf (As := [.long (a0 : Int32).toInt64, .long 0, .long (((s.1 0 8) - 1) : Int32).toInt64]) (rest := []) 3 zmk_m_within zok_m_within zl_1072 rfl rfl rfl rfl rfl (fun _ e => k_m_within _ _ _ _ _ e) (fun x1 hf => ?_)
  exact zRetZb hf rfl rfl
set_option maxRecDepth 20000 in
theorem k_m_isFt (a0 : Int32) (s : zSt) (r : Int32 × zSt) (hf : f_m_isFt a0 s = some r) : zKp zm_m_isFt ΛM 2 [.int a0] s (some (.int r.1), r.2) := by
  refine zKp_of zmk_m_isFt rfl ?_
  show zWA _ _ _ _ _ [(0, .int a0)] _ _
  refine zB zlokM 1 (pc' := 1) (ls' := [(0, .int a0)]) (st' := [.int a0]) (s' := s) rfl ?_
  refine zIlt hf (tgt := 29) rfl (by decide) (fun hc hf => ?_) (fun hc hf => ?_)
  · refine zB zlokM 1 (pc' := 30) (ls' := [(0, .int a0)]) (st' := [.int 0]) (s' := s) rfl ?_
    exact zRetZc hf (by decide) rfl rfl
  · refine zB zlokM 6 (pc' := 12) (ls' := [(0, .int a0)]) (st' := [.int (zrem a0 100), .int (a0 / 100)]) (s' := s) rfl ?_
    refine zCgt hf (tgt := 29) rfl (by decide) (fun hc hf => ?_) (fun hc hf => ?_)
    · refine zB zlokM 1 (pc' := 30) (ls' := [(0, .int a0)]) (st' := [.int 0]) (s' := s) rfl ?_
      exact zRetZc hf (by decide) rfl rfl
    · refine zB zlokM 3 (pc' := 19) (ls' := [(0, .int a0)]) (st' := [.int (zrem a0 100)]) (s' := s) rfl ?_
      refine zSI hf (As := [.int (zrem a0 100)]) (rest := []) 1 zmk_m_isQuarter zok_m_isQuarter zl_1068 rfl rfl rfl rfl rfl (fun _ e => k_m_isQuarter _ _ _ e) (fun x1 hf => ?_)
      refine zIeq hf (tgt := 29) rfl (by decide) (fun hc hf => ?_) (fun hc hf => ?_)
      · refine zB zlokM 1 (pc' := 30) (ls' := [(0, .int a0)]) (st' := [.int 0]) (s' := x1.2) rfl ?_
        exact zRetZc hf (by decide) rfl rfl
      · refine zB zlokM 1 (pc' := 26) (ls' := [(0, .int a0)]) (st' := [.int 1]) (s' := x1.2) rfl ?_
        refine zGoto (tgt := 30) rfl (by decide) ?_
        exact zRetZc hf (by decide) rfl rfl
set_option maxRecDepth 20000 in
theorem k_m_heat (a0 : Int32) (a1 : Int32) (s : zSt) (r : Int32 × zSt) (hf : f_m_heat a0 a1 s = some r) : zKp zm_m_heat ΛM 2 [.ref 0, .int a0, .int a1] s (some (.int r.1), r.2) := by
  refine zKp_of zmk_m_heat rfl ?_
  show zWA _ _ _ _ _ [(0, .ref 0), (1, .int a0), (2, .int a1)] _ _
  refine zB zlokM 1 (pc' := 1) (ls' := [(0, .ref 0), (1, .int a0), (2, .int a1)]) (st' := [.int a0]) (s' := s) rfl ?_
  refine zSI hf (As := [.int a0]) (rest := []) 1 zmk_m_isQuarter zok_m_isQuarter zl_1068 rfl rfl rfl rfl rfl (fun _ e => k_m_isQuarter _ _ _ e) (fun x1 hf => ?_)
  refine zIeq hf (tgt := 19) rfl (by decide) (fun hc hf => ?_) (fun hc hf => ?_)
  · refine zB zlokM 1 (pc' := 20) (ls' := [(0, .ref 0), (1, .int a0), (2, .int a1)]) (st' := [.int (-1)]) (s' := x1.2) rfl ?_
    exact zRetI hf rfl rfl
  · refine zB zlokM 4 (pc' := 13) (ls' := [(0, .ref 0), (1, .int a0), (2, .int a1)]) (st' := [.long 40, .long 0, .long (a1 : Int32).toInt64]) (s' := x1.2) rfl ?_
    refine zSI hf (As := [.long (a1 : Int32).toInt64, .long 0, .long 40]) (rest := []) 3 zmk_m_within zok_m_within zl_1072 rfl rfl rfl rfl rfl (fun _ e => k_m_within _ _ _ _ _ e) (fun x2 hf => ?_)
    refine zIne hf (tgt := 21) rfl (by decide) (fun hc hf => ?_) (fun hc hf => ?_)
    · refine zB zlokM 1 (pc' := 20) (ls' := [(0, .ref 0), (1, .int a0), (2, .int a1)]) (st' := [.int (-1)]) (s' := x2.2) rfl ?_
      exact zRetI hf rfl rfl
    · refine zB zlokM 3 (pc' := 26) (ls' := [(0, .ref 0), (1, .int a0), (2, .int a1)]) (st' := [.int a0, .ref 5]) (s' := x2.2) rfl ?_
      refine zIald hf rfl (by rfl) (fun x3 hf => ?_)
      refine zB zlokM 5 (pc' := 34) (ls' := [(3, .int x3), (0, .ref 0), (1, .int a0), (2, .int a1)]) (st' := [.int a1, .int a0, .ref 5]) (s' := x2.2) rfl ?_
      refine zIast hf rfl (by rfl) (fun s4 hf => ?_)
      refine zB zlokM 1 (pc' := 36) (ls' := [(3, .int x3), (0, .ref 0), (1, .int a0), (2, .int a1)]) (st' := [.int x3]) (s' := s4) rfl ?_
      exact zRetI hf rfl rfl
set_option maxRecDepth 20000 in
theorem k_m_isShelf (a0 : Int32) (s : zSt) (r : Int32 × zSt) (hf : f_m_isShelf a0 s = some r) : zKp zm_m_isShelf ΛM 1 [.int a0] s (some (.int r.1), r.2) := by
  refine zKp_of zmk_m_isShelf rfl ?_
  show zWA _ _ _ _ _ [(0, .int a0)] _ _
  refine zB zlokM 4 (pc' := 6) (ls' := [(0, .int a0)]) (st' := [.long 5, .long 0, .long (a0 : Int32).toInt64]) (s' := s) rfl ?_
  refine zSI hf (As := [.long (a0 : Int32).toInt64, .long 0, .long 5]) (rest := []) 3 zmk_m_within zok_m_within zl_1072 rfl rfl rfl rfl rfl (fun _ e => k_m_within _ _ _ _ _ e) (fun x1 hf => ?_)
  exact zRetZb hf rfl rfl
set_option maxRecDepth 20000 in
theorem c_f_m_heats_157 {r : Int32 × zSt} (k86 : Int32 → Int32 → Int32 → Int32 → Int32 → zSt → Option (Int32 × zSt)) (hk86 : ∀ (v1 : Int32) (v2 : Int32) (v3 : Int32) (v4 : Int32) (v5 : Int32) (s : zSt), k86 v1 v2 v3 v4 v5 s = some r → zWA zm_m_heats ΛM 2 (some (.int r.1), r.2) 86 [(0, .ref 0), (1, .int v1), (2, .int v2), (3, .int v3), (4, .int v4), (5, .int v5)] [] s) : ∀ (v1 : Int32) (v2 : Int32) (v3 : Int32) (v4 : Int32) (w0 : Int32) (s : zSt), f_m_heats_157 k86 v1 v2 v3 v4 w0 s = some r → zWA zm_m_heats ΛM 2 (some (.int r.1), r.2) 157 [(0, .ref 0), (1, .int v1), (2, .int v2), (3, .int v3), (4, .int v4)] [.int w0] s := by
  intro v1 v2 v3 v4 w0 s hf
  refine zB zlokM 2 (pc' := 161) (ls' := [(5, .int w0), (0, .ref 0), (1, .int v1), (2, .int v2), (3, .int v3), (4, .int v4)]) (st' := [.int w0]) (s' := s) rfl ?_
  refine zIeq hf (tgt := 86) rfl (by decide) (fun hc hf => ?_) (fun hc hf => ?_)
  · refine zLoc [1, 2, 3, 4, 5, 0] rfl ?_
    exact hk86 _ _ _ _ _ _ hf
  · refine zB zlokM 16 (pc' := 188) (ls' := [(5, .int w0), (0, .ref 0), (1, .int v1), (2, .int v2), (3, .int v3), (4, .int v4)]) (st' := [.int (((60 * v1) + v2) + v4), .ref 28, .int ((v3 / 100) + v4), .ref 5]) (s' := s) rfl ?_
    refine zLald hf rfl (by rfl) (fun x11 hf => ?_)
    refine zB zlokM 1 (pc' := 190) (ls' := [(5, .int w0), (0, .ref 0), (1, .int v1), (2, .int v2), (3, .int v3), (4, .int v4)]) (st' := [.int (x11 : Int64).toInt32, .int ((v3 / 100) + v4), .ref 5]) (s' := s) rfl ?_
    refine zIast hf rfl (by rfl) (fun s12 hf => ?_)
    refine zB zlokM 1 (pc' := 194) (ls' := [(4, .int (v4 + 1)), (5, .int w0), (0, .ref 0), (1, .int v1), (2, .int v2), (3, .int v3)]) (st' := []) (s' := s12) rfl ?_
    refine zGoto (tgt := 86) rfl (by decide) ?_
    refine zLoc [2, 3, 4, 5, 0, 1] rfl ?_
    exact hk86 _ _ _ _ _ _ hf
set_option maxRecDepth 20000 in
theorem c_f_m_heats_156 {r : Int32 × zSt} (k86 : Int32 → Int32 → Int32 → Int32 → Int32 → zSt → Option (Int32 × zSt)) (hk86 : ∀ (v1 : Int32) (v2 : Int32) (v3 : Int32) (v4 : Int32) (v5 : Int32) (s : zSt), k86 v1 v2 v3 v4 v5 s = some r → zWA zm_m_heats ΛM 2 (some (.int r.1), r.2) 86 [(0, .ref 0), (1, .int v1), (2, .int v2), (3, .int v3), (4, .int v4), (5, .int v5)] [] s) : ∀ (v1 : Int32) (v2 : Int32) (v3 : Int32) (v4 : Int32) (s : zSt), f_m_heats_156 k86 v1 v2 v3 v4 s = some r → zWA zm_m_heats ΛM 2 (some (.int r.1), r.2) 156 [(0, .ref 0), (1, .int v1), (2, .int v2), (3, .int v3), (4, .int v4)] [] s := by
  intro v1 v2 v3 v4 s hf
  refine zB zlokM 1 (pc' := 157) (ls' := [(0, .ref 0), (1, .int v1), (2, .int v2), (3, .int v3), (4, .int v4)]) (st' := [.int 0]) (s' := s) rfl ?_
  refine zLoc [0, 1, 2, 3, 4] rfl ?_
  exact c_f_m_heats_157 _ hk86 _ _ _ _ _ _ hf
set_option maxRecDepth 20000 in
theorem c_f_m_heats_86 {r : Int32 × zSt} : ∀ (n : Nat) (v1 : Int32) (v2 : Int32) (v3 : Int32) (v4 : Int32) (v5 : Int32) (s : zSt), f_m_heats_86 n v1 v2 v3 v4 v5 s = some r → zWA zm_m_heats ΛM 2 (some (.int r.1), r.2) 86 [(0, .ref 0), (1, .int v1), (2, .int v2), (3, .int v3), (4, .int v4), (5, .int v5)] [] s := by
  intro n
  induction n with
  | zero => intro v1 v2 v3 v4 v5 s hf; cases hf
  | succ n ih =>
    intro v1 v2 v3 v4 v5 s hf
    refine zB zlokM 1 (pc' := 88) (ls' := [(0, .ref 0), (1, .int v1), (2, .int v2), (3, .int v3), (4, .int v4), (5, .int v5)]) (st' := [.int v5]) (s' := s) rfl ?_
    refine zIeq hf (tgt := 197) rfl (by decide) (fun hc hf => ?_) (fun hc hf => ?_)
    · refine zB zlokM 1 (pc' := 199) (ls' := [(0, .ref 0), (1, .int v1), (2, .int v2), (3, .int v3), (4, .int v4), (5, .int v5)]) (st' := [.int v4]) (s' := s) rfl ?_
      exact zRetI hf rfl rfl
    · refine zB zlokM 4 (pc' := 97) (ls' := [(0, .ref 0), (1, .int v1), (2, .int v2), (3, .int v3), (4, .int v4), (5, .int v5)]) (st' := [.int (zrem v3 100), .int v4]) (s' := s) rfl ?_
      refine zCge hf (tgt := 197) rfl (by decide) (fun hc hf => ?_) (fun hc hf => ?_)
      · refine zB zlokM 1 (pc' := 199) (ls' := [(0, .ref 0), (1, .int v1), (2, .int v2), (3, .int v3), (4, .int v4), (5, .int v5)]) (st' := [.int v4]) (s' := s) rfl ?_
        exact zRetI hf rfl rfl
      · refine zB zlokM 4 (pc' := 106) (ls' := [(0, .ref 0), (1, .int v1), (2, .int v2), (3, .int v3), (4, .int v4), (5, .int v5)]) (st' := [.int v1, .ref 27, .int v2]) (s' := s) rfl ?_
        refine zIald hf rfl (by rfl) (fun x7 hf => ?_)
        refine zB zlokM 4 (pc' := 112) (ls' := [(0, .ref 0), (1, .int v1), (2, .int v2), (3, .int v3), (4, .int v4), (5, .int v5)]) (st' := [.int ((x7 - 1) - v4), .int v2]) (s' := s) rfl ?_
        refine zCgt hf (tgt := 156) rfl (by decide) (fun hc hf => ?_) (fun hc hf => ?_)
        · refine zLoc [0, 1, 2, 3, 4] rfl ?_
          exact c_f_m_heats_156 _ ih _ _ _ _ _ hf
        · refine zB zlokM 5 (pc' := 122) (ls' := [(0, .ref 0), (1, .int v1), (2, .int v2), (3, .int v3), (4, .int v4), (5, .int v5)]) (st' := [.int ((v3 / 100) + v4)]) (s' := s) rfl ?_
          refine zSI hf (As := [.int ((v3 / 100) + v4)]) (rest := []) 1 zmk_m_isQuarter zok_m_isQuarter zl_1068 rfl rfl rfl rfl rfl (fun _ e => k_m_isQuarter _ _ _ e) (fun x8 hf => ?_)
          refine zIeq hf (tgt := 156) rfl (by decide) (fun hc hf => ?_) (fun hc hf => ?_)
          · refine zLoc [0, 1, 2, 3, 4] rfl ?_
            exact c_f_m_heats_156 _ ih _ _ _ _ _ hf
          · refine zB zlokM 9 (pc' := 141) (ls' := [(0, .ref 0), (1, .int v1), (2, .int v2), (3, .int v3), (4, .int v4), (5, .int v5)]) (st' := [.int (((60 * v1) + v2) + v4), .ref 28]) (s' := x8.2) rfl ?_
            refine zLald hf rfl (by rfl) (fun x9 hf => ?_)
            refine zB zlokM 2 (pc' := 146) (ls' := [(0, .ref 0), (1, .int v1), (2, .int v2), (3, .int v3), (4, .int v4), (5, .int v5)]) (st' := [.long 40, .long 0, .long x9]) (s' := x8.2) rfl ?_
            refine zSI hf (As := [.long x9, .long 0, .long 40]) (rest := []) 3 zmk_m_within zok_m_within zl_1072 rfl rfl rfl rfl rfl (fun _ e => k_m_within _ _ _ _ _ e) (fun x10 hf => ?_)
            refine zIeq hf (tgt := 156) rfl (by decide) (fun hc hf => ?_) (fun hc hf => ?_)
            · refine zLoc [0, 1, 2, 3, 4] rfl ?_
              exact c_f_m_heats_156 _ ih _ _ _ _ _ hf
            · refine zB zlokM 1 (pc' := 153) (ls' := [(0, .ref 0), (1, .int v1), (2, .int v2), (3, .int v3), (4, .int v4), (5, .int v5)]) (st' := [.int 1]) (s' := x10.2) rfl ?_
              refine zGoto (tgt := 157) rfl (by decide) ?_
              refine zLoc [0, 1, 2, 3, 4] rfl ?_
              exact c_f_m_heats_157 _ ih _ _ _ _ _ _ hf
set_option maxRecDepth 20000 in
theorem c_f_m_heats_61 {r : Int32 × zSt} : ∀ (v1 : Int32) (v2 : Int32) (v3 : Int32) (s : zSt), f_m_heats_61 v1 v2 v3 s = some r → zWA zm_m_heats ΛM 2 (some (.int r.1), r.2) 61 [(0, .ref 0), (1, .int v1), (2, .int v2), (3, .int v3)] [] s := by
  intro v1 v2 v3 s hf
  refine zB zlokM 5 (pc' := 69) (ls' := [(4, .int 0), (0, .ref 0), (1, .int v1), (2, .int v2), (3, .int v3)]) (st' := [.int v1, .ref 26]) (s' := s) rfl ?_
  refine zIald hf rfl (by rfl) (fun x6 hf => ?_)
  refine zB zlokM 1 (pc' := 72) (ls' := [(4, .int 0), (0, .ref 0), (1, .int v1), (2, .int v2), (3, .int v3)]) (st' := [.int 50, .int x6]) (s' := s) rfl ?_
  refine zCne hf (tgt := 83) rfl (by decide) (fun hc hf => ?_) (fun hc hf => ?_)
  · refine zB zlokM 1 (pc' := 76) (ls' := [(4, .int 0), (0, .ref 0), (1, .int v1), (2, .int v2), (3, .int v3)]) (st' := [.int v2]) (s' := s) rfl ?_
    refine zIlt hf (tgt := 83) rfl (by decide) (fun hc hf => ?_) (fun hc hf => ?_)
    · refine zB zlokM 2 (pc' := 86) (ls' := [(5, .int 0), (4, .int 0), (0, .ref 0), (1, .int v1), (2, .int v2), (3, .int v3)]) (st' := []) (s' := s) rfl ?_
      refine zLoc [2, 3, 4, 5, 1, 0] rfl ?_
      exact c_f_m_heats_86 zFu _ _ _ _ _ _ hf
    · refine zB zlokM 1 (pc' := 80) (ls' := [(4, .int 0), (0, .ref 0), (1, .int v1), (2, .int v2), (3, .int v3)]) (st' := [.int 1]) (s' := s) rfl ?_
      refine zGoto (tgt := 84) rfl (by decide) ?_
      refine zB zlokM 1 (pc' := 86) (ls' := [(5, .int 1), (4, .int 0), (0, .ref 0), (1, .int v1), (2, .int v2), (3, .int v3)]) (st' := []) (s' := s) rfl ?_
      refine zLoc [2, 3, 4, 5, 1, 0] rfl ?_
      exact c_f_m_heats_86 zFu _ _ _ _ _ _ hf
  · refine zB zlokM 2 (pc' := 86) (ls' := [(5, .int 0), (4, .int 0), (0, .ref 0), (1, .int v1), (2, .int v2), (3, .int v3)]) (st' := []) (s' := s) rfl ?_
    refine zLoc [2, 3, 4, 5, 1, 0] rfl ?_
    exact c_f_m_heats_86 zFu _ _ _ _ _ _ hf
set_option maxRecDepth 20000 in
theorem k_m_heats (a0 : Int32) (a1 : Int32) (a2 : Int32) (s : zSt) (r : Int32 × zSt) (hf : f_m_heats a0 a1 a2 s = some r) : zKp zm_m_heats ΛM 2 [.ref 0, .int a0, .int a1, .int a2] s (some (.int r.1), r.2) := by
  refine zKp_of zmk_m_heats rfl ?_
  show zWA _ _ _ _ _ [(0, .ref 0), (1, .int a0), (2, .int a1), (3, .int a2)] _ _
  refine zB zlokM 1 (pc' := 1) (ls' := [(0, .ref 0), (1, .int a0), (2, .int a1), (3, .int a2)]) (st' := [.int a0]) (s' := s) rfl ?_
  refine zSI hf (As := [.int a0]) (rest := []) 1 zmk_m_isShelf zok_m_isShelf zl_1080 rfl rfl rfl rfl rfl (fun _ e => k_m_isShelf _ _ _ e) (fun x1 hf => ?_)
  refine zIeq hf (tgt := 36) rfl (by decide) (fun hc hf => ?_) (fun hc hf => ?_)
  · refine zB zlokM 1 (pc' := 37) (ls' := [(0, .ref 0), (1, .int a0), (2, .int a1), (3, .int a2)]) (st' := [.int (-1)]) (s' := x1.2) rfl ?_
    exact zRetI hf rfl rfl
  · refine zB zlokM 1 (pc' := 8) (ls' := [(0, .ref 0), (1, .int a0), (2, .int a1), (3, .int a2)]) (st' := [.int a2]) (s' := x1.2) rfl ?_
    refine zIlt hf (tgt := 36) rfl (by decide) (fun hc hf => ?_) (fun hc hf => ?_)
    · refine zB zlokM 1 (pc' := 37) (ls' := [(0, .ref 0), (1, .int a0), (2, .int a1), (3, .int a2)]) (st' := [.int (-1)]) (s' := x1.2) rfl ?_
      exact zRetI hf rfl rfl
    · refine zB zlokM 3 (pc' := 15) (ls' := [(0, .ref 0), (1, .int a0), (2, .int a1), (3, .int a2)]) (st' := [.int (a2 / 100)]) (s' := x1.2) rfl ?_
      refine zSI hf (As := [.int (a2 / 100)]) (rest := []) 1 zmk_m_isQuarter zok_m_isQuarter zl_1068 rfl rfl rfl rfl rfl (fun _ e => k_m_isQuarter _ _ _ e) (fun x2 hf => ?_)
      refine zIeq hf (tgt := 36) rfl (by decide) (fun hc hf => ?_) (fun hc hf => ?_)
      · refine zB zlokM 1 (pc' := 37) (ls' := [(0, .ref 0), (1, .int a0), (2, .int a1), (3, .int a2)]) (st' := [.int (-1)]) (s' := x2.2) rfl ?_
        exact zRetI hf rfl rfl
      · refine zB zlokM 6 (pc' := 30) (ls' := [(0, .ref 0), (1, .int a0), (2, .int a1), (3, .int a2)]) (st' := [.long 32, .long 1, .long ((zrem a2 100) : Int32).toInt64]) (s' := x2.2) rfl ?_
        refine zSI hf (As := [.long ((zrem a2 100) : Int32).toInt64, .long 1, .long 32]) (rest := []) 3 zmk_m_within zok_m_within zl_1072 rfl rfl rfl rfl rfl (fun _ e => k_m_within _ _ _ _ _ e) (fun x3 hf => ?_)
        refine zIne hf (tgt := 38) rfl (by decide) (fun hc hf => ?_) (fun hc hf => ?_)
        · refine zB zlokM 1 (pc' := 37) (ls' := [(0, .ref 0), (1, .int a0), (2, .int a1), (3, .int a2)]) (st' := [.int (-1)]) (s' := x3.2) rfl ?_
          exact zRetI hf rfl rfl
        · refine zB zlokM 3 (pc' := 43) (ls' := [(0, .ref 0), (1, .int a0), (2, .int a1), (3, .int a2)]) (st' := [.int a0, .ref 26]) (s' := x3.2) rfl ?_
          refine zIald hf rfl (by rfl) (fun x4 hf => ?_)
          refine zIlt hf (tgt := 61) rfl (by decide) (fun hc hf => ?_) (fun hc hf => ?_)
          · refine zLoc [0, 1, 2, 3] rfl ?_
            exact c_f_m_heats_61 _ _ _ _ hf
          · refine zB zlokM 3 (pc' := 52) (ls' := [(0, .ref 0), (1, .int a0), (2, .int a1), (3, .int a2)]) (st' := [.int a0, .ref 26]) (s' := x3.2) rfl ?_
            refine zIald hf rfl (by rfl) (fun x5 hf => ?_)
            refine zB zlokM 1 (pc' := 55) (ls' := [(0, .ref 0), (1, .int a0), (2, .int a1), (3, .int a2)]) (st' := [.int 50, .int x5]) (s' := x3.2) rfl ?_
            refine zCeq hf (tgt := 61) rfl (by decide) (fun hc hf => ?_) (fun hc hf => ?_)
            · refine zLoc [0, 1, 2, 3] rfl ?_
              exact c_f_m_heats_61 _ _ _ _ hf
            · refine zB zlokM 1 (pc' := 60) (ls' := [(0, .ref 0), (1, .int a0), (2, .int a1), (3, .int a2)]) (st' := [.int (-12)]) (s' := x3.2) rfl ?_
              exact zRetI hf rfl rfl
set_option maxRecDepth 20000 in
theorem k_m_place (s : zSt) (r : Int32 × zSt) (hf : f_m_place s = some r) : zKp zm_m_place ΛM 0 [.ref 0] s (some (.int r.1), r.2) := by
  refine zKp_of zmk_m_place rfl ?_
  show zWA _ _ _ _ _ [(0, .ref 0)] _ _
  refine zB zlokM 3 (pc' := 5) (ls' := [(0, .ref 0)]) (st' := [.int 4, .int (s.1 0 8)]) (s' := s) rfl ?_
  refine zCne hf (tgt := 11) rfl (by decide) (fun hc hf => ?_) (fun hc hf => ?_)
  · refine zB zlokM 1 (pc' := 10) (ls' := [(0, .ref 0)]) (st' := [.int (-3)]) (s' := s) rfl ?_
    exact zRetI hf rfl rfl
  · refine zB zlokM 10 (pc' := 27) (ls' := [(0, .ref 0)]) (st' := [.int (((zw s 0 8 ((s.1 0 8) + 1)).1 0 8) - 1)]) (s' := (zw s 0 8 ((s.1 0 8) + 1))) rfl ?_
    exact zRetI hf rfl rfl
set_option maxRecDepth 20000 in
theorem c_f_m_flow_35 {r : Int32 × zSt} : ∀ (n : Nat) (v1 : Int32) (v2 : Int32) (v3 : Int32) (v4 : Int32) (s : zSt), f_m_flow_35 n v1 v2 v3 v4 s = some r → zWA zm_m_flow ΛM 3 (some (.int r.1), r.2) 35 [(0, .ref 0), (1, .int v1), (2, .int v2), (3, .int v3), (4, .int v4)] [] s := by
  intro n
  induction n with
  | zero => intro v1 v2 v3 v4 s hf; cases hf
  | succ n ih =>
    intro v1 v2 v3 v4 s hf
    refine zB zlokM 4 (pc' := 41) (ls' := [(0, .ref 0), (1, .int v1), (2, .int v2), (3, .int v3), (4, .int v4)]) (st' := [.int (zrem v2 100), .int v4]) (s' := s) rfl ?_
    refine zCgt hf (tgt := 63) rfl (by decide) (fun hc hf => ?_) (fun hc hf => ?_)
    · refine zB zlokM 9 (pc' := 74) (ls' := [(0, .ref 0), (1, .int v1), (2, .int v2), (3, .int v3), (4, .int v4)]) (st' := [.int (((zrem v2 100) - (v2 / 100)) + 1)]) (s' := s) rfl ?_
      exact zRetI hf rfl rfl
    · refine zB zlokM 8 (pc' := 56) (ls' := [(0, .ref 0), (1, .int v1), (2, .int v2), (3, .int v3), (4, .int v4)]) (st' := [.int v3, .int ((32 * v1) + v4), .ref 7]) (s' := s) rfl ?_
      refine zIast hf rfl (by rfl) (fun s4 hf => ?_)
      refine zB zlokM 1 (pc' := 60) (ls' := [(4, .int (v4 + 1)), (0, .ref 0), (1, .int v1), (2, .int v2), (3, .int v3)]) (st' := []) (s' := s4) rfl ?_
      refine zGoto (tgt := 35) rfl (by decide) ?_
      refine zLoc [1, 2, 3, 4, 0] rfl ?_
      exact ih _ _ _ _ _ hf
set_option maxRecDepth 20000 in
theorem k_m_flow (a0 : Int32) (a1 : Int32) (a2 : Int32) (s : zSt) (r : Int32 × zSt) (hf : f_m_flow a0 a1 a2 s = some r) : zKp zm_m_flow ΛM 3 [.ref 0, .int a0, .int a1, .int a2] s (some (.int r.1), r.2) := by
  refine zKp_of zmk_m_flow rfl ?_
  show zWA _ _ _ _ _ [(0, .ref 0), (1, .int a0), (2, .int a1), (3, .int a2)] _ _
  refine zB zlokM 2 (pc' := 2) (ls' := [(0, .ref 0), (1, .int a0), (2, .int a1), (3, .int a2)]) (st' := [.int a0, .ref 0]) (s' := s) rfl ?_
  refine zXI hf (As := [.int a0]) (rest := []) 1 zmk_m_isPlace zok_m_isPlace zl_1093 rfl rfl rfl rfl rfl rfl rfl rfl (fun _ e => k_m_isPlace _ _ _ e) (fun x1 hf => ?_)
  refine zIeq hf (tgt := 27) rfl (by decide) (fun hc hf => ?_) (fun hc hf => ?_)
  · refine zB zlokM 1 (pc' := 28) (ls' := [(0, .ref 0), (1, .int a0), (2, .int a1), (3, .int a2)]) (st' := [.int (-1)]) (s' := x1.2) rfl ?_
    exact zRetI hf rfl rfl
  · refine zB zlokM 1 (pc' := 9) (ls' := [(0, .ref 0), (1, .int a0), (2, .int a1), (3, .int a2)]) (st' := [.int a1]) (s' := x1.2) rfl ?_
    refine zSI hf (As := [.int a1]) (rest := []) 1 zmk_m_isFt zok_m_isFt zl_1097 rfl rfl rfl rfl rfl (fun _ e => k_m_isFt _ _ _ e) (fun x2 hf => ?_)
    refine zIeq hf (tgt := 27) rfl (by decide) (fun hc hf => ?_) (fun hc hf => ?_)
    · refine zB zlokM 1 (pc' := 28) (ls' := [(0, .ref 0), (1, .int a0), (2, .int a1), (3, .int a2)]) (st' := [.int (-1)]) (s' := x2.2) rfl ?_
      exact zRetI hf rfl rfl
    · refine zB zlokM 4 (pc' := 21) (ls' := [(0, .ref 0), (1, .int a0), (2, .int a1), (3, .int a2)]) (st' := [.long 9, .long 0, .long (a2 : Int32).toInt64]) (s' := x2.2) rfl ?_
      refine zSI hf (As := [.long (a2 : Int32).toInt64, .long 0, .long 9]) (rest := []) 3 zmk_m_within zok_m_within zl_1072 rfl rfl rfl rfl rfl (fun _ e => k_m_within _ _ _ _ _ e) (fun x3 hf => ?_)
      refine zIne hf (tgt := 29) rfl (by decide) (fun hc hf => ?_) (fun hc hf => ?_)
      · refine zB zlokM 1 (pc' := 28) (ls' := [(0, .ref 0), (1, .int a0), (2, .int a1), (3, .int a2)]) (st' := [.int (-1)]) (s' := x3.2) rfl ?_
        exact zRetI hf rfl rfl
      · refine zB zlokM 4 (pc' := 35) (ls' := [(4, .int (a1 / 100)), (0, .ref 0), (1, .int a0), (2, .int a1), (3, .int a2)]) (st' := []) (s' := x3.2) rfl ?_
        refine zLoc [1, 2, 3, 4, 0] rfl ?_
        exact c_f_m_flow_35 zFu _ _ _ _ _ hf
set_option maxRecDepth 20000 in
theorem c_f_m_stand_27 {r : Int32 × zSt} : ∀ (n : Nat) (v1 : Int32) (v2 : Int32) (v3 : Int32) (s : zSt), f_m_stand_27 n v1 v2 v3 s = some r → zWA zm_m_stand ΛM 3 (some (.int r.1), r.2) 27 [(0, .ref 0), (1, .int v1), (2, .int v2), (3, .int v3)] [] s := by
  intro n
  induction n with
  | zero => intro v1 v2 v3 s hf; cases hf
  | succ n ih =>
    intro v1 v2 v3 s hf
    refine zB zlokM 4 (pc' := 32) (ls' := [(0, .ref 0), (1, .int v1), (2, .int v2), (3, .int v3)]) (st' := [.int (zrem v2 100), .int v3]) (s' := s) rfl ?_
    refine zCgt hf (tgt := 48) rfl (by decide) (fun hc hf => ?_) (fun hc hf => ?_)
    · refine zB zlokM 9 (pc' := 59) (ls' := [(0, .ref 0), (1, .int v1), (2, .int v2), (3, .int v3)]) (st' := [.int (((zrem v2 100) - (v2 / 100)) + 1)]) (s' := s) rfl ?_
      exact zRetI hf rfl rfl
    · refine zB zlokM 4 (pc' := 41) (ls' := [(0, .ref 0), (1, .int v1), (2, .int v2), (3, .int v3)]) (st' := [.int v1, .int v3, .ref 6]) (s' := s) rfl ?_
      refine zIast hf rfl (by rfl) (fun s4 hf => ?_)
      refine zB zlokM 1 (pc' := 45) (ls' := [(3, .int (v3 + 1)), (0, .ref 0), (1, .int v1), (2, .int v2)]) (st' := []) (s' := s4) rfl ?_
      refine zGoto (tgt := 27) rfl (by decide) ?_
      refine zLoc [1, 2, 3, 0] rfl ?_
      exact ih _ _ _ _ hf
set_option maxRecDepth 20000 in
theorem k_m_stand (a0 : Int32) (a1 : Int32) (s : zSt) (r : Int32 × zSt) (hf : f_m_stand a0 a1 s = some r) : zKp zm_m_stand ΛM 3 [.ref 0, .int a0, .int a1] s (some (.int r.1), r.2) := by
  refine zKp_of zmk_m_stand rfl ?_
  show zWA _ _ _ _ _ [(0, .ref 0), (1, .int a0), (2, .int a1)] _ _
  refine zB zlokM 2 (pc' := 2) (ls' := [(0, .ref 0), (1, .int a0), (2, .int a1)]) (st' := [.int (-1), .int a0]) (s' := s) rfl ?_
  refine zCeq hf (tgt := 13) rfl (by decide) (fun hc hf => ?_) (fun hc hf => ?_)
  · refine zB zlokM 1 (pc' := 14) (ls' := [(0, .ref 0), (1, .int a0), (2, .int a1)]) (st' := [.int a1]) (s' := s) rfl ?_
    refine zSI hf (As := [.int a1]) (rest := []) 1 zmk_m_isFt zok_m_isFt zl_1097 rfl rfl rfl rfl rfl (fun _ e => k_m_isFt _ _ _ e) (fun x1 hf => ?_)
    refine zIne hf (tgt := 22) rfl (by decide) (fun hc hf => ?_) (fun hc hf => ?_)
    · refine zB zlokM 1 (pc' := 21) (ls' := [(0, .ref 0), (1, .int a0), (2, .int a1)]) (st' := [.int (-1)]) (s' := x1.2) rfl ?_
      exact zRetI hf rfl rfl
    · refine zB zlokM 4 (pc' := 27) (ls' := [(3, .int (a1 / 100)), (0, .ref 0), (1, .int a0), (2, .int a1)]) (st' := []) (s' := x1.2) rfl ?_
      refine zLoc [1, 2, 3, 0] rfl ?_
      exact c_f_m_stand_27 zFu _ _ _ _ hf
  · refine zB zlokM 2 (pc' := 7) (ls' := [(0, .ref 0), (1, .int a0), (2, .int a1)]) (st' := [.int a0, .ref 0]) (s' := s) rfl ?_
    refine zXI hf (As := [.int a0]) (rest := []) 1 zmk_m_isPlace zok_m_isPlace zl_1093 rfl rfl rfl rfl rfl rfl rfl rfl (fun _ e => k_m_isPlace _ _ _ e) (fun x2 hf => ?_)
    refine zIeq hf (tgt := 20) rfl (by decide) (fun hc hf => ?_) (fun hc hf => ?_)
    · refine zB zlokM 1 (pc' := 21) (ls' := [(0, .ref 0), (1, .int a0), (2, .int a1)]) (st' := [.int (-1)]) (s' := x2.2) rfl ?_
      exact zRetI hf rfl rfl
    · refine zB zlokM 1 (pc' := 14) (ls' := [(0, .ref 0), (1, .int a0), (2, .int a1)]) (st' := [.int a1]) (s' := x2.2) rfl ?_
      refine zSI hf (As := [.int a1]) (rest := []) 1 zmk_m_isFt zok_m_isFt zl_1097 rfl rfl rfl rfl rfl (fun _ e => k_m_isFt _ _ _ e) (fun x3 hf => ?_)
      refine zIne hf (tgt := 22) rfl (by decide) (fun hc hf => ?_) (fun hc hf => ?_)
      · refine zB zlokM 1 (pc' := 21) (ls' := [(0, .ref 0), (1, .int a0), (2, .int a1)]) (st' := [.int (-1)]) (s' := x3.2) rfl ?_
        exact zRetI hf rfl rfl
      · refine zB zlokM 4 (pc' := 27) (ls' := [(3, .int (a1 / 100)), (0, .ref 0), (1, .int a0), (2, .int a1)]) (st' := []) (s' := x3.2) rfl ?_
        refine zLoc [1, 2, 3, 0] rfl ?_
        exact c_f_m_stand_27 zFu _ _ _ _ hf
set_option maxRecDepth 20000 in
theorem k_m_mayBe (a0 : Int32) (a1 : Int32) (s : zSt) (r : Int32 × zSt) (hf : f_m_mayBe a0 a1 s = some r) : zKp zm_m_mayBe ΛM 1 [.int a0, .int a1] s (some (.int r.1), r.2) := by
  refine zKp_of zmk_m_mayBe rfl ?_
  show zWA _ _ _ _ _ [(0, .int a0), (1, .int a1)] _ _
  refine zB zlokM 1 (pc' := 1) (ls' := [(0, .int a0), (1, .int a1)]) (st' := [.int a0]) (s' := s) rfl ?_
  refine zIte hf (fun hc hf => ?_) (fun hc hf => ?_)
  · refine zTabOut (tgt := 98) hc rfl (by decide) ?_
    refine zB zlokM 1 (pc' := 99) (ls' := [(0, .int a0), (1, .int a1)]) (st' := [.int 0]) (s' := s) rfl ?_
    exact zRetZc hf (by decide) rfl rfl
  · refine zIte hf (fun hc hf => ?_) (fun hc hf => ?_)
    · refine zTabIn (tgt := 48) 0 hc rfl (by decide) (by decide) rfl (by decide) ?_
      refine zB zlokM 4 (pc' := 54) (ls' := [(0, .int a0), (1, .int a1)]) (st' := [.long 9, .long 0, .long (a1 : Int32).toInt64]) (s' := s) rfl ?_
      refine zSI hf (As := [.long (a1 : Int32).toInt64, .long 0, .long 9]) (rest := []) 3 zmk_m_within zok_m_within zl_1072 rfl rfl rfl rfl rfl (fun _ e => k_m_within _ _ _ _ _ e) (fun x1 hf => ?_)
      exact zRetZb hf rfl rfl
    · refine zIte hf (fun hc hf => ?_) (fun hc hf => ?_)
      · refine zTabIn (tgt := 48) 1 hc rfl (by decide) (by decide) rfl (by decide) ?_
        refine zB zlokM 4 (pc' := 54) (ls' := [(0, .int a0), (1, .int a1)]) (st' := [.long 9, .long 0, .long (a1 : Int32).toInt64]) (s' := s) rfl ?_
        refine zSI hf (As := [.long (a1 : Int32).toInt64, .long 0, .long 9]) (rest := []) 3 zmk_m_within zok_m_within zl_1072 rfl rfl rfl rfl rfl (fun _ e => k_m_within _ _ _ _ _ e) (fun x2 hf => ?_)
        exact zRetZb hf rfl rfl
      · refine zIte hf (fun hc hf => ?_) (fun hc hf => ?_)
        · refine zTabIn (tgt := 58) 2 hc rfl (by decide) (by decide) rfl (by decide) ?_
          refine zB zlokM 4 (pc' := 64) (ls' := [(0, .int a0), (1, .int a1)]) (st' := [.long 20, .long 1, .long (a1 : Int32).toInt64]) (s' := s) rfl ?_
          refine zSI hf (As := [.long (a1 : Int32).toInt64, .long 1, .long 20]) (rest := []) 3 zmk_m_within zok_m_within zl_1072 rfl rfl rfl rfl rfl (fun _ e => k_m_within _ _ _ _ _ e) (fun x3 hf => ?_)
          exact zRetZb hf rfl rfl
        · refine zIte hf (fun hc hf => ?_) (fun hc hf => ?_)
          · refine zTabIn (tgt := 68) 3 hc rfl (by decide) (by decide) rfl (by decide) ?_
            refine zB zlokM 4 (pc' := 74) (ls' := [(0, .int a0), (1, .int a1)]) (st' := [.long 50, .long 0, .long (a1 : Int32).toInt64]) (s' := s) rfl ?_
            refine zSI hf (As := [.long (a1 : Int32).toInt64, .long 0, .long 50]) (rest := []) 3 zmk_m_within zok_m_within zl_1072 rfl rfl rfl rfl rfl (fun _ e => k_m_within _ _ _ _ _ e) (fun x4 hf => ?_)
            exact zRetZb hf rfl rfl
          · refine zIte hf (fun hc hf => ?_) (fun hc hf => ?_)
            · refine zTabIn (tgt := 68) 4 hc rfl (by decide) (by decide) rfl (by decide) ?_
              refine zB zlokM 4 (pc' := 74) (ls' := [(0, .int a0), (1, .int a1)]) (st' := [.long 50, .long 0, .long (a1 : Int32).toInt64]) (s' := s) rfl ?_
              refine zSI hf (As := [.long (a1 : Int32).toInt64, .long 0, .long 50]) (rest := []) 3 zmk_m_within zok_m_within zl_1072 rfl rfl rfl rfl rfl (fun _ e => k_m_within _ _ _ _ _ e) (fun x5 hf => ?_)
              exact zRetZb hf rfl rfl
            · refine zIte hf (fun hc hf => ?_) (fun hc hf => ?_)
              · refine zTabIn (tgt := 78) 5 hc rfl (by decide) (by decide) rfl (by decide) ?_
                refine zB zlokM 4 (pc' := 84) (ls' := [(0, .int a0), (1, .int a1)]) (st' := [.long 32, .long 1, .long (a1 : Int32).toInt64]) (s' := s) rfl ?_
                refine zSI hf (As := [.long (a1 : Int32).toInt64, .long 1, .long 32]) (rest := []) 3 zmk_m_within zok_m_within zl_1072 rfl rfl rfl rfl rfl (fun _ e => k_m_within _ _ _ _ _ e) (fun x6 hf => ?_)
                exact zRetZb hf rfl rfl
              · refine zIte hf (fun hc hf => ?_) (fun hc hf => ?_)
                · refine zTabIn (tgt := 88) 6 hc rfl (by decide) (by decide) rfl (by decide) ?_
                  refine zB zlokM 4 (pc' := 94) (ls' := [(0, .int a0), (1, .int a1)]) (st' := [.long 12, .long 0, .long (a1 : Int32).toInt64]) (s' := s) rfl ?_
                  refine zSI hf (As := [.long (a1 : Int32).toInt64, .long 0, .long 12]) (rest := []) 3 zmk_m_within zok_m_within zl_1072 rfl rfl rfl rfl rfl (fun _ e => k_m_within _ _ _ _ _ e) (fun x7 hf => ?_)
                  exact zRetZb hf rfl rfl
                · refine zIte hf (fun hc hf => ?_) (fun hc hf => ?_)
                  · refine zTabIn (tgt := 48) 7 hc rfl (by decide) (by decide) rfl (by decide) ?_
                    refine zB zlokM 4 (pc' := 54) (ls' := [(0, .int a0), (1, .int a1)]) (st' := [.long 9, .long 0, .long (a1 : Int32).toInt64]) (s' := s) rfl ?_
                    refine zSI hf (As := [.long (a1 : Int32).toInt64, .long 0, .long 9]) (rest := []) 3 zmk_m_within zok_m_within zl_1072 rfl rfl rfl rfl rfl (fun _ e => k_m_within _ _ _ _ _ e) (fun x8 hf => ?_)
                    exact zRetZb hf rfl rfl
                  · cases hf
set_option maxRecDepth 20000 in
theorem k_m_mend (a0 : Int32) (a1 : Int32) (s : zSt) (r : Int32 × zSt) (hf : f_m_mend a0 a1 s = some r) : zKp zm_m_mend ΛM 2 [.ref 0, .int a0, .int a1] s (some (.int r.1), r.2) := by
  refine zKp_of zmk_m_mend rfl ?_
  show zWA _ _ _ _ _ [(0, .ref 0), (1, .int a0), (2, .int a1)] _ _
  refine zB zlokM 2 (pc' := 2) (ls' := [(0, .ref 0), (1, .int a0), (2, .int a1)]) (st' := [.int a1, .int a0]) (s' := s) rfl ?_
  refine zSI hf (As := [.int a0, .int a1]) (rest := []) 2 zmk_m_mayBe zok_m_mayBe zl_1109 rfl rfl rfl rfl rfl (fun _ e => k_m_mayBe _ _ _ _ e) (fun x1 hf => ?_)
  refine zIeq hf (tgt := 17) rfl (by decide) (fun hc hf => ?_) (fun hc hf => ?_)
  · refine zB zlokM 1 (pc' := 18) (ls' := [(0, .ref 0), (1, .int a0), (2, .int a1)]) (st' := [.int (-1)]) (s' := x1.2) rfl ?_
    exact zRetI hf rfl rfl
  · refine zB zlokM 3 (pc' := 11) (ls' := [(0, .ref 0), (1, .int a0), (2, .int a1)]) (st' := [.int a1, .int a0, .ref 0]) (s' := x1.2) rfl ?_
    refine zXI hf (As := [.int a0, .int a1]) (rest := []) 2 zmk_m_becomes zok_m_becomes zl_1115 rfl rfl rfl rfl rfl rfl rfl rfl (fun _ e => k_m_becomes _ _ _ _ e) (fun x2 hf => ?_)
    refine zGoto (tgt := 18) rfl (by decide) ?_
    exact zRetI hf rfl rfl
set_option maxRecDepth 20000 in
theorem k_m_jugCost (s : zSt) (r : Int32 × zSt) (hf : f_m_jugCost s = some r) : zKp zm_m_jugCost ΛM 0 [.ref 0] s (some (.int r.1), r.2) := by
  refine zKp_of zmk_m_jugCost rfl ?_
  show zWA _ _ _ _ _ [(0, .ref 0)] _ _
  refine zB zlokM 4 (pc' := 6) (ls' := [(0, .ref 0)]) (st' := [.int 0, .ref 1, .int 3]) (s' := s) rfl ?_
  refine zIald hf rfl (by rfl) (fun x1 hf => ?_)
  refine zB zlokM 4 (pc' := 13) (ls' := [(0, .ref 0)]) (st' := [.int 1, .ref 1, .int (3 * x1)]) (s' := s) rfl ?_
  refine zIald hf rfl (by rfl) (fun x2 hf => ?_)
  refine zB zlokM 1 (pc' := 15) (ls' := [(0, .ref 0)]) (st' := [.int ((3 * x1) + x2)]) (s' := s) rfl ?_
  exact zRetI hf rfl rfl
set_option maxRecDepth 20000 in
theorem k_m_of (a0 : Int32) (s : zSt) (r : Int32 × zSt) (hf : f_m_of a0 s = some r) : zKp zm_m_of ΛM 2 [.ref 0, .int a0] s (some (.int r.1), r.2) := by
  refine zKp_of zmk_m_of rfl ?_
  show zWA _ _ _ _ _ [(0, .ref 0), (1, .int a0)] _ _
  refine zB zlokM 4 (pc' := 6) (ls' := [(0, .ref 0), (1, .int a0)]) (st' := [.long 7, .long 0, .long (a0 : Int32).toInt64]) (s' := s) rfl ?_
  refine zSI hf (As := [.long (a0 : Int32).toInt64, .long 0, .long 7]) (rest := []) 3 zmk_m_within zok_m_within zl_1072 rfl rfl rfl rfl rfl (fun _ e => k_m_within _ _ _ _ _ e) (fun x1 hf => ?_)
  refine zIeq hf (tgt := 19) rfl (by decide) (fun hc hf => ?_) (fun hc hf => ?_)
  · refine zB zlokM 4 (pc' := 27) (ls' := [(0, .ref 0), (1, .int a0)]) (st' := [.long 9, .long 8, .long (a0 : Int32).toInt64]) (s' := x1.2) rfl ?_
    refine zSI hf (As := [.long (a0 : Int32).toInt64, .long 8, .long 9]) (rest := []) 3 zmk_m_within zok_m_within zl_1072 rfl rfl rfl rfl rfl (fun _ e => k_m_within _ _ _ _ _ e) (fun x2 hf => ?_)
    refine zIeq hf (tgt := 58) rfl (by decide) (fun hc hf => ?_) (fun hc hf => ?_)
    · refine zB zlokM 2 (pc' := 62) (ls' := [(0, .ref 0), (1, .int a0)]) (st' := [.int 1000, .int a0]) (s' := x2.2) rfl ?_
      refine zClt hf (tgt := 112) rfl (by decide) (fun hc hf => ?_) (fun hc hf => ?_)
      · refine zB zlokM 4 (pc' := 120) (ls' := [(0, .ref 0), (1, .int a0)]) (st' := [.long 299, .long 100, .long (a0 : Int32).toInt64]) (s' := x2.2) rfl ?_
        refine zSI hf (As := [.long (a0 : Int32).toInt64, .long 100, .long 299]) (rest := []) 3 zmk_m_within zok_m_within zl_1072 rfl rfl rfl rfl rfl (fun _ e => k_m_within _ _ _ _ _ e) (fun x3 hf => ?_)
        refine zIeq hf (tgt := 136) rfl (by decide) (fun hc hf => ?_) (fun hc hf => ?_)
        · refine zB zlokM 1 (pc' := 138) (ls' := [(0, .ref 0), (1, .int a0)]) (st' := [.int (-2000000000)]) (s' := x3.2) rfl ?_
          exact zRetI hf rfl rfl
        · refine zB zlokM 3 (pc' := 130) (ls' := [(0, .ref 0), (1, .int a0)]) (st' := [.int (zrem a0 100)]) (s' := x3.2) rfl ?_
          refine zSI hf (As := [.int (zrem a0 100)]) (rest := []) 1 zmk_m_isQuarter zok_m_isQuarter zl_1068 rfl rfl rfl rfl rfl (fun _ e => k_m_isQuarter _ _ _ e) (fun x4 hf => ?_)
          refine zIne hf (tgt := 139) rfl (by decide) (fun hc hf => ?_) (fun hc hf => ?_)
          · refine zB zlokM 1 (pc' := 138) (ls' := [(0, .ref 0), (1, .int a0)]) (st' := [.int (-2000000000)]) (s' := x4.2) rfl ?_
            exact zRetI hf rfl rfl
          · refine zB zlokM 2 (pc' := 143) (ls' := [(0, .ref 0), (1, .int a0)]) (st' := [.int 200, .int a0]) (s' := x4.2) rfl ?_
            refine zCge hf (tgt := 158) rfl (by decide) (fun hc hf => ?_) (fun hc hf => ?_)
            · refine zB zlokM 5 (pc' := 167) (ls' := [(0, .ref 0), (1, .int a0)]) (st' := [.int (a0 - 200), .ref 6]) (s' := x4.2) rfl ?_
              refine zIald hf rfl (by rfl) (fun x5 hf => ?_)
              exact zRetI hf rfl rfl
            · refine zB zlokM 5 (pc' := 154) (ls' := [(0, .ref 0), (1, .int a0)]) (st' := [.int (a0 - 100), .ref 5]) (s' := x4.2) rfl ?_
              refine zIald hf rfl (by rfl) (fun x6 hf => ?_)
              refine zGoto (tgt := 168) rfl (by decide) ?_
              exact zRetI hf rfl rfl
      · refine zB zlokM 8 (pc' := 76) (ls' := [(2, .int ((a0 - 1000) / 100)), (0, .ref 0), (1, .int a0)]) (st' := [.int ((a0 - 1000) / 100), .ref 0]) (s' := x2.2) rfl ?_
        refine zXI hf (As := [.int ((a0 - 1000) / 100)]) (rest := []) 1 zmk_m_isPlace zok_m_isPlace zl_1093 rfl rfl rfl rfl rfl rfl rfl rfl (fun _ e => k_m_isPlace _ _ _ e) (fun x7 hf => ?_)
        refine zIeq hf (tgt := 109) rfl (by decide) (fun hc hf => ?_) (fun hc hf => ?_)
        · refine zB zlokM 1 (pc' := 111) (ls' := [(2, .int ((a0 - 1000) / 100)), (0, .ref 0), (1, .int a0)]) (st' := [.int (-2000000000)]) (s' := x7.2) rfl ?_
          exact zRetI hf rfl rfl
        · refine zB zlokM 3 (pc' := 86) (ls' := [(2, .int ((a0 - 1000) / 100)), (0, .ref 0), (1, .int a0)]) (st' := [.int (zrem a0 100)]) (s' := x7.2) rfl ?_
          refine zSI hf (As := [.int (zrem a0 100)]) (rest := []) 1 zmk_m_isQuarter zok_m_isQuarter zl_1068 rfl rfl rfl rfl rfl (fun _ e => k_m_isQuarter _ _ _ e) (fun x8 hf => ?_)
          refine zIeq hf (tgt := 109) rfl (by decide) (fun hc hf => ?_) (fun hc hf => ?_)
          · refine zB zlokM 1 (pc' := 111) (ls' := [(2, .int ((a0 - 1000) / 100)), (0, .ref 0), (1, .int a0)]) (st' := [.int (-2000000000)]) (s' := x8.2) rfl ?_
            exact zRetI hf rfl rfl
          · refine zB zlokM 9 (pc' := 105) (ls' := [(2, .int ((a0 - 1000) / 100)), (0, .ref 0), (1, .int a0)]) (st' := [.int ((32 * ((a0 - 1000) / 100)) + (zrem a0 100)), .ref 7]) (s' := x8.2) rfl ?_
            refine zIald hf rfl (by rfl) (fun x9 hf => ?_)
            refine zGoto (tgt := 111) rfl (by decide) ?_
            exact zRetI hf rfl rfl
    · refine zB zlokM 2 (pc' := 36) (ls' := [(0, .ref 0), (1, .int a0)]) (st' := [.int 8, .int a0]) (s' := x2.2) rfl ?_
      refine zCne hf (tgt := 46) rfl (by decide) (fun hc hf => ?_) (fun hc hf => ?_)
      · refine zB zlokM 1 (pc' := 40) (ls' := [(0, .ref 0), (1, .int a0)]) (st' := [.ref 0]) (s' := x2.2) rfl ?_
        refine zXI hf (As := []) (rest := []) 0 zmk_m_jugCost zok_m_jugCost zl_1125 rfl rfl rfl rfl rfl rfl rfl rfl (fun _ e => k_m_jugCost _ _ e) (fun x10 hf => ?_)
        refine zGoto (tgt := 57) rfl (by decide) ?_
        exact zRetI hf rfl rfl
      · refine zB zlokM 1 (pc' := 47) (ls' := [(0, .ref 0), (1, .int a0)]) (st' := [.ref 0]) (s' := x2.2) rfl ?_
        refine zXI hf (As := []) (rest := []) 0 zmk_m_jugCost zok_m_jugCost zl_1125 rfl rfl rfl rfl rfl rfl rfl rfl (fun _ e => k_m_jugCost _ _ e) (fun x11 hf => ?_)
        refine zB zlokM 3 (pc' := 55) (ls' := [(0, .ref 0), (1, .int a0)]) (st' := [.int 2, .ref 1, .int x11.1]) (s' := x11.2) rfl ?_
        refine zIald hf rfl (by rfl) (fun x12 hf => ?_)
        refine zDiv hf rfl (fun x13 hf => ?_)
        exact zRetI hf rfl rfl
  · refine zB zlokM 3 (pc' := 17) (ls' := [(0, .ref 0), (1, .int a0)]) (st' := [.int a0, .ref 1]) (s' := x1.2) rfl ?_
    refine zIald hf rfl (by rfl) (fun x14 hf => ?_)
    exact zRetI hf rfl rfl
set_option maxRecDepth 20000 in
theorem k_m_feed (a0 : Int32) (s : zSt) (r : Int32 × zSt) (hf : f_m_feed a0 s = some r) : zKp zm_m_feed ΛM 1 [.ref 0, .int a0] s (some (.int r.1), r.2) := by
  refine zKp_of zmk_m_feed rfl ?_
  show zWA _ _ _ _ _ [(0, .ref 0), (1, .int a0)] _ _
  refine zB zlokM 4 (pc' := 6) (ls' := [(0, .ref 0), (1, .int a0)]) (st' := [.long 255, .long 0, .long (a0 : Int32).toInt64]) (s' := s) rfl ?_
  refine zSI hf (As := [.long (a0 : Int32).toInt64, .long 0, .long 255]) (rest := []) 3 zmk_m_within zok_m_within zl_1072 rfl rfl rfl rfl rfl (fun _ e => k_m_within _ _ _ _ _ e) (fun x1 hf => ?_)
  refine zIne hf (tgt := 14) rfl (by decide) (fun hc hf => ?_) (fun hc hf => ?_)
  · refine zB zlokM 1 (pc' := 13) (ls' := [(0, .ref 0), (1, .int a0)]) (st' := [.int (-1)]) (s' := x1.2) rfl ?_
    exact zRetI hf rfl rfl
  · refine zB zlokM 3 (pc' := 20) (ls' := [(0, .ref 0), (1, .int a0)]) (st' := [.int 120, .int (x1.2.1 0 11)]) (s' := x1.2) rfl ?_
    refine zCne hf (tgt := 26) rfl (by decide) (fun hc hf => ?_) (fun hc hf => ?_)
    · refine zB zlokM 1 (pc' := 25) (ls' := [(0, .ref 0), (1, .int a0)]) (st' := [.int (-3)]) (s' := x1.2) rfl ?_
      exact zRetI hf rfl rfl
    · refine zB zlokM 5 (pc' := 35) (ls' := [(0, .ref 0), (1, .int a0)]) (st' := [.int a0, .int (x1.2.1 0 11), .ref 8]) (s' := x1.2) rfl ?_
      refine zIast hf rfl (by rfl) (fun s2 hf => ?_)
      refine zB zlokM 8 (pc' := 50) (ls' := [(0, .ref 0), (1, .int a0)]) (st' := [.int ((zw s2 0 11 ((s2.1 0 11) + 1)).1 0 11)]) (s' := (zw s2 0 11 ((s2.1 0 11) + 1))) rfl ?_
      exact zRetI hf rfl rfl
set_option maxRecDepth 20000 in
theorem k_m_byteAt (s : zSt) (r : Int32 × zSt) (hf : f_m_byteAt s = some r) : zKp zm_m_byteAt ΛM 0 [.ref 0] s (some (.int r.1), r.2) := by
  refine zKp_of zmk_m_byteAt rfl ?_
  show zWA _ _ _ _ _ [(0, .ref 0)] _ _
  refine zB zlokM 4 (pc' := 8) (ls' := [(0, .ref 0)]) (st' := [.int (s.1 0 16), .int (s.1 0 15)]) (s' := s) rfl ?_
  refine zCge hf (tgt := 47) rfl (by decide) (fun hc hf => ?_) (fun hc hf => ?_)
  · refine zB zlokM 1 (pc' := 48) (ls' := [(0, .ref 0)]) (st' := [.int 0]) (s' := s) rfl ?_
    exact zRetI hf rfl rfl
  · refine zB zlokM 2 (pc' := 15) (ls' := [(0, .ref 0)]) (st' := [.int (s.1 0 14)]) (s' := s) rfl ?_
    refine zIge hf (tgt := 30) rfl (by decide) (fun hc hf => ?_) (fun hc hf => ?_)
    · refine zB zlokM 7 (pc' := 43) (ls' := [(0, .ref 0)]) (st' := [.int ((s.1 0 14) + (s.1 0 15)), .ref 9]) (s' := s) rfl ?_
      refine zIald hf rfl (by rfl) (fun x1 hf => ?_)
      refine zGoto (tgt := 48) rfl (by decide) ?_
      exact zRetI hf rfl rfl
    · refine zB zlokM 4 (pc' := 26) (ls' := [(0, .ref 0)]) (st' := [.int (s.1 0 15), .ref 8]) (s' := s) rfl ?_
      refine zIald hf rfl (by rfl) (fun x2 hf => ?_)
      refine zGoto (tgt := 48) rfl (by decide) ?_
      exact zRetI hf rfl rfl
set_option maxRecDepth 20000 in
theorem k_m_wrong (s : zSt) (r : Int32 × zSt) (hf : f_m_wrong s = some r) : zKp zm_m_wrong ΛM 0 [.ref 0] s (some (.int r.1), r.2) := by
  refine zKp_of zmk_m_wrong rfl ?_
  show zWA _ _ _ _ _ [(0, .ref 0)] _ _
  refine zB zlokM 3 (pc' := 5) (ls' := [(0, .ref 0)]) (st' := [.int (s.1 0 17), .ref 0]) (s' := s) rfl ?_
  refine zIge hf (tgt := 15) rfl (by decide) (fun hc hf => ?_) (fun hc hf => ?_)
  · refine zB zlokM 4 (pc' := 23) (ls' := [(0, .ref 0)]) (st' := [.int 0]) (s' := (zw s 0 17 (s.1 0 17))) rfl ?_
    exact zRetI hf rfl rfl
  · refine zB zlokM 2 (pc' := 12) (ls' := [(0, .ref 0)]) (st' := [.int (s.1 0 15), .ref 0]) (s' := s) rfl ?_
    refine zGoto (tgt := 19) rfl (by decide) ?_
    refine zB zlokM 2 (pc' := 23) (ls' := [(0, .ref 0)]) (st' := [.int 0]) (s' := (zw s 0 17 (s.1 0 15))) rfl ?_
    exact zRetI hf rfl rfl
set_option maxRecDepth 20000 in
theorem k_m_takes (a0 : Int32) (s : zSt) (r : Int32 × zSt) (hf : f_m_takes a0 s = some r) : zKp zm_m_takes ΛM 1 [.ref 0, .int a0] s (some (.int r.1), r.2) := by
  refine zKp_of zmk_m_takes rfl ?_
  show zWA _ _ _ _ _ [(0, .ref 0), (1, .int a0)] _ _
  refine zB zlokM 2 (pc' := 4) (ls' := [(0, .ref 0), (1, .int a0)]) (st' := [.int (s.1 0 17)]) (s' := s) rfl ?_
  refine zIge hf (tgt := 15) rfl (by decide) (fun hc hf => ?_) (fun hc hf => ?_)
  · refine zB zlokM 1 (pc' := 16) (ls' := [(0, .ref 0), (1, .int a0)]) (st' := [.int 0]) (s' := s) rfl ?_
    exact zRetZc hf (by decide) rfl rfl
  · refine zB zlokM 1 (pc' := 8) (ls' := [(0, .ref 0), (1, .int a0)]) (st' := [.ref 0]) (s' := s) rfl ?_
    refine zXI hf (As := []) (rest := []) 0 zmk_m_byteAt zok_m_byteAt zl_1169 rfl rfl rfl rfl rfl rfl rfl rfl (fun _ e => k_m_byteAt _ _ e) (fun x1 hf => ?_)
    refine zB zlokM 1 (pc' := 12) (ls' := [(0, .ref 0), (1, .int a0)]) (st' := [.int a0, .int x1.1]) (s' := x1.2) rfl ?_
    refine zCeq hf (tgt := 17) rfl (by decide) (fun hc hf => ?_) (fun hc hf => ?_)
    · refine zB zlokM 7 (pc' := 28) (ls' := [(0, .ref 0), (1, .int a0)]) (st' := [.int 1]) (s' := (zw x1.2 0 15 ((x1.2.1 0 15) + 1))) rfl ?_
      exact zRetZc hf (by decide) rfl rfl
    · refine zB zlokM 1 (pc' := 16) (ls' := [(0, .ref 0), (1, .int a0)]) (st' := [.int 0]) (s' := x1.2) rfl ?_
      exact zRetZc hf (by decide) rfl rfl
set_option maxRecDepth 20000 in
theorem k_m_nameOf (a0 : Int32) (s : zSt) (r : Int32 × zSt) (hf : f_m_nameOf a0 s = some r) : zKp zm_m_nameOf ΛM 0 [.int a0] s (some (.int r.1), r.2) := by
  refine zKp_of zmk_m_nameOf rfl ?_
  show zWA _ _ _ _ _ [(0, .int a0)] _ _
  refine zB zlokM 1 (pc' := 1) (ls' := [(0, .int a0)]) (st' := [.int a0]) (s' := s) rfl ?_
  refine zIte hf (fun hc hf => ?_) (fun hc hf => ?_)
  · refine zTabOut (tgt := 117) hc rfl (by decide) ?_
    refine zB zlokM 1 (pc' := 118) (ls' := [(0, .int a0)]) (st' := [.int (-1)]) (s' := s) rfl ?_
    exact zRetI hf rfl rfl
  · refine zIte hf (fun hc hf => ?_) (fun hc hf => ?_)
    · refine zTabIn (tgt := 102) 97 hc rfl (by decide) (by decide) rfl (by decide) ?_
      refine zB zlokM 1 (pc' := 103) (ls' := [(0, .int a0)]) (st' := [.int 3]) (s' := s) rfl ?_
      exact zRetI hf rfl rfl
    · refine zIte hf (fun hc hf => ?_) (fun hc hf => ?_)
      · refine zTabIn (tgt := 111) 98 hc rfl (by decide) (by decide) rfl (by decide) ?_
        refine zB zlokM 1 (pc' := 113) (ls' := [(0, .int a0)]) (st' := [.int 7]) (s' := s) rfl ?_
        exact zRetI hf rfl rfl
      · refine zIte hf (fun hc hf => ?_) (fun hc hf => ?_)
        · refine zTabIn (tgt := 117) 99 hc rfl (by decide) (by decide) rfl (by decide) ?_
          refine zB zlokM 1 (pc' := 118) (ls' := [(0, .int a0)]) (st' := [.int (-1)]) (s' := s) rfl ?_
          exact zRetI hf rfl rfl
        · refine zIte hf (fun hc hf => ?_) (fun hc hf => ?_)
          · refine zTabIn (tgt := 117) 100 hc rfl (by decide) (by decide) rfl (by decide) ?_
            refine zB zlokM 1 (pc' := 118) (ls' := [(0, .int a0)]) (st' := [.int (-1)]) (s' := s) rfl ?_
            exact zRetI hf rfl rfl
          · refine zIte hf (fun hc hf => ?_) (fun hc hf => ?_)
            · refine zTabIn (tgt := 117) 101 hc rfl (by decide) (by decide) rfl (by decide) ?_
              refine zB zlokM 1 (pc' := 118) (ls' := [(0, .int a0)]) (st' := [.int (-1)]) (s' := s) rfl ?_
              exact zRetI hf rfl rfl
            · refine zIte hf (fun hc hf => ?_) (fun hc hf => ?_)
              · refine zTabIn (tgt := 117) 102 hc rfl (by decide) (by decide) rfl (by decide) ?_
                refine zB zlokM 1 (pc' := 118) (ls' := [(0, .int a0)]) (st' := [.int (-1)]) (s' := s) rfl ?_
                exact zRetI hf rfl rfl
              · refine zIte hf (fun hc hf => ?_) (fun hc hf => ?_)
                · refine zTabIn (tgt := 100) 103 hc rfl (by decide) (by decide) rfl (by decide) ?_
                  refine zB zlokM 1 (pc' := 101) (ls' := [(0, .int a0)]) (st' := [.int 2]) (s' := s) rfl ?_
                  exact zRetI hf rfl rfl
                · refine zIte hf (fun hc hf => ?_) (fun hc hf => ?_)
                  · refine zTabIn (tgt := 104) 104 hc rfl (by decide) (by decide) rfl (by decide) ?_
                    refine zB zlokM 1 (pc' := 105) (ls' := [(0, .int a0)]) (st' := [.int 4]) (s' := s) rfl ?_
                    exact zRetI hf rfl rfl
                  · refine zIte hf (fun hc hf => ?_) (fun hc hf => ?_)
                    · refine zTabIn (tgt := 117) 105 hc rfl (by decide) (by decide) rfl (by decide) ?_
                      refine zB zlokM 1 (pc' := 118) (ls' := [(0, .int a0)]) (st' := [.int (-1)]) (s' := s) rfl ?_
                      exact zRetI hf rfl rfl
                    · refine zIte hf (fun hc hf => ?_) (fun hc hf => ?_)
                      · refine zTabIn (tgt := 117) 106 hc rfl (by decide) (by decide) rfl (by decide) ?_
                        refine zB zlokM 1 (pc' := 118) (ls' := [(0, .int a0)]) (st' := [.int (-1)]) (s' := s) rfl ?_
                        exact zRetI hf rfl rfl
                      · refine zIte hf (fun hc hf => ?_) (fun hc hf => ?_)
                        · refine zTabIn (tgt := 117) 107 hc rfl (by decide) (by decide) rfl (by decide) ?_
                          refine zB zlokM 1 (pc' := 118) (ls' := [(0, .int a0)]) (st' := [.int (-1)]) (s' := s) rfl ?_
                          exact zRetI hf rfl rfl
                        · refine zIte hf (fun hc hf => ?_) (fun hc hf => ?_)
                          · refine zTabIn (tgt := 96) 108 hc rfl (by decide) (by decide) rfl (by decide) ?_
                            refine zB zlokM 1 (pc' := 97) (ls' := [(0, .int a0)]) (st' := [.int 0]) (s' := s) rfl ?_
                            exact zRetI hf rfl rfl
                          · refine zIte hf (fun hc hf => ?_) (fun hc hf => ?_)
                            · refine zTabIn (tgt := 117) 109 hc rfl (by decide) (by decide) rfl (by decide) ?_
                              refine zB zlokM 1 (pc' := 118) (ls' := [(0, .int a0)]) (st' := [.int (-1)]) (s' := s) rfl ?_
                              exact zRetI hf rfl rfl
                            · refine zIte hf (fun hc hf => ?_) (fun hc hf => ?_)
                              · refine zTabIn (tgt := 117) 110 hc rfl (by decide) (by decide) rfl (by decide) ?_
                                refine zB zlokM 1 (pc' := 118) (ls' := [(0, .int a0)]) (st' := [.int (-1)]) (s' := s) rfl ?_
                                exact zRetI hf rfl rfl
                              · refine zIte hf (fun hc hf => ?_) (fun hc hf => ?_)
                                · refine zTabIn (tgt := 117) 111 hc rfl (by decide) (by decide) rfl (by decide) ?_
                                  refine zB zlokM 1 (pc' := 118) (ls' := [(0, .int a0)]) (st' := [.int (-1)]) (s' := s) rfl ?_
                                  exact zRetI hf rfl rfl
                                · refine zIte hf (fun hc hf => ?_) (fun hc hf => ?_)
                                  · refine zTabIn (tgt := 108) 112 hc rfl (by decide) (by decide) rfl (by decide) ?_
                                    refine zB zlokM 1 (pc' := 110) (ls' := [(0, .int a0)]) (st' := [.int 6]) (s' := s) rfl ?_
                                    exact zRetI hf rfl rfl
                                  · refine zIte hf (fun hc hf => ?_) (fun hc hf => ?_)
                                    · refine zTabIn (tgt := 114) 113 hc rfl (by decide) (by decide) rfl (by decide) ?_
                                      refine zB zlokM 1 (pc' := 116) (ls' := [(0, .int a0)]) (st' := [.int 8]) (s' := s) rfl ?_
                                      exact zRetI hf rfl rfl
                                    · refine zIte hf (fun hc hf => ?_) (fun hc hf => ?_)
                                      · refine zTabIn (tgt := 117) 114 hc rfl (by decide) (by decide) rfl (by decide) ?_
                                        refine zB zlokM 1 (pc' := 118) (ls' := [(0, .int a0)]) (st' := [.int (-1)]) (s' := s) rfl ?_
                                        exact zRetI hf rfl rfl
                                      · refine zIte hf (fun hc hf => ?_) (fun hc hf => ?_)
                                        · refine zTabIn (tgt := 98) 115 hc rfl (by decide) (by decide) rfl (by decide) ?_
                                          refine zB zlokM 1 (pc' := 99) (ls' := [(0, .int a0)]) (st' := [.int 1]) (s' := s) rfl ?_
                                          exact zRetI hf rfl rfl
                                        · refine zIte hf (fun hc hf => ?_) (fun hc hf => ?_)
                                          · refine zTabIn (tgt := 106) 116 hc rfl (by decide) (by decide) rfl (by decide) ?_
                                            refine zB zlokM 1 (pc' := 107) (ls' := [(0, .int a0)]) (st' := [.int 5]) (s' := s) rfl ?_
                                            exact zRetI hf rfl rfl
                                          · cases hf
set_option maxRecDepth 20000 in
theorem c_f_m_either_5 (c_m_both : zSt → Option (Int32 × zSt)) {dd : Nat} (hdd : 9 ≤ dd) (hk_m_both : ∀ (s : zSt) (r : Int32 × zSt), c_m_both s = some r → zKp zm_m_both ΛM dd [.ref 0] s (some (.int r.1), r.2)) {r : Int32 × zSt} : ∀ (n : Nat) (v1 : Int32) (s : zSt), f_m_either_5 c_m_both n v1 s = some r → zWA zm_m_either ΛM (dd + 1) (some (.int r.1), r.2) 5 [(0, .ref 0), (1, .int v1)] [] s := by
  intro n
  induction n with
  | zero => intro v1 s hf; cases hf
  | succ n ih =>
    intro v1 s hf
    refine zB zlokM 2 (pc' := 8) (ls' := [(0, .ref 0), (1, .int v1)]) (st' := [.int 124, .ref 0]) (s' := s) rfl ?_
    refine zXI hf (As := [.int 124]) (rest := []) 1 zmk_m_takes zok_m_takes zl_1177 rfl rfl rfl rfl (zdr (by omega) rfl) rfl rfl rfl (fun _ e => k_m_takes _ _ _ e) (fun x2 hf => ?_)
    refine zIeq hf (tgt := 36) rfl (by decide) (fun hc hf => ?_) (fun hc hf => ?_)
    · refine zB zlokM 1 (pc' := 37) (ls' := [(0, .ref 0), (1, .int v1)]) (st' := [.int v1]) (s' := x2.2) rfl ?_
      exact zRetI hf rfl rfl
    · refine zB zlokM 1 (pc' := 15) (ls' := [(0, .ref 0), (1, .int v1)]) (st' := [.ref 0]) (s' := x2.2) rfl ?_
      refine zXI hf (As := []) (rest := []) 0 zmk_m_both zok_m_both zl_1149 rfl rfl rfl rfl (zdr (by omega) rfl) rfl rfl rfl (fun _ e => hk_m_both _ _ e) (fun x3 hf => ?_)
      refine zB zlokM 2 (pc' := 20) (ls' := [(2, .int x3.1), (0, .ref 0), (1, .int v1)]) (st' := [.int v1]) (s' := x3.2) rfl ?_
      refine zIne hf (tgt := 27) rfl (by decide) (fun hc hf => ?_) (fun hc hf => ?_)
      · refine zB zlokM 1 (pc' := 24) (ls' := [(2, .int x3.1), (0, .ref 0), (1, .int v1)]) (st' := [.int x3.1]) (s' := x3.2) rfl ?_
        refine zIeq hf (tgt := 31) rfl (by decide) (fun hc hf => ?_) (fun hc hf => ?_)
        · refine zB zlokM 2 (pc' := 33) (ls' := [(1, .int 0), (2, .int x3.1), (0, .ref 0)]) (st' := []) (s' := x3.2) rfl ?_
          refine zGoto (tgt := 5) rfl (by decide) ?_
          refine zLoc [2, 0] rfl ?_
          exact ih _ _ hf
        · refine zB zlokM 1 (pc' := 28) (ls' := [(2, .int x3.1), (0, .ref 0), (1, .int v1)]) (st' := [.int 1]) (s' := x3.2) rfl ?_
          refine zGoto (tgt := 32) rfl (by decide) ?_
          refine zB zlokM 1 (pc' := 33) (ls' := [(1, .int 1), (2, .int x3.1), (0, .ref 0)]) (st' := []) (s' := x3.2) rfl ?_
          refine zGoto (tgt := 5) rfl (by decide) ?_
          refine zLoc [2, 0] rfl ?_
          exact ih _ _ hf
      · refine zB zlokM 1 (pc' := 28) (ls' := [(2, .int x3.1), (0, .ref 0), (1, .int v1)]) (st' := [.int 1]) (s' := x3.2) rfl ?_
        refine zGoto (tgt := 32) rfl (by decide) ?_
        refine zB zlokM 1 (pc' := 33) (ls' := [(1, .int 1), (2, .int x3.1), (0, .ref 0)]) (st' := []) (s' := x3.2) rfl ?_
        refine zGoto (tgt := 5) rfl (by decide) ?_
        refine zLoc [2, 0] rfl ?_
        exact ih _ _ hf
set_option maxRecDepth 20000 in
theorem kb_m_either (c_m_both : zSt → Option (Int32 × zSt)) {dd : Nat} (hdd : 9 ≤ dd) (hk_m_both : ∀ (s : zSt) (r : Int32 × zSt), c_m_both s = some r → zKp zm_m_both ΛM dd [.ref 0] s (some (.int r.1), r.2)) (s : zSt) (r : Int32 × zSt) (hf : b_m_either c_m_both s = some r) : zKp zm_m_either ΛM (dd + 1) [.ref 0] s (some (.int r.1), r.2) := by
  refine zKp_of zmk_m_either rfl ?_
  show zWA _ _ _ _ _ [(0, .ref 0)] _ _
  refine zB zlokM 1 (pc' := 1) (ls' := [(0, .ref 0)]) (st' := [.ref 0]) (s' := s) rfl ?_
  refine zXI hf (As := []) (rest := []) 0 zmk_m_both zok_m_both zl_1149 rfl rfl rfl rfl (zdr (by omega) rfl) rfl rfl rfl (fun _ e => hk_m_both _ _ e) (fun x1 hf => ?_)
  refine zB zlokM 1 (pc' := 5) (ls' := [(1, .int x1.1), (0, .ref 0)]) (st' := []) (s' := x1.2) rfl ?_
  refine zLoc [1, 0] rfl ?_
  exact c_f_m_either_5 _ hdd hk_m_both zFu _ _ hf
set_option maxRecDepth 20000 in
theorem c_f_m_both_5 (c_m_compared : zSt → Option (Int32 × zSt)) {dd : Nat} (hdd : 9 ≤ dd) (hk_m_compared : ∀ (s : zSt) (r : Int32 × zSt), c_m_compared s = some r → zKp zm_m_compared ΛM dd [.ref 0] s (some (.int r.1), r.2)) {r : Int32 × zSt} : ∀ (n : Nat) (v1 : Int32) (s : zSt), f_m_both_5 c_m_compared n v1 s = some r → zWA zm_m_both ΛM (dd + 1) (some (.int r.1), r.2) 5 [(0, .ref 0), (1, .int v1)] [] s := by
  intro n
  induction n with
  | zero => intro v1 s hf; cases hf
  | succ n ih =>
    intro v1 s hf
    refine zB zlokM 2 (pc' := 8) (ls' := [(0, .ref 0), (1, .int v1)]) (st' := [.int 38, .ref 0]) (s' := s) rfl ?_
    refine zXI hf (As := [.int 38]) (rest := []) 1 zmk_m_takes zok_m_takes zl_1177 rfl rfl rfl rfl (zdr (by omega) rfl) rfl rfl rfl (fun _ e => k_m_takes _ _ _ e) (fun x2 hf => ?_)
    refine zIeq hf (tgt := 36) rfl (by decide) (fun hc hf => ?_) (fun hc hf => ?_)
    · refine zB zlokM 1 (pc' := 37) (ls' := [(0, .ref 0), (1, .int v1)]) (st' := [.int v1]) (s' := x2.2) rfl ?_
      exact zRetI hf rfl rfl
    · refine zB zlokM 1 (pc' := 15) (ls' := [(0, .ref 0), (1, .int v1)]) (st' := [.ref 0]) (s' := x2.2) rfl ?_
      refine zXI hf (As := []) (rest := []) 0 zmk_m_compared zok_m_compared zl_1153 rfl rfl rfl rfl (zdr (by omega) rfl) rfl rfl rfl (fun _ e => hk_m_compared _ _ e) (fun x3 hf => ?_)
      refine zB zlokM 2 (pc' := 20) (ls' := [(2, .int x3.1), (0, .ref 0), (1, .int v1)]) (st' := [.int v1]) (s' := x3.2) rfl ?_
      refine zIeq hf (tgt := 31) rfl (by decide) (fun hc hf => ?_) (fun hc hf => ?_)
      · refine zB zlokM 2 (pc' := 33) (ls' := [(1, .int 0), (2, .int x3.1), (0, .ref 0)]) (st' := []) (s' := x3.2) rfl ?_
        refine zGoto (tgt := 5) rfl (by decide) ?_
        refine zLoc [2, 0] rfl ?_
        exact ih _ _ hf
      · refine zB zlokM 1 (pc' := 24) (ls' := [(2, .int x3.1), (0, .ref 0), (1, .int v1)]) (st' := [.int x3.1]) (s' := x3.2) rfl ?_
        refine zIeq hf (tgt := 31) rfl (by decide) (fun hc hf => ?_) (fun hc hf => ?_)
        · refine zB zlokM 2 (pc' := 33) (ls' := [(1, .int 0), (2, .int x3.1), (0, .ref 0)]) (st' := []) (s' := x3.2) rfl ?_
          refine zGoto (tgt := 5) rfl (by decide) ?_
          refine zLoc [2, 0] rfl ?_
          exact ih _ _ hf
        · refine zB zlokM 1 (pc' := 28) (ls' := [(2, .int x3.1), (0, .ref 0), (1, .int v1)]) (st' := [.int 1]) (s' := x3.2) rfl ?_
          refine zGoto (tgt := 32) rfl (by decide) ?_
          refine zB zlokM 1 (pc' := 33) (ls' := [(1, .int 1), (2, .int x3.1), (0, .ref 0)]) (st' := []) (s' := x3.2) rfl ?_
          refine zGoto (tgt := 5) rfl (by decide) ?_
          refine zLoc [2, 0] rfl ?_
          exact ih _ _ hf
set_option maxRecDepth 20000 in
theorem kb_m_both (c_m_compared : zSt → Option (Int32 × zSt)) {dd : Nat} (hdd : 9 ≤ dd) (hk_m_compared : ∀ (s : zSt) (r : Int32 × zSt), c_m_compared s = some r → zKp zm_m_compared ΛM dd [.ref 0] s (some (.int r.1), r.2)) (s : zSt) (r : Int32 × zSt) (hf : b_m_both c_m_compared s = some r) : zKp zm_m_both ΛM (dd + 1) [.ref 0] s (some (.int r.1), r.2) := by
  refine zKp_of zmk_m_both rfl ?_
  show zWA _ _ _ _ _ [(0, .ref 0)] _ _
  refine zB zlokM 1 (pc' := 1) (ls' := [(0, .ref 0)]) (st' := [.ref 0]) (s' := s) rfl ?_
  refine zXI hf (As := []) (rest := []) 0 zmk_m_compared zok_m_compared zl_1153 rfl rfl rfl rfl (zdr (by omega) rfl) rfl rfl rfl (fun _ e => hk_m_compared _ _ e) (fun x1 hf => ?_)
  refine zB zlokM 1 (pc' := 5) (ls' := [(1, .int x1.1), (0, .ref 0)]) (st' := []) (s' := x1.2) rfl ?_
  refine zLoc [1, 0] rfl ?_
  exact c_f_m_both_5 _ hdd hk_m_compared zFu _ _ hf
set_option maxRecDepth 20000 in
theorem c_f_m_compared_37 (c_m_sums : zSt → Option (Int32 × zSt)) {dd : Nat} (hdd : 9 ≤ dd) (hk_m_sums : ∀ (s : zSt) (r : Int32 × zSt), c_m_sums s = some r → zKp zm_m_sums ΛM dd [.ref 0] s (some (.int r.1), r.2)) {r : Int32 × zSt} : ∀ (v1 : Int32) (v2 : Int32) (s : zSt), f_m_compared_37 c_m_sums v1 v2 s = some r → zWA zm_m_compared ΛM (dd + 1) (some (.int r.1), r.2) 37 [(0, .ref 0), (1, .int v1), (2, .int v2)] [] s := by
  intro v1 v2 s hf
  refine zB zlokM 7 (pc' := 48) (ls' := [(0, .ref 0), (1, .int v1), (2, .int v2)]) (st' := [.ref 0]) (s' := (zw s 0 15 ((s.1 0 15) + 1))) rfl ?_
  refine zXI hf (As := []) (rest := []) 0 zmk_m_sums zok_m_sums zl_1157 rfl rfl rfl rfl (zdr (by omega) rfl) rfl rfl rfl (fun _ e => hk_m_sums _ _ e) (fun x3 hf => ?_)
  refine zB zlokM 3 (pc' := 55) (ls' := [(3, .int x3.1), (0, .ref 0), (1, .int v1), (2, .int v2)]) (st' := [.int 60, .int v2]) (s' := x3.2) rfl ?_
  refine zCne hf (tgt := 66) rfl (by decide) (fun hc hf => ?_) (fun hc hf => ?_)
  · refine zB zlokM 2 (pc' := 60) (ls' := [(3, .int x3.1), (0, .ref 0), (1, .int v1), (2, .int v2)]) (st' := [.int x3.1, .int v1]) (s' := x3.2) rfl ?_
    refine zCge hf (tgt := 89) rfl (by decide) (fun hc hf => ?_) (fun hc hf => ?_)
    · refine zB zlokM 1 (pc' := 90) (ls' := [(3, .int x3.1), (0, .ref 0), (1, .int v1), (2, .int v2)]) (st' := [.int 0]) (s' := x3.2) rfl ?_
      exact zRetI hf rfl rfl
    · refine zGoto (tgt := 85) rfl (by decide) ?_
      refine zB zlokM 1 (pc' := 86) (ls' := [(3, .int x3.1), (0, .ref 0), (1, .int v1), (2, .int v2)]) (st' := [.int 1]) (s' := x3.2) rfl ?_
      refine zGoto (tgt := 90) rfl (by decide) ?_
      exact zRetI hf rfl rfl
  · refine zB zlokM 2 (pc' := 69) (ls' := [(3, .int x3.1), (0, .ref 0), (1, .int v1), (2, .int v2)]) (st' := [.int 61, .int v2]) (s' := x3.2) rfl ?_
    refine zCne hf (tgt := 80) rfl (by decide) (fun hc hf => ?_) (fun hc hf => ?_)
    · refine zB zlokM 2 (pc' := 74) (ls' := [(3, .int x3.1), (0, .ref 0), (1, .int v1), (2, .int v2)]) (st' := [.int x3.1, .int v1]) (s' := x3.2) rfl ?_
      refine zCne hf (tgt := 89) rfl (by decide) (fun hc hf => ?_) (fun hc hf => ?_)
      · refine zGoto (tgt := 85) rfl (by decide) ?_
        refine zB zlokM 1 (pc' := 86) (ls' := [(3, .int x3.1), (0, .ref 0), (1, .int v1), (2, .int v2)]) (st' := [.int 1]) (s' := x3.2) rfl ?_
        refine zGoto (tgt := 90) rfl (by decide) ?_
        exact zRetI hf rfl rfl
      · refine zB zlokM 1 (pc' := 90) (ls' := [(3, .int x3.1), (0, .ref 0), (1, .int v1), (2, .int v2)]) (st' := [.int 0]) (s' := x3.2) rfl ?_
        exact zRetI hf rfl rfl
    · refine zB zlokM 2 (pc' := 82) (ls' := [(3, .int x3.1), (0, .ref 0), (1, .int v1), (2, .int v2)]) (st' := [.int x3.1, .int v1]) (s' := x3.2) rfl ?_
      refine zCle hf (tgt := 89) rfl (by decide) (fun hc hf => ?_) (fun hc hf => ?_)
      · refine zB zlokM 1 (pc' := 90) (ls' := [(3, .int x3.1), (0, .ref 0), (1, .int v1), (2, .int v2)]) (st' := [.int 0]) (s' := x3.2) rfl ?_
        exact zRetI hf rfl rfl
      · refine zB zlokM 1 (pc' := 86) (ls' := [(3, .int x3.1), (0, .ref 0), (1, .int v1), (2, .int v2)]) (st' := [.int 1]) (s' := x3.2) rfl ?_
        refine zGoto (tgt := 90) rfl (by decide) ?_
        exact zRetI hf rfl rfl
set_option maxRecDepth 20000 in
theorem kb_m_compared (c_m_sums : zSt → Option (Int32 × zSt)) {dd : Nat} (hdd : 9 ≤ dd) (hk_m_sums : ∀ (s : zSt) (r : Int32 × zSt), c_m_sums s = some r → zKp zm_m_sums ΛM dd [.ref 0] s (some (.int r.1), r.2)) (s : zSt) (r : Int32 × zSt) (hf : b_m_compared c_m_sums s = some r) : zKp zm_m_compared ΛM (dd + 1) [.ref 0] s (some (.int r.1), r.2) := by
  refine zKp_of zmk_m_compared rfl ?_
  show zWA _ _ _ _ _ [(0, .ref 0)] _ _
  refine zB zlokM 1 (pc' := 1) (ls' := [(0, .ref 0)]) (st' := [.ref 0]) (s' := s) rfl ?_
  refine zXI hf (As := []) (rest := []) 0 zmk_m_sums zok_m_sums zl_1157 rfl rfl rfl rfl (zdr (by omega) rfl) rfl rfl rfl (fun _ e => hk_m_sums _ _ e) (fun x1 hf => ?_)
  refine zB zlokM 2 (pc' := 6) (ls' := [(1, .int x1.1), (0, .ref 0)]) (st' := [.ref 0]) (s' := x1.2) rfl ?_
  refine zXI hf (As := []) (rest := []) 0 zmk_m_byteAt zok_m_byteAt zl_1169 rfl rfl rfl rfl (zdr (by omega) rfl) rfl rfl rfl (fun _ e => k_m_byteAt _ _ e) (fun x2 hf => ?_)
  refine zB zlokM 3 (pc' := 14) (ls' := [(2, .int x2.1), (1, .int x1.1), (0, .ref 0)]) (st' := [.int (x2.2.1 0 17)]) (s' := x2.2) rfl ?_
  refine zIge hf (tgt := 35) rfl (by decide) (fun hc hf => ?_) (fun hc hf => ?_)
  · refine zB zlokM 1 (pc' := 36) (ls' := [(2, .int x2.1), (1, .int x1.1), (0, .ref 0)]) (st' := [.int x1.1]) (s' := x2.2) rfl ?_
    exact zRetI hf rfl rfl
  · refine zB zlokM 2 (pc' := 20) (ls' := [(2, .int x2.1), (1, .int x1.1), (0, .ref 0)]) (st' := [.int 60, .int x2.1]) (s' := x2.2) rfl ?_
    refine zCeq hf (tgt := 37) rfl (by decide) (fun hc hf => ?_) (fun hc hf => ?_)
    · refine zLoc [2, 1, 0] rfl ?_
      exact c_f_m_compared_37 _ hdd hk_m_sums _ _ _ hf
    · refine zB zlokM 2 (pc' := 26) (ls' := [(2, .int x2.1), (1, .int x1.1), (0, .ref 0)]) (st' := [.int 61, .int x2.1]) (s' := x2.2) rfl ?_
      refine zCeq hf (tgt := 37) rfl (by decide) (fun hc hf => ?_) (fun hc hf => ?_)
      · refine zLoc [2, 1, 0] rfl ?_
        exact c_f_m_compared_37 _ hdd hk_m_sums _ _ _ hf
      · refine zB zlokM 2 (pc' := 32) (ls' := [(2, .int x2.1), (1, .int x1.1), (0, .ref 0)]) (st' := [.int 62, .int x2.1]) (s' := x2.2) rfl ?_
        refine zCeq hf (tgt := 37) rfl (by decide) (fun hc hf => ?_) (fun hc hf => ?_)
        · refine zLoc [2, 1, 0] rfl ?_
          exact c_f_m_compared_37 _ hdd hk_m_sums _ _ _ hf
        · refine zB zlokM 1 (pc' := 36) (ls' := [(2, .int x2.1), (1, .int x1.1), (0, .ref 0)]) (st' := [.int x1.1]) (s' := x2.2) rfl ?_
          exact zRetI hf rfl rfl
