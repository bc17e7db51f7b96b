/-! contracts: tp_readEither tp_readBoth tp_readCompared tp_readSum tp_readProduct tp_readOperand tp_readLine tp_read th_addedInAllOrders th_above th_below g_heat g_heatsCome g_heats g_place g_isSpan -/
set_option maxRecDepth 20000 in
theorem c_f_tp_readEither_8 (c_tp_readBoth : Int32 → zSt → Option (Int32 × zSt)) {dd : Nat} (hdd : 9 ≤ dd) (hk_tp_readBoth : ∀ (a0 : Int32) (s : zSt) (r : Int32 × zSt), c_tp_readBoth a0 s = some r → zKp zm_tp_readBoth ΛG dd [.ref 13, .int a0] s (some (.int r.1), r.2)) {r : Int32 × zSt} : ∀ (n : Nat) (v1 : Int32) (v2 : Int32) (v3 : Int32) (s : zSt), f_tp_readEither_8 c_tp_readBoth n v1 v2 v3 s = some r → zWA zm_tp_readEither ΛG (dd + 1) (some (.int r.1), r.2) 8 [(0, .ref 13), (1, .int v1), (2, .int v2), (3, .int v3)] [] s := by
  intro n
  induction n with
  | zero => intro v1 v2 v3 s hf; cases hf
  | succ n ih =>
    intro v1 v2 v3 s hf
    refine zB zlokG 2 (pc' := 11) (ls' := [(0, .ref 13), (1, .int v1), (2, .int v2), (3, .int v3)]) (st' := [.int 120, .int v3]) (s' := s) rfl ?_
    refine zCge hf (tgt := 56) rfl (by decide) (fun hc hf => ?_) (fun hc hf => ?_)
    · refine zB zlokG 1 (pc' := 57) (ls' := [(0, .ref 13), (1, .int v1), (2, .int v2), (3, .int v3)]) (st' := [.int v2]) (s' := s) rfl ?_
      exact zRetZb hf rfl rfl
    · refine zB zlokG 1 (pc' := 15) (ls' := [(0, .ref 13), (1, .int v1), (2, .int v2), (3, .int v3)]) (st' := [.int v2]) (s' := s) rfl ?_
      refine zIeq hf (tgt := 56) rfl (by decide) (fun hc hf => ?_) (fun hc hf => ?_)
      · refine zB zlokG 1 (pc' := 57) (ls' := [(0, .ref 13), (1, .int v1), (2, .int v2), (3, .int v3)]) (st' := [.int v2]) (s' := s) rfl ?_
        exact zRetZb hf rfl rfl
      · refine zB zlokG 2 (pc' := 21) (ls' := [(0, .ref 13), (1, .int v1), (2, .int v2), (3, .int v3)]) (st' := [.int 124, .ref 13]) (s' := s) rfl ?_
        refine zXI hf (As := [.int 124]) (rest := []) 1 zmk_tp_took zok_tp_took zl_499 rfl rfl rfl rfl (zdr (by omega) rfl) rfl rfl rfl (fun _ e => k_tp_took _ _ _ e) (fun x2 hf => ?_)
        refine zIeq hf (tgt := 56) rfl (by decide) (fun hc hf => ?_) (fun hc hf => ?_)
        · refine zB zlokG 1 (pc' := 57) (ls' := [(0, .ref 13), (1, .int v1), (2, .int v2), (3, .int v3)]) (st' := [.int v2]) (s' := x2.2) rfl ?_
          exact zRetZb hf rfl rfl
        · refine zB zlokG 2 (pc' := 29) (ls' := [(0, .ref 13), (1, .int v1), (2, .int v2), (3, .int v3)]) (st' := [.int v1, .ref 13]) (s' := x2.2) rfl ?_
          refine zXI hf (As := [.int v1]) (rest := []) 1 zmk_tp_readBoth zok_tp_readBoth zl_459 rfl rfl rfl rfl (zdr (by omega) rfl) rfl rfl rfl (fun _ e => hk_tp_readBoth _ _ _ e) (fun x3 hf => ?_)
          refine zIeq hf (tgt := 48) rfl (by decide) (fun hc hf => ?_) (fun hc hf => ?_)
          · refine zB zlokG 3 (pc' := 53) (ls' := [(3, .int (v3 + 1)), (2, .int 0), (0, .ref 13), (1, .int v1)]) (st' := []) (s' := x3.2) rfl ?_
            refine zGoto (tgt := 8) rfl (by decide) ?_
            refine zLoc [2, 3, 1, 0] rfl ?_
            exact ih _ _ _ _ hf
          · refine zB zlokG 2 (pc' := 38) (ls' := [(0, .ref 13), (1, .int v1), (2, .int v2), (3, .int v3)]) (st' := [.int (-124), .ref 13]) (s' := x3.2) rfl ?_
            refine zXI hf (As := [.int (-124)]) (rest := []) 1 zmk_tp_step zok_tp_step zl_490 rfl rfl rfl rfl (zdr (by omega) rfl) rfl rfl rfl (fun _ e => k_tp_step _ _ _ e) (fun x4 hf => ?_)
            refine zIeq hf (tgt := 48) rfl (by decide) (fun hc hf => ?_) (fun hc hf => ?_)
            · refine zB zlokG 3 (pc' := 53) (ls' := [(3, .int (v3 + 1)), (2, .int 0), (0, .ref 13), (1, .int v1)]) (st' := []) (s' := x4.2) rfl ?_
              refine zGoto (tgt := 8) rfl (by decide) ?_
              refine zLoc [2, 3, 1, 0] rfl ?_
              exact ih _ _ _ _ hf
            · refine zB zlokG 1 (pc' := 45) (ls' := [(0, .ref 13), (1, .int v1), (2, .int v2), (3, .int v3)]) (st' := [.int 1]) (s' := x4.2) rfl ?_
              refine zGoto (tgt := 49) rfl (by decide) ?_
              refine zB zlokG 2 (pc' := 53) (ls' := [(3, .int (v3 + 1)), (2, .int 1), (0, .ref 13), (1, .int v1)]) (st' := []) (s' := x4.2) rfl ?_
              refine zGoto (tgt := 8) rfl (by decide) ?_
              refine zLoc [2, 3, 1, 0] rfl ?_
              exact ih _ _ _ _ hf
set_option maxRecDepth 20000 in
theorem kb_tp_readEither (c_tp_readBoth : Int32 → zSt → Option (Int32 × zSt)) {dd : Nat} (hdd : 9 ≤ dd) (hk_tp_readBoth : ∀ (a0 : Int32) (s : zSt) (r : Int32 × zSt), c_tp_readBoth a0 s = some r → zKp zm_tp_readBoth ΛG dd [.ref 13, .int a0] s (some (.int r.1), r.2)) (a0 : Int32) (s : zSt) (r : Int32 × zSt) (hf : b_tp_readEither c_tp_readBoth a0 s = some r) : zKp zm_tp_readEither ΛG (dd + 1) [.ref 13, .int a0] s (some (.int r.1), r.2) := by
  refine zKp_of zmk_tp_readEither rfl ?_
  show zWA _ _ _ _ _ [(0, .ref 13), (1, .int a0)] _ _
  refine zB zlokG 2 (pc' := 2) (ls' := [(0, .ref 13), (1, .int a0)]) (st' := [.int a0, .ref 13]) (s' := s) rfl ?_
  refine zXI hf (As := [.int a0]) (rest := []) 1 zmk_tp_readBoth zok_tp_readBoth zl_459 rfl rfl rfl rfl (zdr (by omega) rfl) rfl rfl rfl (fun _ e => hk_tp_readBoth _ _ _ e) (fun x1 hf => ?_)
  refine zB zlokG 3 (pc' := 8) (ls' := [(3, .int 0), (2, .int x1.1), (0, .ref 13), (1, .int a0)]) (st' := []) (s' := x1.2) rfl ?_
  refine zLoc [2, 3, 1, 0] rfl ?_
  exact c_f_tp_readEither_8 _ hdd hk_tp_readBoth zFu _ _ _ _ hf
set_option maxRecDepth 20000 in
theorem c_f_tp_readBoth_8 (c_tp_readCompared : Int32 → zSt → Option (Int32 × zSt)) {dd : Nat} (hdd : 9 ≤ dd) (hk_tp_readCompared : ∀ (a0 : Int32) (s : zSt) (r : Int32 × zSt), c_tp_readCompared a0 s = some r → zKp zm_tp_readCompared ΛG dd [.ref 13, .int a0] s (some (.int r.1), r.2)) {r : Int32 × zSt} : ∀ (n : Nat) (v1 : Int32) (v2 : Int32) (v3 : Int32) (s : zSt), f_tp_readBoth_8 c_tp_readCompared n v1 v2 v3 s = some r → zWA zm_tp_readBoth ΛG (dd + 1) (some (.int r.1), r.2) 8 [(0, .ref 13), (1, .int v1), (2, .int v2), (3, .int v3)] [] s := by
  intro n
  induction n with
  | zero => intro v1 v2 v3 s hf; cases hf
  | succ n ih =>
    intro v1 v2 v3 s hf
    refine zB zlokG 2 (pc' := 11) (ls' := [(0, .ref 13), (1, .int v1), (2, .int v2), (3, .int v3)]) (st' := [.int 120, .int v3]) (s' := s) rfl ?_
    refine zCge hf (tgt := 56) rfl (by decide) (fun hc hf => ?_) (fun hc hf => ?_)
    · refine zB zlokG 1 (pc' := 57) (ls' := [(0, .ref 13), (1, .int v1), (2, .int v2), (3, .int v3)]) (st' := [.int v2]) (s' := s) rfl ?_
      exact zRetZb hf rfl rfl
    · refine zB zlokG 1 (pc' := 15) (ls' := [(0, .ref 13), (1, .int v1), (2, .int v2), (3, .int v3)]) (st' := [.int v2]) (s' := s) rfl ?_
      refine zIeq hf (tgt := 56) rfl (by decide) (fun hc hf => ?_) (fun hc hf => ?_)
      · refine zB zlokG 1 (pc' := 57) (ls' := [(0, .ref 13), (1, .int v1), (2, .int v2), (3, .int v3)]) (st' := [.int v2]) (s' := s) rfl ?_
        exact zRetZb hf rfl rfl
      · refine zB zlokG 2 (pc' := 21) (ls' := [(0, .ref 13), (1, .int v1), (2, .int v2), (3, .int v3)]) (st' := [.int 38, .ref 13]) (s' := s) rfl ?_
        refine zXI hf (As := [.int 38]) (rest := []) 1 zmk_tp_took zok_tp_took zl_499 rfl rfl rfl rfl (zdr (by omega) rfl) rfl rfl rfl (fun _ e => k_tp_took _ _ _ e) (fun x2 hf => ?_)
        refine zIeq hf (tgt := 56) rfl (by decide) (fun hc hf => ?_) (fun hc hf => ?_)
        · refine zB zlokG 1 (pc' := 57) (ls' := [(0, .ref 13), (1, .int v1), (2, .int v2), (3, .int v3)]) (st' := [.int v2]) (s' := x2.2) rfl ?_
          exact zRetZb hf rfl rfl
        · refine zB zlokG 2 (pc' := 29) (ls' := [(0, .ref 13), (1, .int v1), (2, .int v2), (3, .int v3)]) (st' := [.int v1, .ref 13]) (s' := x2.2) rfl ?_
          refine zXI hf (As := [.int v1]) (rest := []) 1 zmk_tp_readCompared zok_tp_readCompared zl_463 rfl rfl rfl rfl (zdr (by omega) rfl) rfl rfl rfl (fun _ e => hk_tp_readCompared _ _ _ e) (fun x3 hf => ?_)
          refine zIeq hf (tgt := 48) rfl (by decide) (fun hc hf => ?_) (fun hc hf => ?_)
          · refine zB zlokG 3 (pc' := 53) (ls' := [(3, .int (v3 + 1)), (2, .int 0), (0, .ref 13), (1, .int v1)]) (st' := []) (s' := x3.2) rfl ?_
            refine zGoto (tgt := 8) rfl (by decide) ?_
            refine zLoc [2, 3, 1, 0] rfl ?_
            exact ih _ _ _ _ hf
          · refine zB zlokG 2 (pc' := 38) (ls' := [(0, .ref 13), (1, .int v1), (2, .int v2), (3, .int v3)]) (st' := [.int (-38), .ref 13]) (s' := x3.2) rfl ?_
            refine zXI hf (As := [.int (-38)]) (rest := []) 1 zmk_tp_step zok_tp_step zl_490 rfl rfl rfl rfl (zdr (by omega) rfl) rfl rfl rfl (fun _ e => k_tp_step _ _ _ e) (fun x4 hf => ?_)
            refine zIeq hf (tgt := 48) rfl (by decide) (fun hc hf => ?_) (fun hc hf => ?_)
            · refine zB zlokG 3 (pc' := 53) (ls' := [(3, .int (v3 + 1)), (2, .int 0), (0, .ref 13), (1, .int v1)]) (st' := []) (s' := x4.2) rfl ?_
              refine zGoto (tgt := 8) rfl (by decide) ?_
              refine zLoc [2, 3, 1, 0] rfl ?_
              exact ih _ _ _ _ hf
            · refine zB zlokG 1 (pc' := 45) (ls' := [(0, .ref 13), (1, .int v1), (2, .int v2), (3, .int v3)]) (st' := [.int 1]) (s' := x4.2) rfl ?_
              refine zGoto (tgt := 49) rfl (by decide) ?_
              refine zB zlokG 2 (pc' := 53) (ls' := [(3, .int (v3 + 1)), (2, .int 1), (0, .ref 13), (1, .int v1)]) (st' := []) (s' := x4.2) rfl ?_
              refine zGoto (tgt := 8) rfl (by decide) ?_
              refine zLoc [2, 3, 1, 0] rfl ?_
              exact ih _ _ _ _ hf
set_option maxRecDepth 20000 in
theorem kb_tp_readBoth (c_tp_readCompared : Int32 → zSt → Option (Int32 × zSt)) {dd : Nat} (hdd : 9 ≤ dd) (hk_tp_readCompared : ∀ (a0 : Int32) (s : zSt) (r : Int32 × zSt), c_tp_readCompared a0 s = some r → zKp zm_tp_readCompared ΛG dd [.ref 13, .int a0] s (some (.int r.1), r.2)) (a0 : Int32) (s : zSt) (r : Int32 × zSt) (hf : b_tp_readBoth c_tp_readCompared a0 s = some r) : zKp zm_tp_readBoth ΛG (dd + 1) [.ref 13, .int a0] s (some (.int r.1), r.2) := by
  refine zKp_of zmk_tp_readBoth rfl ?_
  show zWA _ _ _ _ _ [(0, .ref 13), (1, .int a0)] _ _
  refine zB zlokG 2 (pc' := 2) (ls' := [(0, .ref 13), (1, .int a0)]) (st' := [.int a0, .ref 13]) (s' := s) rfl ?_
  refine zXI hf (As := [.int a0]) (rest := []) 1 zmk_tp_readCompared zok_tp_readCompared zl_463 rfl rfl rfl rfl (zdr (by omega) rfl) rfl rfl rfl (fun _ e => hk_tp_readCompared _ _ _ e) (fun x1 hf => ?_)
  refine zB zlokG 3 (pc' := 8) (ls' := [(3, .int 0), (2, .int x1.1), (0, .ref 13), (1, .int a0)]) (st' := []) (s' := x1.2) rfl ?_
  refine zLoc [2, 3, 1, 0] rfl ?_
  exact c_f_tp_readBoth_8 _ hdd hk_tp_readCompared zFu _ _ _ _ hf
set_option maxRecDepth 20000 in
theorem c_f_tp_readCompared_35 (c_tp_readSum : Int32 → zSt → Option (Int32 × zSt)) {dd : Nat} (hdd : 9 ≤ dd) (hk_tp_readSum : ∀ (a0 : Int32) (s : zSt) (r : Int32 × zSt), c_tp_readSum a0 s = some r → zKp zm_tp_readSum ΛG dd [.ref 13, .int a0] s (some (.int r.1), r.2)) {r : Int32 × zSt} : ∀ (v1 : Int32) (v2 : Int32) (s : zSt), f_tp_readCompared_35 c_tp_readSum v1 v2 s = some r → zWA zm_tp_readCompared ΛG (dd + 1) (some (.int r.1), r.2) 35 [(0, .ref 13), (1, .int v1), (2, .int v2)] [] s := by
  intro v1 v2 s hf
  refine zB zlokG 8 (pc' := 47) (ls' := [(0, .ref 13), (1, .int v1), (2, .int v2)]) (st' := [.int v1, .ref 13]) (s' := (zw s 13 4 ((s.1 13 4) + 1))) rfl ?_
  refine zXI hf (As := [.int v1]) (rest := []) 1 zmk_tp_readSum zok_tp_readSum zl_467 rfl rfl rfl rfl (zdr (by omega) rfl) rfl rfl rfl (fun _ e => hk_tp_readSum _ _ _ e) (fun x3 hf => ?_)
  refine zIeq hf (tgt := 66) rfl (by decide) (fun hc hf => ?_) (fun hc hf => ?_)
  · refine zB zlokG 1 (pc' := 67) (ls' := [(0, .ref 13), (1, .int v1), (2, .int v2)]) (st' := [.int 0]) (s' := x3.2) rfl ?_
    exact zRetZc hf (by decide) rfl rfl
  · refine zB zlokG 3 (pc' := 56) (ls' := [(0, .ref 13), (1, .int v1), (2, .int v2)]) (st' := [.int (-v2), .ref 13]) (s' := x3.2) rfl ?_
    refine zXI hf (As := [.int (-v2)]) (rest := []) 1 zmk_tp_step zok_tp_step zl_490 rfl rfl rfl rfl (zdr (by omega) rfl) rfl rfl rfl (fun _ e => k_tp_step _ _ _ e) (fun x4 hf => ?_)
    refine zIeq hf (tgt := 66) rfl (by decide) (fun hc hf => ?_) (fun hc hf => ?_)
    · refine zB zlokG 1 (pc' := 67) (ls' := [(0, .ref 13), (1, .int v1), (2, .int v2)]) (st' := [.int 0]) (s' := x4.2) rfl ?_
      exact zRetZc hf (by decide) rfl rfl
    · refine zB zlokG 1 (pc' := 63) (ls' := [(0, .ref 13), (1, .int v1), (2, .int v2)]) (st' := [.int 1]) (s' := x4.2) rfl ?_
      refine zGoto (tgt := 67) rfl (by decide) ?_
      exact zRetZc hf (by decide) rfl rfl
set_option maxRecDepth 20000 in
theorem kb_tp_readCompared (c_tp_readSum : Int32 → zSt → Option (Int32 × zSt)) {dd : Nat} (hdd : 9 ≤ dd) (hk_tp_readSum : ∀ (a0 : Int32) (s : zSt) (r : Int32 × zSt), c_tp_readSum a0 s = some r → zKp zm_tp_readSum ΛG dd [.ref 13, .int a0] s (some (.int r.1), r.2)) (a0 : Int32) (s : zSt) (r : Int32 × zSt) (hf : b_tp_readCompared c_tp_readSum a0 s = some r) : zKp zm_tp_readCompared ΛG (dd + 1) [.ref 13, .int a0] s (some (.int r.1), r.2) := by
  refine zKp_of zmk_tp_readCompared rfl ?_
  show zWA _ _ _ _ _ [(0, .ref 13), (1, .int a0)] _ _
  refine zB zlokG 2 (pc' := 2) (ls' := [(0, .ref 13), (1, .int a0)]) (st' := [.int a0, .ref 13]) (s' := s) rfl ?_
  refine zXI hf (As := [.int a0]) (rest := []) 1 zmk_tp_readSum zok_tp_readSum zl_467 rfl rfl rfl rfl (zdr (by omega) rfl) rfl rfl rfl (fun _ e => hk_tp_readSum _ _ _ e) (fun x1 hf => ?_)
  refine zIne hf (tgt := 10) rfl (by decide) (fun hc hf => ?_) (fun hc hf => ?_)
  · refine zB zlokG 1 (pc' := 9) (ls' := [(0, .ref 13), (1, .int a0)]) (st' := [.int 0]) (s' := x1.2) rfl ?_
    exact zRetZc hf (by decide) rfl rfl
  · refine zB zlokG 1 (pc' := 11) (ls' := [(0, .ref 13), (1, .int a0)]) (st' := [.ref 13]) (s' := x1.2) rfl ?_
    refine zXI hf (As := []) (rest := []) 0 zmk_tp_next zok_tp_next zl_479 rfl rfl rfl rfl (zdr (by omega) rfl) rfl rfl rfl (fun _ e => k_tp_next _ _ e) (fun x2 hf => ?_)
    refine zB zlokG 3 (pc' := 18) (ls' := [(2, .int x2.1), (0, .ref 13), (1, .int a0)]) (st' := [.int 60, .int x2.1]) (s' := x2.2) rfl ?_
    refine zCeq hf (tgt := 35) rfl (by decide) (fun hc hf => ?_) (fun hc hf => ?_)
    · refine zLoc [1, 2, 0] rfl ?_
      exact c_f_tp_readCompared_35 _ hdd hk_tp_readSum _ _ _ hf
    · refine zB zlokG 2 (pc' := 24) (ls' := [(2, .int x2.1), (0, .ref 13), (1, .int a0)]) (st' := [.int 61, .int x2.1]) (s' := x2.2) rfl ?_
      refine zCeq hf (tgt := 35) rfl (by decide) (fun hc hf => ?_) (fun hc hf => ?_)
      · refine zLoc [1, 2, 0] rfl ?_
        exact c_f_tp_readCompared_35 _ hdd hk_tp_readSum _ _ _ hf
      · refine zB zlokG 2 (pc' := 30) (ls' := [(2, .int x2.1), (0, .ref 13), (1, .int a0)]) (st' := [.int 62, .int x2.1]) (s' := x2.2) rfl ?_
        refine zCeq hf (tgt := 35) rfl (by decide) (fun hc hf => ?_) (fun hc hf => ?_)
        · refine zLoc [1, 2, 0] rfl ?_
          exact c_f_tp_readCompared_35 _ hdd hk_tp_readSum _ _ _ hf
        · refine zB zlokG 1 (pc' := 34) (ls' := [(2, .int x2.1), (0, .ref 13), (1, .int a0)]) (st' := [.int 1]) (s' := x2.2) rfl ?_
          exact zRetZc hf (by decide) rfl rfl
set_option maxRecDepth 20000 in
theorem c_f_tp_readSum_37 (c_tp_readProduct : Int32 → zSt → Option (Int32 × zSt)) {dd : Nat} (hdd : 9 ≤ dd) (hk_tp_readProduct : ∀ (a0 : Int32) (s : zSt) (r : Int32 × zSt), c_tp_readProduct a0 s = some r → zKp zm_tp_readProduct ΛG dd [.ref 13, .int a0] s (some (.int r.1), r.2)) {r : Int32 × zSt} (k14 : Int32 → Int32 → Int32 → Int32 → zSt → Option (Int32 × zSt)) (hk14 : ∀ (v1 : Int32) (v2 : Int32) (v3 : Int32) (v4 : Int32) (s : zSt), k14 v1 v2 v3 v4 s = some r → zWA zm_tp_readSum ΛG (dd + 1) (some (.int r.1), r.2) 14 [(0, .ref 13), (1, .int v1), (2, .int v2), (3, .int v3), (4, .int v4)] [] s) : ∀ (v1 : Int32) (v3 : Int32) (v4 : Int32) (s : zSt), f_tp_readSum_37 c_tp_readProduct k14 v1 v3 v4 s = some r → zWA zm_tp_readSum ΛG (dd + 1) (some (.int r.1), r.2) 37 [(0, .ref 13), (1, .int v1), (3, .int v3), (4, .int v4)] [] s := by
  intro v1 v3 v4 s hf
  refine zB zlokG 8 (pc' := 49) (ls' := [(0, .ref 13), (1, .int v1), (3, .int v3), (4, .int v4)]) (st' := [.int v1, .ref 13]) (s' := (zw s 13 4 ((s.1 13 4) + 1))) rfl ?_
  refine zXI hf (As := [.int v1]) (rest := []) 1 zmk_tp_readProduct zok_tp_readProduct zl_471 rfl rfl rfl rfl (zdr (by omega) rfl) rfl rfl rfl (fun _ e => hk_tp_readProduct _ _ _ e) (fun x3 hf => ?_)
  refine zIeq hf (tgt := 68) rfl (by decide) (fun hc hf => ?_) (fun hc hf => ?_)
  · refine zB zlokG 3 (pc' := 71) (ls' := [(2, .int 0), (0, .ref 13), (1, .int v1), (3, .int v3), (4, .int v4)]) (st' := [.ref 13]) (s' := x3.2) rfl ?_
    refine zXI hf (As := []) (rest := []) 0 zmk_tp_next zok_tp_next zl_479 rfl rfl rfl rfl (zdr (by omega) rfl) rfl rfl rfl (fun _ e => k_tp_next _ _ e) (fun x4 hf => ?_)
    refine zB zlokG 2 (pc' := 78) (ls' := [(4, .int (v4 + 1)), (3, .int x4.1), (2, .int 0), (0, .ref 13), (1, .int v1)]) (st' := []) (s' := x4.2) rfl ?_
    refine zGoto (tgt := 14) rfl (by decide) ?_
    refine zLoc [3, 4, 2, 1, 0] rfl ?_
    exact hk14 _ _ _ _ _ hf
  · refine zB zlokG 3 (pc' := 58) (ls' := [(0, .ref 13), (1, .int v1), (3, .int v3), (4, .int v4)]) (st' := [.int (-v3), .ref 13]) (s' := x3.2) rfl ?_
    refine zXI hf (As := [.int (-v3)]) (rest := []) 1 zmk_tp_step zok_tp_step zl_490 rfl rfl rfl rfl (zdr (by omega) rfl) rfl rfl rfl (fun _ e => k_tp_step _ _ _ e) (fun x5 hf => ?_)
    refine zIeq hf (tgt := 68) rfl (by decide) (fun hc hf => ?_) (fun hc hf => ?_)
    · refine zB zlokG 3 (pc' := 71) (ls' := [(2, .int 0), (0, .ref 13), (1, .int v1), (3, .int v3), (4, .int v4)]) (st' := [.ref 13]) (s' := x5.2) rfl ?_
      refine zXI hf (As := []) (rest := []) 0 zmk_tp_next zok_tp_next zl_479 rfl rfl rfl rfl (zdr (by omega) rfl) rfl rfl rfl (fun _ e => k_tp_next _ _ e) (fun x6 hf => ?_)
      refine zB zlokG 2 (pc' := 78) (ls' := [(4, .int (v4 + 1)), (3, .int x6.1), (2, .int 0), (0, .ref 13), (1, .int v1)]) (st' := []) (s' := x6.2) rfl ?_
      refine zGoto (tgt := 14) rfl (by decide) ?_
      refine zLoc [3, 4, 2, 1, 0] rfl ?_
      exact hk14 _ _ _ _ _ hf
    · refine zB zlokG 1 (pc' := 65) (ls' := [(0, .ref 13), (1, .int v1), (3, .int v3), (4, .int v4)]) (st' := [.int 1]) (s' := x5.2) rfl ?_
      refine zGoto (tgt := 69) rfl (by decide) ?_
      refine zB zlokG 2 (pc' := 71) (ls' := [(2, .int 1), (0, .ref 13), (1, .int v1), (3, .int v3), (4, .int v4)]) (st' := [.ref 13]) (s' := x5.2) rfl ?_
      refine zXI hf (As := []) (rest := []) 0 zmk_tp_next zok_tp_next zl_479 rfl rfl rfl rfl (zdr (by omega) rfl) rfl rfl rfl (fun _ e => k_tp_next _ _ e) (fun x7 hf => ?_)
      refine zB zlokG 2 (pc' := 78) (ls' := [(4, .int (v4 + 1)), (3, .int x7.1), (2, .int 1), (0, .ref 13), (1, .int v1)]) (st' := []) (s' := x7.2) rfl ?_
      refine zGoto (tgt := 14) rfl (by decide) ?_
      refine zLoc [3, 4, 2, 1, 0] rfl ?_
      exact hk14 _ _ _ _ _ hf
set_option maxRecDepth 20000 in
theorem c_f_tp_readSum_14 (c_tp_readProduct : Int32 → zSt → Option (Int32 × zSt)) {dd : Nat} (hdd : 9 ≤ dd) (hk_tp_readProduct : ∀ (a0 : Int32) (s : zSt) (r : Int32 × zSt), c_tp_readProduct a0 s = some r → zKp zm_tp_readProduct ΛG dd [.ref 13, .int a0] s (some (.int r.1), r.2)) {r : Int32 × zSt} : ∀ (n : Nat) (v1 : Int32) (v2 : Int32) (v3 : Int32) (v4 : Int32) (s : zSt), f_tp_readSum_14 c_tp_readProduct n v1 v2 v3 v4 s = some r → zWA zm_tp_readSum ΛG (dd + 1) (some (.int r.1), r.2) 14 [(0, .ref 13), (1, .int v1), (2, .int v2), (3, .int v3), (4, .int v4)] [] s := by
  intro n
  induction n with
  | zero => intro v1 v2 v3 v4 s hf; cases hf
  | succ n ih =>
    intro v1 v2 v3 v4 s hf
    refine zB zlokG 2 (pc' := 18) (ls' := [(0, .ref 13), (1, .int v1), (2, .int v2), (3, .int v3), (4, .int v4)]) (st' := [.int 120, .int v4]) (s' := s) rfl ?_
    refine zCge hf (tgt := 81) rfl (by decide) (fun hc hf => ?_) (fun hc hf => ?_)
    · refine zB zlokG 1 (pc' := 82) (ls' := [(0, .ref 13), (1, .int v1), (2, .int v2), (3, .int v3), (4, .int v4)]) (st' := [.int v2]) (s' := s) rfl ?_
      exact zRetZb hf rfl rfl
    · refine zB zlokG 1 (pc' := 22) (ls' := [(0, .ref 13), (1, .int v1), (2, .int v2), (3, .int v3), (4, .int v4)]) (st' := [.int v2]) (s' := s) rfl ?_
      refine zIeq hf (tgt := 81) rfl (by decide) (fun hc hf => ?_) (fun hc hf => ?_)
      · refine zB zlokG 1 (pc' := 82) (ls' := [(0, .ref 13), (1, .int v1), (2, .int v2), (3, .int v3), (4, .int v4)]) (st' := [.int v2]) (s' := s) rfl ?_
        exact zRetZb hf rfl rfl
      · refine zB zlokG 2 (pc' := 28) (ls' := [(0, .ref 13), (1, .int v1), (2, .int v2), (3, .int v3), (4, .int v4)]) (st' := [.int 43, .int v3]) (s' := s) rfl ?_
        refine zCeq hf (tgt := 37) rfl (by decide) (fun hc hf => ?_) (fun hc hf => ?_)
        · refine zLoc [0, 1, 3, 4] rfl ?_
          exact c_f_tp_readSum_37 _ hdd hk_tp_readProduct _ ih _ _ _ _ hf
        · refine zB zlokG 2 (pc' := 34) (ls' := [(0, .ref 13), (1, .int v1), (2, .int v2), (3, .int v3), (4, .int v4)]) (st' := [.int 45, .int v3]) (s' := s) rfl ?_
          refine zCne hf (tgt := 81) rfl (by decide) (fun hc hf => ?_) (fun hc hf => ?_)
          · refine zLoc [0, 1, 3, 4] rfl ?_
            exact c_f_tp_readSum_37 _ hdd hk_tp_readProduct _ ih _ _ _ _ hf
          · refine zB zlokG 1 (pc' := 82) (ls' := [(0, .ref 13), (1, .int v1), (2, .int v2), (3, .int v3), (4, .int v4)]) (st' := [.int v2]) (s' := s) rfl ?_
            exact zRetZb hf rfl rfl
set_option maxRecDepth 20000 in
theorem kb_tp_readSum (c_tp_readProduct : Int32 → zSt → Option (Int32 × zSt)) {dd : Nat} (hdd : 9 ≤ dd) (hk_tp_readProduct : ∀ (a0 : Int32) (s : zSt) (r : Int32 × zSt), c_tp_readProduct a0 s = some r → zKp zm_tp_readProduct ΛG dd [.ref 13, .int a0] s (some (.int r.1), r.2)) (a0 : Int32) (s : zSt) (r : Int32 × zSt) (hf : b_tp_readSum c_tp_readProduct a0 s = some r) : zKp zm_tp_readSum ΛG (dd + 1) [.ref 13, .int a0] s (some (.int r.1), r.2) := by
  refine zKp_of zmk_tp_readSum rfl ?_
  show zWA _ _ _ _ _ [(0, .ref 13), (1, .int a0)] _ _
  refine zB zlokG 2 (pc' := 2) (ls' := [(0, .ref 13), (1, .int a0)]) (st' := [.int a0, .ref 13]) (s' := s) rfl ?_
  refine zXI hf (As := [.int a0]) (rest := []) 1 zmk_tp_readProduct zok_tp_readProduct zl_471 rfl rfl rfl rfl (zdr (by omega) rfl) rfl rfl rfl (fun _ e => hk_tp_readProduct _ _ _ e) (fun x1 hf => ?_)
  refine zB zlokG 2 (pc' := 7) (ls' := [(2, .int x1.1), (0, .ref 13), (1, .int a0)]) (st' := [.ref 13]) (s' := x1.2) rfl ?_
  refine zXI hf (As := []) (rest := []) 0 zmk_tp_next zok_tp_next zl_479 rfl rfl rfl rfl (zdr (by omega) rfl) rfl rfl rfl (fun _ e => k_tp_next _ _ e) (fun x2 hf => ?_)
  refine zB zlokG 3 (pc' := 14) (ls' := [(4, .int 0), (3, .int x2.1), (2, .int x1.1), (0, .ref 13), (1, .int a0)]) (st' := []) (s' := x2.2) rfl ?_
  refine zLoc [3, 4, 2, 1, 0] rfl ?_
  exact c_f_tp_readSum_14 _ hdd hk_tp_readProduct zFu _ _ _ _ _ hf
set_option maxRecDepth 20000 in
theorem c_f_tp_readProduct_43 (c_tp_readOperand : Int32 → zSt → Option (Int32 × zSt)) {dd : Nat} (hdd : 9 ≤ dd) (hk_tp_readOperand : ∀ (a0 : Int32) (s : zSt) (r : Int32 × zSt), c_tp_readOperand a0 s = some r → zKp zm_tp_readOperand ΛG dd [.ref 13, .int a0] s (some (.int r.1), r.2)) {r : Int32 × zSt} (k14 : Int32 → Int32 → Int32 → Int32 → zSt → Option (Int32 × zSt)) (hk14 : ∀ (v1 : Int32) (v2 : Int32) (v3 : Int32) (v4 : Int32) (s : zSt), k14 v1 v2 v3 v4 s = some r → zWA zm_tp_readProduct ΛG (dd + 1) (some (.int r.1), r.2) 14 [(0, .ref 13), (1, .int v1), (2, .int v2), (3, .int v3), (4, .int v4)] [] s) : ∀ (v1 : Int32) (v3 : Int32) (v4 : Int32) (s : zSt), f_tp_readProduct_43 c_tp_readOperand k14 v1 v3 v4 s = some r → zWA zm_tp_readProduct ΛG (dd + 1) (some (.int r.1), r.2) 43 [(0, .ref 13), (1, .int v1), (3, .int v3), (4, .int v4)] [] s := by
  intro v1 v3 v4 s hf
  refine zB zlokG 8 (pc' := 55) (ls' := [(0, .ref 13), (1, .int v1), (3, .int v3), (4, .int v4)]) (st' := [.int v1, .ref 13]) (s' := (zw s 13 4 ((s.1 13 4) + 1))) rfl ?_
  refine zXI hf (As := [.int v1]) (rest := []) 1 zmk_tp_readOperand zok_tp_readOperand zl_475 rfl rfl rfl rfl (zdr (by omega) rfl) rfl rfl rfl (fun _ e => hk_tp_readOperand _ _ _ e) (fun x3 hf => ?_)
  refine zIeq hf (tgt := 74) rfl (by decide) (fun hc hf => ?_) (fun hc hf => ?_)
  · refine zB zlokG 3 (pc' := 77) (ls' := [(2, .int 0), (0, .ref 13), (1, .int v1), (3, .int v3), (4, .int v4)]) (st' := [.ref 13]) (s' := x3.2) rfl ?_
    refine zXI hf (As := []) (rest := []) 0 zmk_tp_next zok_tp_next zl_479 rfl rfl rfl rfl (zdr (by omega) rfl) rfl rfl rfl (fun _ e => k_tp_next _ _ e) (fun x4 hf => ?_)
    refine zB zlokG 2 (pc' := 84) (ls' := [(4, .int (v4 + 1)), (3, .int x4.1), (2, .int 0), (0, .ref 13), (1, .int v1)]) (st' := []) (s' := x4.2) rfl ?_
    refine zGoto (tgt := 14) rfl (by decide) ?_
    refine zLoc [3, 4, 2, 1, 0] rfl ?_
    exact hk14 _ _ _ _ _ hf
  · refine zB zlokG 3 (pc' := 64) (ls' := [(0, .ref 13), (1, .int v1), (3, .int v3), (4, .int v4)]) (st' := [.int (-v3), .ref 13]) (s' := x3.2) rfl ?_
    refine zXI hf (As := [.int (-v3)]) (rest := []) 1 zmk_tp_step zok_tp_step zl_490 rfl rfl rfl rfl (zdr (by omega) rfl) rfl rfl rfl (fun _ e => k_tp_step _ _ _ e) (fun x5 hf => ?_)
    refine zIeq hf (tgt := 74) rfl (by decide) (fun hc hf => ?_) (fun hc hf => ?_)
    · refine zB zlokG 3 (pc' := 77) (ls' := [(2, .int 0), (0, .ref 13), (1, .int v1), (3, .int v3), (4, .int v4)]) (st' := [.ref 13]) (s' := x5.2) rfl ?_
      refine zXI hf (As := []) (rest := []) 0 zmk_tp_next zok_tp_next zl_479 rfl rfl rfl rfl (zdr (by omega) rfl) rfl rfl rfl (fun _ e => k_tp_next _ _ e) (fun x6 hf => ?_)
      refine zB zlokG 2 (pc' := 84) (ls' := [(4, .int (v4 + 1)), (3, .int x6.1), (2, .int 0), (0, .ref 13), (1, .int v1)]) (st' := []) (s' := x6.2) rfl ?_
      refine zGoto (tgt := 14) rfl (by decide) ?_
      refine zLoc [3, 4, 2, 1, 0] rfl ?_
      exact hk14 _ _ _ _ _ hf
    · refine zB zlokG 1 (pc' := 71) (ls' := [(0, .ref 13), (1, .int v1), (3, .int v3), (4, .int v4)]) (st' := [.int 1]) (s' := x5.2) rfl ?_
      refine zGoto (tgt := 75) rfl (by decide) ?_
      refine zB zlokG 2 (pc' := 77) (ls' := [(2, .int 1), (0, .ref 13), (1, .int v1), (3, .int v3), (4, .int v4)]) (st' := [.ref 13]) (s' := x5.2) rfl ?_
      refine zXI hf (As := []) (rest := []) 0 zmk_tp_next zok_tp_next zl_479 rfl rfl rfl rfl (zdr (by omega) rfl) rfl rfl rfl (fun _ e => k_tp_next _ _ e) (fun x7 hf => ?_)
      refine zB zlokG 2 (pc' := 84) (ls' := [(4, .int (v4 + 1)), (3, .int x7.1), (2, .int 1), (0, .ref 13), (1, .int v1)]) (st' := []) (s' := x7.2) rfl ?_
      refine zGoto (tgt := 14) rfl (by decide) ?_
      refine zLoc [3, 4, 2, 1, 0] rfl ?_
      exact hk14 _ _ _ _ _ hf
set_option maxRecDepth 20000 in
theorem c_f_tp_readProduct_14 (c_tp_readOperand : Int32 → zSt → Option (Int32 × zSt)) {dd : Nat} (hdd : 9 ≤ dd) (hk_tp_readOperand : ∀ (a0 : Int32) (s : zSt) (r : Int32 × zSt), c_tp_readOperand a0 s = some r → zKp zm_tp_readOperand ΛG dd [.ref 13, .int a0] s (some (.int r.1), r.2)) {r : Int32 × zSt} : ∀ (n : Nat) (v1 : Int32) (v2 : Int32) (v3 : Int32) (v4 : Int32) (s : zSt), f_tp_readProduct_14 c_tp_readOperand n v1 v2 v3 v4 s = some r → zWA zm_tp_readProduct ΛG (dd + 1) (some (.int r.1), r.2) 14 [(0, .ref 13), (1, .int v1), (2, .int v2), (3, .int v3), (4, .int v4)] [] s := by
  intro n
  induction n with
  | zero => intro v1 v2 v3 v4 s hf; cases hf
  | succ n ih =>
    intro v1 v2 v3 v4 s hf
    refine zB zlokG 2 (pc' := 18) (ls' := [(0, .ref 13), (1, .int v1), (2, .int v2), (3, .int v3), (4, .int v4)]) (st' := [.int 120, .int v4]) (s' := s) rfl ?_
    refine zCge hf (tgt := 87) rfl (by decide) (fun hc hf => ?_) (fun hc hf => ?_)
    · refine zB zlokG 1 (pc' := 88) (ls' := [(0, .ref 13), (1, .int v1), (2, .int v2), (3, .int v3), (4, .int v4)]) (st' := [.int v2]) (s' := s) rfl ?_
      exact zRetZb hf rfl rfl
    · refine zB zlokG 1 (pc' := 22) (ls' := [(0, .ref 13), (1, .int v1), (2, .int v2), (3, .int v3), (4, .int v4)]) (st' := [.int v2]) (s' := s) rfl ?_
      refine zIeq hf (tgt := 87) rfl (by decide) (fun hc hf => ?_) (fun hc hf => ?_)
      · refine zB zlokG 1 (pc' := 88) (ls' := [(0, .ref 13), (1, .int v1), (2, .int v2), (3, .int v3), (4, .int v4)]) (st' := [.int v2]) (s' := s) rfl ?_
        exact zRetZb hf rfl rfl
      · refine zB zlokG 2 (pc' := 28) (ls' := [(0, .ref 13), (1, .int v1), (2, .int v2), (3, .int v3), (4, .int v4)]) (st' := [.int 42, .int v3]) (s' := s) rfl ?_
        refine zCeq hf (tgt := 43) rfl (by decide) (fun hc hf => ?_) (fun hc hf => ?_)
        · refine zLoc [0, 1, 3, 4] rfl ?_
          exact c_f_tp_readProduct_43 _ hdd hk_tp_readOperand _ ih _ _ _ _ hf
        · refine zB zlokG 2 (pc' := 34) (ls' := [(0, .ref 13), (1, .int v1), (2, .int v2), (3, .int v3), (4, .int v4)]) (st' := [.int 47, .int v3]) (s' := s) rfl ?_
          refine zCeq hf (tgt := 43) rfl (by decide) (fun hc hf => ?_) (fun hc hf => ?_)
          · refine zLoc [0, 1, 3, 4] rfl ?_
            exact c_f_tp_readProduct_43 _ hdd hk_tp_readOperand _ ih _ _ _ _ hf
          · refine zB zlokG 2 (pc' := 40) (ls' := [(0, .ref 13), (1, .int v1), (2, .int v2), (3, .int v3), (4, .int v4)]) (st' := [.int 37, .int v3]) (s' := s) rfl ?_
            refine zCne hf (tgt := 87) rfl (by decide) (fun hc hf => ?_) (fun hc hf => ?_)
            · refine zLoc [0, 1, 3, 4] rfl ?_
              exact c_f_tp_readProduct_43 _ hdd hk_tp_readOperand _ ih _ _ _ _ hf
            · refine zB zlokG 1 (pc' := 88) (ls' := [(0, .ref 13), (1, .int v1), (2, .int v2), (3, .int v3), (4, .int v4)]) (st' := [.int v2]) (s' := s) rfl ?_
              exact zRetZb hf rfl rfl
set_option maxRecDepth 20000 in
theorem kb_tp_readProduct (c_tp_readOperand : Int32 → zSt → Option (Int32 × zSt)) {dd : Nat} (hdd : 9 ≤ dd) (hk_tp_readOperand : ∀ (a0 : Int32) (s : zSt) (r : Int32 × zSt), c_tp_readOperand a0 s = some r → zKp zm_tp_readOperand ΛG dd [.ref 13, .int a0] s (some (.int r.1), r.2)) (a0 : Int32) (s : zSt) (r : Int32 × zSt) (hf : b_tp_readProduct c_tp_readOperand a0 s = some r) : zKp zm_tp_readProduct ΛG (dd + 1) [.ref 13, .int a0] s (some (.int r.1), r.2) := by
  refine zKp_of zmk_tp_readProduct rfl ?_
  show zWA _ _ _ _ _ [(0, .ref 13), (1, .int a0)] _ _
  refine zB zlokG 2 (pc' := 2) (ls' := [(0, .ref 13), (1, .int a0)]) (st' := [.int a0, .ref 13]) (s' := s) rfl ?_
  refine zXI hf (As := [.int a0]) (rest := []) 1 zmk_tp_readOperand zok_tp_readOperand zl_475 rfl rfl rfl rfl (zdr (by omega) rfl) rfl rfl rfl (fun _ e => hk_tp_readOperand _ _ _ e) (fun x1 hf => ?_)
  refine zB zlokG 2 (pc' := 7) (ls' := [(2, .int x1.1), (0, .ref 13), (1, .int a0)]) (st' := [.ref 13]) (s' := x1.2) rfl ?_
  refine zXI hf (As := []) (rest := []) 0 zmk_tp_next zok_tp_next zl_479 rfl rfl rfl rfl (zdr (by omega) rfl) rfl rfl rfl (fun _ e => k_tp_next _ _ e) (fun x2 hf => ?_)
  refine zB zlokG 3 (pc' := 14) (ls' := [(4, .int 0), (3, .int x2.1), (2, .int x1.1), (0, .ref 13), (1, .int a0)]) (st' := []) (s' := x2.2) rfl ?_
  refine zLoc [3, 4, 2, 1, 0] rfl ?_
  exact c_f_tp_readProduct_14 _ hdd hk_tp_readOperand zFu _ _ _ _ _ hf
set_option maxRecDepth 20000 in
theorem c_f_tp_readOperand_41 (c_tp_readEither : Int32 → zSt → Option (Int32 × zSt)) (c_tp_readOperand : Int32 → zSt → Option (Int32 × zSt)) {dd : Nat} (hdd : 9 ≤ dd) (hk_tp_readEither : ∀ (a0 : Int32) (s : zSt) (r : Int32 × zSt), c_tp_readEither a0 s = some r → zKp zm_tp_readEither ΛG dd [.ref 13, .int a0] s (some (.int r.1), r.2)) (hk_tp_readOperand : ∀ (a0 : Int32) (s : zSt) (r : Int32 × zSt), c_tp_readOperand a0 s = some r → zKp zm_tp_readOperand ΛG dd [.ref 13, .int a0] s (some (.int r.1), r.2)) {r : Int32 × zSt} : ∀ (v1 : Int32) (v2 : Int32) (s : zSt), f_tp_readOperand_41 c_tp_readEither c_tp_readOperand v1 v2 s = some r → zWA zm_tp_readOperand ΛG (dd + 1) (some (.int r.1), r.2) 41 [(0, .ref 13), (1, .int v1), (2, .int v2)] [] s := by
  intro v1 v2 s hf
  refine zB zlokG 2 (pc' := 44) (ls' := [(0, .ref 13), (1, .int v1), (2, .int v2)]) (st' := [.int 6, .int v1]) (s' := s) rfl ?_
  refine zClt hf (tgt := 49) rfl (by decide) (fun hc hf => ?_) (fun hc hf => ?_)
  · refine zB zlokG 8 (pc' := 62) (ls' := [(0, .ref 13), (1, .int v1), (2, .int v2)]) (st' := [.int 40, .int v2]) (s' := (zw s 13 4 ((s.1 13 4) + 1))) rfl ?_
    refine zCne hf (tgt := 90) rfl (by decide) (fun hc hf => ?_) (fun hc hf => ?_)
    · refine zB zlokG 4 (pc' := 69) (ls' := [(0, .ref 13), (1, .int v1), (2, .int v2)]) (st' := [.int (v1 + 1), .ref 13]) (s' := (zw s 13 4 ((s.1 13 4) + 1))) rfl ?_
      refine zXI hf (As := [.int (v1 + 1)]) (rest := []) 1 zmk_tp_readEither zok_tp_readEither zl_455 rfl rfl rfl rfl (zdr (by omega) rfl) rfl rfl rfl (fun _ e => hk_tp_readEither _ _ _ e) (fun x5 hf => ?_)
      refine zIeq hf (tgt := 88) rfl (by decide) (fun hc hf => ?_) (fun hc hf => ?_)
      · refine zB zlokG 1 (pc' := 89) (ls' := [(0, .ref 13), (1, .int v1), (2, .int v2)]) (st' := [.int 0]) (s' := x5.2) rfl ?_
        exact zRetZc hf (by decide) rfl rfl
      · refine zB zlokG 2 (pc' := 78) (ls' := [(0, .ref 13), (1, .int v1), (2, .int v2)]) (st' := [.int 41, .ref 13]) (s' := x5.2) rfl ?_
        refine zXI hf (As := [.int 41]) (rest := []) 1 zmk_tp_took zok_tp_took zl_499 rfl rfl rfl rfl (zdr (by omega) rfl) rfl rfl rfl (fun _ e => k_tp_took _ _ _ e) (fun x6 hf => ?_)
        refine zIeq hf (tgt := 88) rfl (by decide) (fun hc hf => ?_) (fun hc hf => ?_)
        · refine zB zlokG 1 (pc' := 89) (ls' := [(0, .ref 13), (1, .int v1), (2, .int v2)]) (st' := [.int 0]) (s' := x6.2) rfl ?_
          exact zRetZc hf (by decide) rfl rfl
        · refine zB zlokG 1 (pc' := 85) (ls' := [(0, .ref 13), (1, .int v1), (2, .int v2)]) (st' := [.int 1]) (s' := x6.2) rfl ?_
          refine zGoto (tgt := 89) rfl (by decide) ?_
          exact zRetZc hf (by decide) rfl rfl
    · refine zB zlokG 4 (pc' := 94) (ls' := [(0, .ref 13), (1, .int v1), (2, .int v2)]) (st' := [.int (v1 + 1), .ref 13]) (s' := (zw s 13 4 ((s.1 13 4) + 1))) rfl ?_
      refine zXI hf (As := [.int (v1 + 1)]) (rest := []) 1 zmk_tp_readOperand zok_tp_readOperand zl_475 rfl rfl rfl rfl (zdr (by omega) rfl) rfl rfl rfl (fun _ e => hk_tp_readOperand _ _ _ e) (fun x7 hf => ?_)
      refine zIeq hf (tgt := 124) rfl (by decide) (fun hc hf => ?_) (fun hc hf => ?_)
      · refine zB zlokG 1 (pc' := 125) (ls' := [(0, .ref 13), (1, .int v1), (2, .int v2)]) (st' := [.int 0]) (s' := x7.2) rfl ?_
        exact zRetZc hf (by decide) rfl rfl
      · refine zB zlokG 3 (pc' := 104) (ls' := [(0, .ref 13), (1, .int v1), (2, .int v2)]) (st' := [.int 33, .int v2, .ref 13]) (s' := x7.2) rfl ?_
        refine zCne hf (tgt := 112) rfl (by decide) (fun hc hf => ?_) (fun hc hf => ?_)
        · refine zB zlokG 1 (pc' := 109) (ls' := [(0, .ref 13), (1, .int v1), (2, .int v2)]) (st' := [.int (-33), .ref 13]) (s' := x7.2) rfl ?_
          refine zGoto (tgt := 114) rfl (by decide) ?_
          refine zXI hf (As := [.int (-33)]) (rest := []) 1 zmk_tp_step zok_tp_step zl_490 rfl rfl rfl rfl (zdr (by omega) rfl) rfl rfl rfl (fun _ e => k_tp_step _ _ _ e) (fun x8 hf => ?_)
          refine zIeq hf (tgt := 124) rfl (by decide) (fun hc hf => ?_) (fun hc hf => ?_)
          · refine zB zlokG 1 (pc' := 125) (ls' := [(0, .ref 13), (1, .int v1), (2, .int v2)]) (st' := [.int 0]) (s' := x8.2) rfl ?_
            exact zRetZc hf (by decide) rfl rfl
          · refine zB zlokG 1 (pc' := 121) (ls' := [(0, .ref 13), (1, .int v1), (2, .int v2)]) (st' := [.int 1]) (s' := x8.2) rfl ?_
            refine zGoto (tgt := 125) rfl (by decide) ?_
            exact zRetZc hf (by decide) rfl rfl
        · refine zB zlokG 1 (pc' := 114) (ls' := [(0, .ref 13), (1, .int v1), (2, .int v2)]) (st' := [.int (-126), .ref 13]) (s' := x7.2) rfl ?_
          refine zXI hf (As := [.int (-126)]) (rest := []) 1 zmk_tp_step zok_tp_step zl_490 rfl rfl rfl rfl (zdr (by omega) rfl) rfl rfl rfl (fun _ e => k_tp_step _ _ _ e) (fun x9 hf => ?_)
          refine zIeq hf (tgt := 124) rfl (by decide) (fun hc hf => ?_) (fun hc hf => ?_)
          · refine zB zlokG 1 (pc' := 125) (ls' := [(0, .ref 13), (1, .int v1), (2, .int v2)]) (st' := [.int 0]) (s' := x9.2) rfl ?_
            exact zRetZc hf (by decide) rfl rfl
          · refine zB zlokG 1 (pc' := 121) (ls' := [(0, .ref 13), (1, .int v1), (2, .int v2)]) (st' := [.int 1]) (s' := x9.2) rfl ?_
            refine zGoto (tgt := 125) rfl (by decide) ?_
            exact zRetZc hf (by decide) rfl rfl
  · refine zB zlokG 1 (pc' := 48) (ls' := [(0, .ref 13), (1, .int v1), (2, .int v2)]) (st' := [.int 0]) (s' := s) rfl ?_
    exact zRetZc hf (by decide) rfl rfl
set_option maxRecDepth 20000 in
theorem kb_tp_readOperand (c_tp_readEither : Int32 → zSt → Option (Int32 × zSt)) (c_tp_readOperand : Int32 → zSt → Option (Int32 × zSt)) {dd : Nat} (hdd : 9 ≤ dd) (hk_tp_readEither : ∀ (a0 : Int32) (s : zSt) (r : Int32 × zSt), c_tp_readEither a0 s = some r → zKp zm_tp_readEither ΛG dd [.ref 13, .int a0] s (some (.int r.1), r.2)) (hk_tp_readOperand : ∀ (a0 : Int32) (s : zSt) (r : Int32 × zSt), c_tp_readOperand a0 s = some r → zKp zm_tp_readOperand ΛG dd [.ref 13, .int a0] s (some (.int r.1), r.2)) (a0 : Int32) (s : zSt) (r : Int32 × zSt) (hf : b_tp_readOperand c_tp_readEither c_tp_readOperand a0 s = some r) : zKp zm_tp_readOperand ΛG (dd + 1) [.ref 13, .int a0] s (some (.int r.1), r.2) := by
  refine zKp_of zmk_tp_readOperand rfl ?_
  show zWA _ _ _ _ _ [(0, .ref 13), (1, .int a0)] _ _
  refine zB zlokG 1 (pc' := 1) (ls' := [(0, .ref 13), (1, .int a0)]) (st' := [.ref 13]) (s' := s) rfl ?_
  refine zXI hf (As := []) (rest := []) 0 zmk_tp_next zok_tp_next zl_479 rfl rfl rfl rfl (zdr (by omega) rfl) rfl rfl rfl (fun _ e => k_tp_next _ _ e) (fun x1 hf => ?_)
  refine zB zlokG 2 (pc' := 6) (ls' := [(2, .int x1.1), (0, .ref 13), (1, .int a0)]) (st' := [.int x1.1]) (s' := x1.2) rfl ?_
  refine zSI hf (As := [.int x1.1]) (rest := []) 1 zmk_tp_isDigit zok_tp_isDigit zl_483 rfl (zdr (by omega) rfl) rfl rfl rfl (fun _ e => k_tp_isDigit _ _ _ e) (fun x2 hf => ?_)
  refine zIeq hf (tgt := 17) rfl (by decide) (fun hc hf => ?_) (fun hc hf => ?_)
  · refine zB zlokG 2 (pc' := 20) (ls' := [(2, .int x1.1), (0, .ref 13), (1, .int a0)]) (st' := [.int 40, .int x1.1]) (s' := x2.2) rfl ?_
    refine zCeq hf (tgt := 41) rfl (by decide) (fun hc hf => ?_) (fun hc hf => ?_)
    · refine zLoc [1, 2, 0] rfl ?_
      exact c_f_tp_readOperand_41 _ _ hdd hk_tp_readEither hk_tp_readOperand _ _ _ hf
    · refine zB zlokG 2 (pc' := 26) (ls' := [(2, .int x1.1), (0, .ref 13), (1, .int a0)]) (st' := [.int 33, .int x1.1]) (s' := x2.2) rfl ?_
      refine zCeq hf (tgt := 41) rfl (by decide) (fun hc hf => ?_) (fun hc hf => ?_)
      · refine zLoc [1, 2, 0] rfl ?_
        exact c_f_tp_readOperand_41 _ _ hdd hk_tp_readEither hk_tp_readOperand _ _ _ hf
      · refine zB zlokG 2 (pc' := 32) (ls' := [(2, .int x1.1), (0, .ref 13), (1, .int a0)]) (st' := [.int 45, .int x1.1]) (s' := x2.2) rfl ?_
        refine zCeq hf (tgt := 41) rfl (by decide) (fun hc hf => ?_) (fun hc hf => ?_)
        · refine zLoc [1, 2, 0] rfl ?_
          exact c_f_tp_readOperand_41 _ _ hdd hk_tp_readEither hk_tp_readOperand _ _ _ hf
        · refine zB zlokG 2 (pc' := 37) (ls' := [(2, .int x1.1), (0, .ref 13), (1, .int a0)]) (st' := [.int x1.1, .ref 13]) (s' := x2.2) rfl ?_
          refine zXI hf (As := [.int x1.1]) (rest := []) 1 zmk_tp_readName zok_tp_readName zl_494 rfl rfl rfl rfl (zdr (by omega) rfl) rfl rfl rfl (fun _ e => k_tp_readName _ _ _ e) (fun x3 hf => ?_)
          exact zRetZb hf rfl rfl
  · refine zB zlokG 1 (pc' := 13) (ls' := [(2, .int x1.1), (0, .ref 13), (1, .int a0)]) (st' := [.ref 13]) (s' := x2.2) rfl ?_
    refine zXI hf (As := []) (rest := []) 0 zmk_tp_readNumber zok_tp_readNumber zl_486 rfl rfl rfl rfl (zdr (by omega) rfl) rfl rfl rfl (fun _ e => k_tp_readNumber _ _ e) (fun x4 hf => ?_)
    exact zRetZb hf rfl rfl
theorem K_tp : ∀ n : Nat, (∀ a s r, F_tp n 0 a s = some r → zKp zm_tp_readEither ΛG (n + 9) [.ref 13, .int a] s (some (.int r.1), r.2)) ∧ (∀ a s r, F_tp n 1 a s = some r → zKp zm_tp_readBoth ΛG (n + 9) [.ref 13, .int a] s (some (.int r.1), r.2)) ∧ (∀ a s r, F_tp n 2 a s = some r → zKp zm_tp_readCompared ΛG (n + 9) [.ref 13, .int a] s (some (.int r.1), r.2)) ∧ (∀ a s r, F_tp n 3 a s = some r → zKp zm_tp_readSum ΛG (n + 9) [.ref 13, .int a] s (some (.int r.1), r.2)) ∧ (∀ a s r, F_tp n 4 a s = some r → zKp zm_tp_readProduct ΛG (n + 9) [.ref 13, .int a] s (some (.int r.1), r.2)) ∧ (∀ a s r, F_tp n 5 a s = some r → zKp zm_tp_readOperand ΛG (n + 9) [.ref 13, .int a] s (some (.int r.1), r.2))
  | 0 => ⟨fun _ _ _ h => (by cases h), fun _ _ _ h => (by cases h), fun _ _ _ h => (by cases h), fun _ _ _ h => (by cases h), fun _ _ _ h => (by cases h), fun _ _ _ h => (by cases h)⟩
  | n + 1 => by
    obtain ⟨h0, h1, h2, h3, h4, h5⟩ := K_tp n
    have e : n + 1 + 9 = n + 9 + 1 := by omega
    rw [e]
    exact ⟨fun a s r h => kb_tp_readEither _ (by omega) h1 a s r h, fun a s r h => kb_tp_readBoth _ (by omega) h2 a s r h, fun a s r h => kb_tp_readCompared _ (by omega) h3 a s r h, fun a s r h => kb_tp_readSum _ (by omega) h4 a s r h, fun a s r h => kb_tp_readProduct _ (by omega) h5 a s r h, fun a s r h => kb_tp_readOperand _ _ (by omega) h0 h5 a s r h⟩
theorem k_tp_readEither (a0 : Int32) (s : zSt) (r : Int32 × zSt) (hf : f_tp_readEither a0 s = some r) : zKp zm_tp_readEither ΛG 79 [.ref 13, .int a0] s (some (.int r.1), r.2) := (K_tp 70).1 a0 s r hf
set_option maxRecDepth 20000 in
theorem k_tp_readLine (s : zSt) (r : Int32 × zSt) (hf : f_tp_readLine s = some r) : zKp zm_tp_readLine ΛG 80 [.ref 13] s (some (.int r.1), r.2) := by
  refine zKp_of zmk_tp_readLine rfl ?_
  show zWA _ _ _ _ _ [(0, .ref 13)] _ _
  refine zB zlokG 2 (pc' := 2) (ls' := [(0, .ref 13)]) (st' := [.int 0, .ref 13]) (s' := s) rfl ?_
  refine zXI hf (As := [.int 0]) (rest := []) 1 zmk_tp_readEither zok_tp_readEither zl_455 rfl rfl rfl rfl rfl rfl rfl rfl (fun _ e => k_tp_readEither _ _ _ e) (fun x1 hf => ?_)
  refine zIne hf (tgt := 10) rfl (by decide) (fun hc hf => ?_) (fun hc hf => ?_)
  · refine zB zlokG 1 (pc' := 9) (ls' := [(0, .ref 13)]) (st' := [.int 0]) (s' := x1.2) rfl ?_
    exact zRetZc hf (by decide) rfl rfl
  · refine zB zlokG 2 (pc' := 13) (ls' := [(0, .ref 13)]) (st' := [.int 63, .ref 13]) (s' := x1.2) rfl ?_
    refine zXI hf (As := [.int 63]) (rest := []) 1 zmk_tp_took zok_tp_took zl_499 rfl rfl rfl rfl rfl rfl rfl rfl (fun _ e => k_tp_took _ _ _ e) (fun x2 hf => ?_)
    refine zIne hf (tgt := 26) rfl (by decide) (fun hc hf => ?_) (fun hc hf => ?_)
    · refine zB zlokG 2 (pc' := 22) (ls' := [(0, .ref 13)]) (st' := [.int (-59), .ref 13]) (s' := x2.2) rfl ?_
      refine zXI hf (As := [.int (-59)]) (rest := []) 1 zmk_tp_step zok_tp_step zl_490 rfl rfl rfl rfl rfl rfl rfl rfl (fun _ e => k_tp_step _ _ _ e) (fun x3 hf => ?_)
      exact zRetZb hf rfl rfl
    · refine zB zlokG 2 (pc' := 28) (ls' := [(0, .ref 13)]) (st' := [.int 0, .ref 13]) (s' := x2.2) rfl ?_
      refine zXI hf (As := [.int 0]) (rest := []) 1 zmk_tp_readEither zok_tp_readEither zl_455 rfl rfl rfl rfl rfl rfl rfl rfl (fun _ e => k_tp_readEither _ _ _ e) (fun x4 hf => ?_)
      refine zIeq hf (tgt := 47) rfl (by decide) (fun hc hf => ?_) (fun hc hf => ?_)
      · refine zB zlokG 1 (pc' := 48) (ls' := [(0, .ref 13)]) (st' := [.int 0]) (s' := x4.2) rfl ?_
        exact zRetZc hf (by decide) rfl rfl
      · refine zB zlokG 2 (pc' := 37) (ls' := [(0, .ref 13)]) (st' := [.int (-63), .ref 13]) (s' := x4.2) rfl ?_
        refine zXI hf (As := [.int (-63)]) (rest := []) 1 zmk_tp_step zok_tp_step zl_490 rfl rfl rfl rfl rfl rfl rfl rfl (fun _ e => k_tp_step _ _ _ e) (fun x5 hf => ?_)
        refine zIeq hf (tgt := 47) rfl (by decide) (fun hc hf => ?_) (fun hc hf => ?_)
        · refine zB zlokG 1 (pc' := 48) (ls' := [(0, .ref 13)]) (st' := [.int 0]) (s' := x5.2) rfl ?_
          exact zRetZc hf (by decide) rfl rfl
        · refine zB zlokG 1 (pc' := 44) (ls' := [(0, .ref 13)]) (st' := [.int 1]) (s' := x5.2) rfl ?_
          refine zGoto (tgt := 48) rfl (by decide) ?_
          exact zRetZc hf (by decide) rfl rfl
set_option maxRecDepth 20000 in
theorem c_f_tp_read_60 {r : Int32 × zSt} : ∀ (v1 : Int32) (s : zSt), f_tp_read_60 v1 s = some r → zWA zm_tp_read ΛG 81 (some (.int r.1), r.2) 60 [(0, .ref 13), (1, .int v1)] [] s := by
  intro v1 s hf
  refine zB zlokG 1 (pc' := 61) (ls' := [(0, .ref 13), (1, .int v1)]) (st' := [.int v1]) (s' := s) rfl ?_
  refine zIeq hf (tgt := 79) rfl (by decide) (fun hc hf => ?_) (fun hc hf => ?_)
  · refine zB zlokG 2 (pc' := 83) (ls' := [(0, .ref 13), (1, .int v1)]) (st' := [.int (s.1 13 4)]) (s' := s) rfl ?_
    exact zRetI hf rfl rfl
  · refine zB zlokG 4 (pc' := 72) (ls' := [(0, .ref 13), (1, .int v1)]) (st' := [.int (s.1 13 1), .int (s.1 13 4)]) (s' := s) rfl ?_
    refine zCne hf (tgt := 79) rfl (by decide) (fun hc hf => ?_) (fun hc hf => ?_)
    · refine zB zlokG 1 (pc' := 76) (ls' := [(0, .ref 13), (1, .int v1)]) (st' := [.int (-1)]) (s' := s) rfl ?_
      refine zGoto (tgt := 83) rfl (by decide) ?_
      exact zRetI hf rfl rfl
    · refine zB zlokG 2 (pc' := 83) (ls' := [(0, .ref 13), (1, .int v1)]) (st' := [.int (s.1 13 4)]) (s' := s) rfl ?_
      exact zRetI hf rfl rfl
set_option maxRecDepth 20000 in
theorem c_f_tp_read_16 {r : Int32 × zSt} : ∀ (n : Nat) (v1 : Int32) (v2 : Int32) (v3 : Int32) (s : zSt), f_tp_read_16 n v1 v2 v3 s = some r → zWA zm_tp_read ΛG 81 (some (.int r.1), r.2) 16 [(0, .ref 13), (1, .int v1), (2, .int v2), (3, .int v3)] [] s := by
  intro n
  induction n with
  | zero => intro v1 v2 v3 s hf; cases hf
  | succ n ih =>
    intro v1 v2 v3 s hf
    refine zB zlokG 1 (pc' := 17) (ls' := [(0, .ref 13), (1, .int v1), (2, .int v2), (3, .int v3)]) (st' := [.int v1]) (s' := s) rfl ?_
    refine zIeq hf (tgt := 60) rfl (by decide) (fun hc hf => ?_) (fun hc hf => ?_)
    · refine zLoc [0, 1] rfl ?_
      exact c_f_tp_read_60 _ _ hf
    · refine zB zlokG 1 (pc' := 21) (ls' := [(0, .ref 13), (1, .int v1), (2, .int v2), (3, .int v3)]) (st' := [.int v2]) (s' := s) rfl ?_
      refine zIeq hf (tgt := 60) rfl (by decide) (fun hc hf => ?_) (fun hc hf => ?_)
      · refine zLoc [0, 1] rfl ?_
        exact c_f_tp_read_60 _ _ hf
      · refine zB zlokG 2 (pc' := 27) (ls' := [(0, .ref 13), (1, .int v1), (2, .int v2), (3, .int v3)]) (st' := [.int 120, .int v3]) (s' := s) rfl ?_
        refine zCgt hf (tgt := 60) rfl (by decide) (fun hc hf => ?_) (fun hc hf => ?_)
        · refine zLoc [0, 1] rfl ?_
          exact c_f_tp_read_60 _ _ hf
        · refine zB zlokG 1 (pc' := 31) (ls' := [(0, .ref 13), (1, .int v1), (2, .int v2), (3, .int v3)]) (st' := [.ref 13]) (s' := s) rfl ?_
          refine zXI hf (As := []) (rest := []) 0 zmk_tp_readLine zok_tp_readLine zl_451 rfl rfl rfl rfl rfl rfl rfl rfl (fun _ e => k_tp_readLine _ _ e) (fun x1 hf => ?_)
          refine zB zlokG 2 (pc' := 36) (ls' := [(1, .int x1.1), (0, .ref 13), (2, .int v2), (3, .int v3)]) (st' := [.int x1.1]) (s' := x1.2) rfl ?_
          refine zIeq hf (tgt := 52) rfl (by decide) (fun hc hf => ?_) (fun hc hf => ?_)
          · refine zB zlokG 3 (pc' := 57) (ls' := [(3, .int (v3 + 1)), (2, .int 0), (1, .int x1.1), (0, .ref 13)]) (st' := []) (s' := x1.2) rfl ?_
            refine zGoto (tgt := 16) rfl (by decide) ?_
            refine zLoc [3, 2, 1, 0] rfl ?_
            exact ih _ _ _ _ hf
          · refine zB zlokG 2 (pc' := 42) (ls' := [(1, .int x1.1), (0, .ref 13), (2, .int v2), (3, .int v3)]) (st' := [.int 59, .ref 13]) (s' := x1.2) rfl ?_
            refine zXI hf (As := [.int 59]) (rest := []) 1 zmk_tp_took zok_tp_took zl_499 rfl rfl rfl rfl rfl rfl rfl rfl (fun _ e => k_tp_took _ _ _ e) (fun x2 hf => ?_)
            refine zIeq hf (tgt := 52) rfl (by decide) (fun hc hf => ?_) (fun hc hf => ?_)
            · refine zB zlokG 3 (pc' := 57) (ls' := [(3, .int (v3 + 1)), (2, .int 0), (1, .int x1.1), (0, .ref 13)]) (st' := []) (s' := x2.2) rfl ?_
              refine zGoto (tgt := 16) rfl (by decide) ?_
              refine zLoc [3, 2, 1, 0] rfl ?_
              exact ih _ _ _ _ hf
            · refine zB zlokG 1 (pc' := 49) (ls' := [(1, .int x1.1), (0, .ref 13), (2, .int v2), (3, .int v3)]) (st' := [.int 1]) (s' := x2.2) rfl ?_
              refine zGoto (tgt := 53) rfl (by decide) ?_
              refine zB zlokG 2 (pc' := 57) (ls' := [(3, .int (v3 + 1)), (2, .int 1), (1, .int x1.1), (0, .ref 13)]) (st' := []) (s' := x2.2) rfl ?_
              refine zGoto (tgt := 16) rfl (by decide) ?_
              refine zLoc [3, 2, 1, 0] rfl ?_
              exact ih _ _ _ _ hf
set_option maxRecDepth 20000 in
theorem k_tp_read (s : zSt) (r : Int32 × zSt) (hf : f_tp_read s = some r) : zKp zm_tp_read ΛG 81 [.ref 13] s (some (.int r.1), r.2) := by
  refine zKp_of zmk_tp_read rfl ?_
  show zWA _ _ _ _ _ [(0, .ref 13)] _ _
  refine zB zlokG 12 (pc' := 16) (ls' := [(3, .int 0), (2, .int 1), (1, .int 1), (0, .ref 13)]) (st' := []) (s' := (zw (zw s 13 4 0) 13 3 0)) rfl ?_
  refine zLoc [3, 2, 1, 0] rfl ?_
  exact c_f_tp_read_16 zFu _ _ _ _ hf
set_option maxRecDepth 20000 in
theorem k_th_addedInAllOrders (a0 : Int32) (s : zSt) (r : Int32 × zSt) (hf : f_th_addedInAllOrders a0 s = some r) : zKp zm_th_addedInAllOrders ΛG 0 [.ref 29, .int a0] s (some (.int r.1), r.2) := by
  refine zKp_of zmk_th_addedInAllOrders rfl ?_
  show zWA _ _ _ _ _ [(0, .ref 29), (1, .int a0)] _ _
  refine zB zlokG 24 (pc' := 27) (ls' := [(4, .int (1 <<< ((zrem (a0 + 2) 3) &&& 31))), (3, .int (1 <<< ((zrem (a0 + 1) 3) &&& 31))), (2, .int (1 <<< (a0 &&& 31))), (0, .ref 29), (1, .int a0)]) (st' := [.int (1 <<< (a0 &&& 31)), .ref 30, .int 2]) (s' := s) rfl ?_
  refine zIald hf rfl (by rfl) (fun x1 hf => ?_)
  refine zB zlokG 6 (pc' := 36) (ls' := [(4, .int (1 <<< ((zrem (a0 + 2) 3) &&& 31))), (3, .int (1 <<< ((zrem (a0 + 1) 3) &&& 31))), (2, .int (1 <<< (a0 &&& 31))), (0, .ref 29), (1, .int a0)]) (st' := [.int ((1 <<< (a0 &&& 31)) ||| (1 <<< ((zrem (a0 + 1) 3) &&& 31))), .ref 30, .int (2 * x1)]) (s' := s) rfl ?_
  refine zIald hf rfl (by rfl) (fun x2 hf => ?_)
  refine zB zlokG 4 (pc' := 43) (ls' := [(4, .int (1 <<< ((zrem (a0 + 2) 3) &&& 31))), (3, .int (1 <<< ((zrem (a0 + 1) 3) &&& 31))), (2, .int (1 <<< (a0 &&& 31))), (0, .ref 29), (1, .int a0)]) (st' := [.int (1 <<< ((zrem (a0 + 1) 3) &&& 31)), .ref 30, .int ((2 * x1) + x2)]) (s' := s) rfl ?_
  refine zIald hf rfl (by rfl) (fun x3 hf => ?_)
  refine zB zlokG 6 (pc' := 53) (ls' := [(4, .int (1 <<< ((zrem (a0 + 2) 3) &&& 31))), (3, .int (1 <<< ((zrem (a0 + 1) 3) &&& 31))), (2, .int (1 <<< (a0 &&& 31))), (0, .ref 29), (1, .int a0)]) (st' := [.int ((1 <<< (a0 &&& 31)) ||| (1 <<< ((zrem (a0 + 2) 3) &&& 31))), .ref 30, .int (((2 * x1) + x2) - x3)]) (s' := s) rfl ?_
  refine zIald hf rfl (by rfl) (fun x4 hf => ?_)
  refine zB zlokG 4 (pc' := 61) (ls' := [(4, .int (1 <<< ((zrem (a0 + 2) 3) &&& 31))), (3, .int (1 <<< ((zrem (a0 + 1) 3) &&& 31))), (2, .int (1 <<< (a0 &&& 31))), (0, .ref 29), (1, .int a0)]) (st' := [.int (1 <<< ((zrem (a0 + 2) 3) &&& 31)), .ref 30, .int ((((2 * x1) + x2) - x3) + x4)]) (s' := s) rfl ?_
  refine zIald hf rfl (by rfl) (fun x5 hf => ?_)
  refine zB zlokG 5 (pc' := 70) (ls' := [(4, .int (1 <<< ((zrem (a0 + 2) 3) &&& 31))), (3, .int (1 <<< ((zrem (a0 + 1) 3) &&& 31))), (2, .int (1 <<< (a0 &&& 31))), (0, .ref 29), (1, .int a0)]) (st' := [.int 7, .ref 30, .int 2, .int (((((2 * x1) + x2) - x3) + x4) - x5)]) (s' := s) rfl ?_
  refine zIald hf rfl (by rfl) (fun x6 hf => ?_)
  refine zB zlokG 5 (pc' := 79) (ls' := [(4, .int (1 <<< ((zrem (a0 + 2) 3) &&& 31))), (3, .int (1 <<< ((zrem (a0 + 1) 3) &&& 31))), (2, .int (1 <<< (a0 &&& 31))), (0, .ref 29), (1, .int a0)]) (st' := [.int ((1 <<< ((zrem (a0 + 1) 3) &&& 31)) ||| (1 <<< ((zrem (a0 + 2) 3) &&& 31))), .ref 30, .int x6, .int 2, .int (((((2 * x1) + x2) - x3) + x4) - x5)]) (s' := s) rfl ?_
  refine zIald hf rfl (by rfl) (fun x7 hf => ?_)
  refine zB zlokG 3 (pc' := 83) (ls' := [(4, .int (1 <<< ((zrem (a0 + 2) 3) &&& 31))), (3, .int (1 <<< ((zrem (a0 + 1) 3) &&& 31))), (2, .int (1 <<< (a0 &&& 31))), (0, .ref 29), (1, .int a0)]) (st' := [.int ((((((2 * x1) + x2) - x3) + x4) - x5) + (2 * (x6 - x7)))]) (s' := s) rfl ?_
  exact zRetI hf rfl rfl
set_option maxRecDepth 20000 in
theorem k_th_above (a0 : Int32) (a1 : Int32) (s : zSt) (r : Int32 × zSt) (hf : f_th_above a0 a1 s = some r) : zKp zm_th_above ΛG 1 [.ref 29, .int a0, .int a1] s (some (.int r.1), r.2) := by
  refine zKp_of zmk_th_above rfl ?_
  show zWA _ _ _ _ _ [(0, .ref 29), (1, .int a0), (2, .int a1)] _ _
  refine zB zlokG 1 (pc' := 1) (ls' := [(0, .ref 29), (1, .int a0), (2, .int a1)]) (st' := [.int a1]) (s' := s) rfl ?_
  refine zIne hf (tgt := 12) rfl (by decide) (fun hc hf => ?_) (fun hc hf => ?_)
  · refine zB zlokG 3 (pc' := 10) (ls' := [(0, .ref 29), (1, .int a0), (2, .int a1)]) (st' := [.int 7, .ref 30]) (s' := s) rfl ?_
    refine zIald hf rfl (by rfl) (fun x1 hf => ?_)
    exact zRetI hf rfl rfl
  · refine zB zlokG 2 (pc' := 14) (ls' := [(0, .ref 29), (1, .int a0), (2, .int a1)]) (st' := [.int 1, .int a1]) (s' := s) rfl ?_
    refine zCne hf (tgt := 34) rfl (by decide) (fun hc hf => ?_) (fun hc hf => ?_)
    · refine zB zlokG 3 (pc' := 23) (ls' := [(0, .ref 29), (1, .int a0), (2, .int a1)]) (st' := [.int 7, .ref 30]) (s' := s) rfl ?_
      refine zIald hf rfl (by rfl) (fun x2 hf => ?_)
      refine zB zlokG 3 (pc' := 29) (ls' := [(0, .ref 29), (1, .int a0), (2, .int a1)]) (st' := [.int a0, .ref 31, .int x2]) (s' := s) rfl ?_
      refine zIald hf rfl (by rfl) (fun x3 hf => ?_)
      refine zB zlokG 1 (pc' := 31) (ls' := [(0, .ref 29), (1, .int a0), (2, .int a1)]) (st' := [.int (x2 * x3)]) (s' := s) rfl ?_
      refine zGoto (tgt := 39) rfl (by decide) ?_
      exact zRetI hf rfl rfl
    · refine zB zlokG 2 (pc' := 36) (ls' := [(0, .ref 29), (1, .int a0), (2, .int a1)]) (st' := [.int a0, .ref 29]) (s' := s) rfl ?_
      refine zXI hf (As := [.int a0]) (rest := []) 1 zmk_th_addedInAllOrders zok_th_addedInAllOrders zl_714 rfl rfl rfl rfl rfl rfl rfl rfl (fun _ e => k_th_addedInAllOrders _ _ _ e) (fun x4 hf => ?_)
      exact zRetI hf rfl rfl
set_option maxRecDepth 20000 in
theorem k_th_below (a0 : Int32) (s : zSt) (r : Int32 × zSt) (hf : f_th_below a0 s = some r) : zKp zm_th_below ΛG 1 [.ref 29, .int a0] s (some (.int r.1), r.2) := by
  refine zKp_of zmk_th_below rfl ?_
  show zWA _ _ _ _ _ [(0, .ref 29), (1, .int a0)] _ _
  refine zB zlokG 1 (pc' := 1) (ls' := [(0, .ref 29), (1, .int a0)]) (st' := [.int a0]) (s' := s) rfl ?_
  refine zIne hf (tgt := 6) rfl (by decide) (fun hc hf => ?_) (fun hc hf => ?_)
  · refine zB zlokG 1 (pc' := 5) (ls' := [(0, .ref 29), (1, .int a0)]) (st' := [.int 3]) (s' := s) rfl ?_
    exact zRetI hf rfl rfl
  · refine zB zlokG 2 (pc' := 8) (ls' := [(0, .ref 29), (1, .int a0)]) (st' := [.int 1, .int a0]) (s' := s) rfl ?_
    refine zCne hf (tgt := 38) rfl (by decide) (fun hc hf => ?_) (fun hc hf => ?_)
    · refine zB zlokG 4 (pc' := 17) (ls' := [(0, .ref 29), (1, .int a0)]) (st' := [.int 0, .ref 31, .int 1]) (s' := s) rfl ?_
      refine zIald hf rfl (by rfl) (fun x1 hf => ?_)
      refine zB zlokG 3 (pc' := 23) (ls' := [(0, .ref 29), (1, .int a0)]) (st' := [.int 1, .ref 31, .int x1, .int 1]) (s' := s) rfl ?_
      refine zIald hf rfl (by rfl) (fun x2 hf => ?_)
      refine zB zlokG 4 (pc' := 30) (ls' := [(0, .ref 29), (1, .int a0)]) (st' := [.int 2, .ref 31, .int (x1 + x2), .int 1]) (s' := s) rfl ?_
      refine zIald hf rfl (by rfl) (fun x3 hf => ?_)
      refine zB zlokG 1 (pc' := 32) (ls' := [(0, .ref 29), (1, .int a0)]) (st' := [.int ((x1 + x2) + x3), .int 1]) (s' := s) rfl ?_
      refine zMaxI zl_722 rfl rfl rfl ?_
      refine zGoto (tgt := 40) rfl (by decide) ?_
      exact zRetI hf rfl rfl
    · refine zB zlokG 1 (pc' := 40) (ls' := [(0, .ref 29), (1, .int a0)]) (st' := [.int 6]) (s' := s) rfl ?_
      exact zRetI hf rfl rfl
set_option maxRecDepth 20000 in
theorem k_g_heat (a0 : Int32) (a1 : Int32) (s : zSt) (r : Int32 × zSt) (hf : f_g_heat a0 a1 s = some r) : zKp zm_g_heat ΛG 2 [.ref 0, .int a0, .int a1] s (some (.int r.1), r.2) := by
  refine zKp_of zmk_g_heat rfl ?_
  show zWA _ _ _ _ _ [(0, .ref 0), (1, .int a0), (2, .int a1)] _ _
  refine zB zlokG 1 (pc' := 1) (ls' := [(0, .ref 0), (1, .int a0), (2, .int a1)]) (st' := [.int a0]) (s' := s) rfl ?_
  refine zSI hf (As := [.int a0]) (rest := []) 1 zmk_g_isQuarter zok_g_isQuarter zl_337 rfl rfl rfl rfl rfl (fun _ e => k_g_isQuarter _ _ _ e) (fun x1 hf => ?_)
  refine zIeq hf (tgt := 17) rfl (by decide) (fun hc hf => ?_) (fun hc hf => ?_)
  · refine zB zlokG 1 (pc' := 18) (ls' := [(0, .ref 0), (1, .int a0), (2, .int a1)]) (st' := [.int (-1)]) (s' := x1.2) rfl ?_
    exact zRetI hf rfl rfl
  · refine zB zlokG 3 (pc' := 11) (ls' := [(0, .ref 0), (1, .int a0), (2, .int a1)]) (st' := [.int 40, .int 0, .int a1]) (s' := x1.2) rfl ?_
    refine zSI hf (As := [.int a1, .int 0, .int 40]) (rest := []) 3 zmk_g_isWithin zok_g_isWithin zl_340 rfl rfl rfl rfl rfl (fun _ e => k_g_isWithin _ _ _ _ _ e) (fun x2 hf => ?_)
    refine zIne hf (tgt := 19) rfl (by decide) (fun hc hf => ?_) (fun hc hf => ?_)
    · refine zB zlokG 1 (pc' := 18) (ls' := [(0, .ref 0), (1, .int a0), (2, .int a1)]) (st' := [.int (-1)]) (s' := x2.2) rfl ?_
      exact zRetI hf rfl rfl
    · refine zB zlokG 4 (pc' := 27) (ls' := [(0, .ref 0), (1, .int a0), (2, .int a1)]) (st' := [.int a0, .ref 7]) (s' := x2.2) rfl ?_
      refine zIald hf rfl (by rfl) (fun x3 hf => ?_)
      refine zB zlokG 6 (pc' := 38) (ls' := [(3, .int x3), (0, .ref 0), (1, .int a0), (2, .int a1)]) (st' := [.int a1, .int a0, .ref 7]) (s' := x2.2) rfl ?_
      refine zIast hf rfl (by rfl) (fun s4 hf => ?_)
      refine zB zlokG 1 (pc' := 40) (ls' := [(3, .int x3), (0, .ref 0), (1, .int a0), (2, .int a1)]) (st' := [.int x3]) (s' := s4) rfl ?_
      exact zRetI hf rfl rfl
set_option maxRecDepth 20000 in
theorem c_f_g_heatsCome_3 (oS : Nat) (hS : zShAt oS) {r : Int32 × zSt} : ∀ (n : Nat) (v2 : Int32) (v3 : Int32) (v4 : Int32) (v5 : Int32) (s : zSt), f_g_heatsCome_3 oS n v2 v3 v4 v5 s = some r → zWA zm_g_heatsCome ΛG 2 (some (.int r.1), r.2) 3 [(0, .ref 0), (1, .ref oS), (2, .int v2), (3, .int v3), (4, .int v4), (5, .int v5)] [] s := by
  intro n
  induction n with
  | zero => intro v2 v3 v4 v5 s hf; cases hf
  | succ n ih =>
    intro v2 v3 v4 v5 s hf
    refine zB zlokG 2 (pc' := 7) (ls' := [(0, .ref 0), (1, .ref oS), (2, .int v2), (3, .int v3), (4, .int v4), (5, .int v5)]) (st' := [.int v4, .int v5]) (s' := s) rfl ?_
    refine zCge hf (tgt := 79) rfl (by decide) (fun hc hf => ?_) (fun hc hf => ?_)
    · refine zB zlokG 1 (pc' := 81) (ls' := [(0, .ref 0), (1, .ref oS), (2, .int v2), (3, .int v3), (4, .int v4), (5, .int v5)]) (st' := [.int v5]) (s' := s) rfl ?_
      exact zRetI hf rfl rfl
    · refine zB zlokG 3 (pc' := 14) (ls' := [(0, .ref 0), (1, .ref oS), (2, .int v2), (3, .int v3), (4, .int v4), (5, .int v5)]) (st' := [.int (v3 + v5)]) (s' := s) rfl ?_
      refine zSI hf (As := [.int (v3 + v5)]) (rest := []) 1 zmk_g_isQuarter zok_g_isQuarter zl_337 rfl rfl rfl rfl rfl (fun _ e => k_g_isQuarter _ _ _ e) (fun x1 hf => ?_)
      refine zIeq hf (tgt := 79) rfl (by decide) (fun hc hf => ?_) (fun hc hf => ?_)
      · refine zB zlokG 1 (pc' := 81) (ls' := [(0, .ref 0), (1, .ref oS), (2, .int v2), (3, .int v3), (4, .int v4), (5, .int v5)]) (st' := [.int v5]) (s' := x1.2) rfl ?_
        exact zRetI hf rfl rfl
      · refine zB zlokG 5 (pc' := 26) (ls' := [(0, .ref 0), (1, .ref oS), (2, .int v2), (3, .int v3), (4, .int v4), (5, .int v5)]) (st' := [.int (v5 + 1), .int v2, .ref oS]) (s' := x1.2) rfl ?_
        refine zXI hf (As := [.int v2, .int (v5 + 1)]) (rest := []) 2 zmk_sh_hasPlaces zok_sh_hasPlaces zl_363 rfl hS.1 rfl rfl rfl rfl rfl rfl (fun _ e => k_sh_hasPlaces _ _ _ hS _ _ e) (fun x2 hf => ?_)
        refine zIeq hf (tgt := 79) rfl (by decide) (fun hc hf => ?_) (fun hc hf => ?_)
        · refine zB zlokG 1 (pc' := 81) (ls' := [(0, .ref 0), (1, .ref oS), (2, .int v2), (3, .int v3), (4, .int v4), (5, .int v5)]) (st' := [.int v5]) (s' := x2.2) rfl ?_
          exact zRetI hf rfl rfl
        · refine zB zlokG 1 (pc' := 33) (ls' := [(0, .ref 0), (1, .ref oS), (2, .int v2), (3, .int v3), (4, .int v4), (5, .int v5)]) (st' := [.ref oS]) (s' := x2.2) rfl ?_
          refine zGetR (j := 3) rfl rfl hS.1 rfl ?_
          refine zB zlokG 3 (pc' := 40) (ls' := [(0, .ref 0), (1, .ref oS), (2, .int v2), (3, .int v3), (4, .int v4), (5, .int v5)]) (st' := [.int (v2 + v5), .ref (oS + 1)]) (s' := x2.2) rfl ?_
          refine zLald hf rfl hS.2 (fun x3 hf => ?_)
          refine zB zlokG 3 (pc' := 45) (ls' := [(0, .ref 0), (1, .ref oS), (2, .int v2), (3, .int v3), (4, .int v4), (5, .int v5)]) (st' := [.int 40, .int 0, .int (x3 : Int64).toInt32]) (s' := x2.2) rfl ?_
          refine zSI hf (As := [.int (x3 : Int64).toInt32, .int 0, .int 40]) (rest := []) 3 zmk_g_isWithin zok_g_isWithin zl_340 rfl rfl rfl rfl rfl (fun _ e => k_g_isWithin _ _ _ _ _ e) (fun x4 hf => ?_)
          refine zIeq hf (tgt := 79) rfl (by decide) (fun hc hf => ?_) (fun hc hf => ?_)
          · refine zB zlokG 1 (pc' := 81) (ls' := [(0, .ref 0), (1, .ref oS), (2, .int v2), (3, .int v3), (4, .int v4), (5, .int v5)]) (st' := [.int v5]) (s' := x4.2) rfl ?_
            exact zRetI hf rfl rfl
          · refine zB zlokG 7 (pc' := 63) (ls' := [(0, .ref 0), (1, .ref oS), (2, .int v2), (3, .int v3), (4, .int v4), (5, .int v5)]) (st' := [.ref oS, .int (v3 + v5), .ref 7]) (s' := x4.2) rfl ?_
            refine zGetR (j := 3) rfl rfl hS.1 rfl ?_
            refine zB zlokG 3 (pc' := 70) (ls' := [(0, .ref 0), (1, .ref oS), (2, .int v2), (3, .int v3), (4, .int v4), (5, .int v5)]) (st' := [.int (v2 + v5), .ref (oS + 1), .int (v3 + v5), .ref 7]) (s' := x4.2) rfl ?_
            refine zLald hf rfl hS.2 (fun x5 hf => ?_)
            refine zB zlokG 1 (pc' := 72) (ls' := [(0, .ref 0), (1, .ref oS), (2, .int v2), (3, .int v3), (4, .int v4), (5, .int v5)]) (st' := [.int (x5 : Int64).toInt32, .int (v3 + v5), .ref 7]) (s' := x4.2) rfl ?_
            refine zIast hf rfl (by rfl) (fun s6 hf => ?_)
            refine zB zlokG 1 (pc' := 76) (ls' := [(5, .int (v5 + 1)), (0, .ref 0), (1, .ref oS), (2, .int v2), (3, .int v3), (4, .int v4)]) (st' := []) (s' := s6) rfl ?_
            refine zGoto (tgt := 3) rfl (by decide) ?_
            refine zLoc [1, 2, 3, 4, 5, 0] rfl ?_
            exact ih _ _ _ _ _ hf
set_option maxRecDepth 20000 in
theorem k_g_heatsCome (oS : Nat) (a1 : Int32) (a2 : Int32) (a3 : Int32) (hS : zShAt oS) (s : zSt) (r : Int32 × zSt) (hf : f_g_heatsCome oS a1 a2 a3 s = some r) : zKp zm_g_heatsCome ΛG 2 [.ref 0, .ref oS, .int a1, .int a2, .int a3] s (some (.int r.1), r.2) := by
  refine zKp_of zmk_g_heatsCome rfl ?_
  show zWA _ _ _ _ _ [(0, .ref 0), (1, .ref oS), (2, .int a1), (3, .int a2), (4, .int a3)] _ _
  refine zB zlokG 2 (pc' := 3) (ls' := [(5, .int 0), (0, .ref 0), (1, .ref oS), (2, .int a1), (3, .int a2), (4, .int a3)]) (st' := []) (s' := s) rfl ?_
  refine zLoc [1, 2, 3, 4, 5, 0] rfl ?_
  exact c_f_g_heatsCome_3 oS hS zFu _ _ _ _ _ hf
set_option maxRecDepth 20000 in
theorem k_g_heats (a0 : Int32) (a1 : Int32) (a2 : Int32) (s : zSt) (r : Int32 × zSt) (hf : f_g_heats a0 a1 a2 s = some r) : zKp zm_g_heats ΛG 4 [.ref 0, .int a0, .int a1, .int a2] s (some (.int r.1), r.2) := by
  refine zKp_of zmk_g_heats rfl ?_
  show zWA _ _ _ _ _ [(0, .ref 0), (1, .int a0), (2, .int a1), (3, .int a2)] _ _
  refine zB zlokG 2 (pc' := 2) (ls' := [(0, .ref 0), (1, .int a0), (2, .int a1), (3, .int a2)]) (st' := [.int a0, .ref 0]) (s' := s) rfl ?_
  refine zShelfAt hf zl_347 rfl rfl (by rfl) (fun j2 hj2 hf => ?_) (fun hf => ?_)
  · refine zB zlokG 2 (pc' := 9) (ls' := [(4, .ref (40 + 2 * j2)), (0, .ref 0), (1, .int a0), (2, .int a1), (3, .int a2)]) (st' := [.ref (40 + 2 * j2)]) (s' := s) rfl ?_
    refine zNull rfl ?_
    refine zB zlokG 1 (pc' := 13) (ls' := [(4, .ref (40 + 2 * j2)), (0, .ref 0), (1, .int a0), (2, .int a1), (3, .int a2)]) (st' := [.int a2]) (s' := s) rfl ?_
    refine zIlt hf (tgt := 39) rfl (by decide) (fun hc hf => ?_) (fun hc hf => ?_)
    · refine zB zlokG 1 (pc' := 40) (ls' := [(4, .ref (40 + 2 * j2)), (0, .ref 0), (1, .int a0), (2, .int a1), (3, .int a2)]) (st' := [.int (-1)]) (s' := s) rfl ?_
      exact zRetI hf rfl rfl
    · refine zB zlokG 3 (pc' := 20) (ls' := [(4, .ref (40 + 2 * j2)), (0, .ref 0), (1, .int a0), (2, .int a1), (3, .int a2)]) (st' := [.int (a2 / 100)]) (s' := s) rfl ?_
      refine zSI hf (As := [.int (a2 / 100)]) (rest := []) 1 zmk_g_isQuarter zok_g_isQuarter zl_337 rfl rfl rfl rfl rfl (fun _ e => k_g_isQuarter _ _ _ e) (fun x3 hf => ?_)
      refine zIeq hf (tgt := 39) rfl (by decide) (fun hc hf => ?_) (fun hc hf => ?_)
      · refine zB zlokG 1 (pc' := 40) (ls' := [(4, .ref (40 + 2 * j2)), (0, .ref 0), (1, .int a0), (2, .int a1), (3, .int a2)]) (st' := [.int (-1)]) (s' := x3.2) rfl ?_
        exact zRetI hf rfl rfl
      · refine zB zlokG 5 (pc' := 33) (ls' := [(4, .ref (40 + 2 * j2)), (0, .ref 0), (1, .int a0), (2, .int a1), (3, .int a2)]) (st' := [.int 32, .int 1, .int (zrem a2 100)]) (s' := x3.2) rfl ?_
        refine zSI hf (As := [.int (zrem a2 100), .int 1, .int 32]) (rest := []) 3 zmk_g_isWithin zok_g_isWithin zl_340 rfl rfl rfl rfl rfl (fun _ e => k_g_isWithin _ _ _ _ _ e) (fun x4 hf => ?_)
        refine zIne hf (tgt := 41) rfl (by decide) (fun hc hf => ?_) (fun hc hf => ?_)
        · refine zB zlokG 1 (pc' := 40) (ls' := [(4, .ref (40 + 2 * j2)), (0, .ref 0), (1, .int a0), (2, .int a1), (3, .int a2)]) (st' := [.int (-1)]) (s' := x4.2) rfl ?_
          exact zRetI hf rfl rfl
        · refine zB zlokG 1 (pc' := 43) (ls' := [(4, .ref (40 + 2 * j2)), (0, .ref 0), (1, .int a0), (2, .int a1), (3, .int a2)]) (st' := [.ref (40 + 2 * j2)]) (s' := x4.2) rfl ?_
          refine zXI hf (As := []) (rest := []) 0 zmk_sh_isEmpty zok_sh_isEmpty zl_351 rfl (zsh_at hj2).1 rfl rfl rfl rfl rfl rfl (fun _ e => k_sh_isEmpty _ (zsh_at hj2) _ _ e) (fun x5 hf => ?_)
          refine zIeq hf (tgt := 51) rfl (by decide) (fun hc hf => ?_) (fun hc hf => ?_)
          · refine zB zlokG 2 (pc' := 54) (ls' := [(4, .ref (40 + 2 * j2)), (0, .ref 0), (1, .int a0), (2, .int a1), (3, .int a2)]) (st' := [.int 0, .ref (40 + 2 * j2)]) (s' := x5.2) rfl ?_
            refine zXI hf (As := [.int 0]) (rest := []) 1 zmk_sh_isRowOf zok_sh_isRowOf zl_355 rfl (zsh_at hj2).1 rfl rfl rfl rfl rfl rfl (fun _ e => k_sh_isRowOf _ _ (zsh_at hj2) _ _ e) (fun x6 hf => ?_)
            refine zIne hf (tgt := 63) rfl (by decide) (fun hc hf => ?_) (fun hc hf => ?_)
            · refine zB zlokG 1 (pc' := 62) (ls' := [(4, .ref (40 + 2 * j2)), (0, .ref 0), (1, .int a0), (2, .int a1), (3, .int a2)]) (st' := [.int (-12)]) (s' := x6.2) rfl ?_
              exact zRetI hf rfl rfl
            · refine zB zlokG 9 (pc' := 75) (ls' := [(4, .ref (40 + 2 * j2)), (0, .ref 0), (1, .int a0), (2, .int a1), (3, .int a2)]) (st' := [.int (zrem a2 100), .int (a2 / 100), .int a1, .ref (40 + 2 * j2), .ref 0]) (s' := x6.2) rfl ?_
              refine zXI hf (As := [.ref (40 + 2 * j2), .int a1, .int (a2 / 100), .int (zrem a2 100)]) (rest := []) 4 zmk_g_heatsCome zok_g_heatsCome zl_359 rfl rfl rfl rfl rfl rfl rfl rfl (fun _ e => k_g_heatsCome _ _ _ _ (zsh_at hj2) _ _ e) (fun x7 hf => ?_)
              exact zRetI hf rfl rfl
          · refine zB zlokG 1 (pc' := 50) (ls' := [(4, .ref (40 + 2 * j2)), (0, .ref 0), (1, .int a0), (2, .int a1), (3, .int a2)]) (st' := [.int 0]) (s' := x5.2) rfl ?_
            exact zRetI hf rfl rfl
  · refine zB zlokG 2 (pc' := 9) (ls' := [(4, .null), (0, .ref 0), (1, .int a0), (2, .int a1), (3, .int a2)]) (st' := [.null]) (s' := s) rfl ?_
    refine zNullN (tgt := 39) rfl (by decide) ?_
    refine zB zlokG 1 (pc' := 40) (ls' := [(4, .null), (0, .ref 0), (1, .int a0), (2, .int a1), (3, .int a2)]) (st' := [.int (-1)]) (s' := s) rfl ?_
    exact zRetI hf rfl rfl
set_option maxRecDepth 20000 in
theorem k_g_place (s : zSt) (r : Int32 × zSt) (hf : f_g_place s = some r) : zKp zm_g_place ΛG 0 [.ref 0] s (some (.int r.1), r.2) := by
  refine zKp_of zmk_g_place rfl ?_
  show zWA _ _ _ _ _ [(0, .ref 0)] _ _
  refine zB zlokG 4 (pc' := 8) (ls' := [(0, .ref 0)]) (st' := [.int 4, .int (s.1 6 3)]) (s' := s) rfl ?_
  refine zClt hf (tgt := 14) rfl (by decide) (fun hc hf => ?_) (fun hc hf => ?_)
  · refine zB zlokG 8 (pc' := 28) (ls' := [(0, .ref 0)]) (st' := [.int (s.1 6 3)]) (s' := (zw s 6 3 ((s.1 6 3) + 1))) rfl ?_
    exact zRetI hf rfl rfl
  · refine zB zlokG 1 (pc' := 13) (ls' := [(0, .ref 0)]) (st' := [.int (-3)]) (s' := s) rfl ?_
    exact zRetI hf rfl rfl
set_option maxRecDepth 20000 in
theorem k_g_isSpan (a0 : Int32) (s : zSt) (r : Int32 × zSt) (hf : f_g_isSpan a0 s = some r) : zKp zm_g_isSpan ΛG 2 [.int a0] s (some (.int r.1), r.2) := by
  refine zKp_of zmk_g_isSpan rfl ?_
  show zWA _ _ _ _ _ [(0, .int a0)] _ _
  refine zB zlokG 1 (pc' := 1) (ls' := [(0, .int a0)]) (st' := [.int a0]) (s' := s) rfl ?_
  refine zIlt hf (tgt := 29) rfl (by decide) (fun hc hf => ?_) (fun hc hf => ?_)
  · refine zB zlokG 1 (pc' := 30) (ls' := [(0, .int a0)]) (st' := [.int 0]) (s' := s) rfl ?_
    exact zRetZc hf (by decide) rfl rfl
  · refine zB zlokG 3 (pc' := 8) (ls' := [(0, .int a0)]) (st' := [.int (zrem a0 100)]) (s' := s) rfl ?_
    refine zSI hf (As := [.int (zrem a0 100)]) (rest := []) 1 zmk_g_isQuarter zok_g_isQuarter zl_337 rfl rfl rfl rfl rfl (fun _ e => k_g_isQuarter _ _ _ e) (fun x1 hf => ?_)
    refine zIeq hf (tgt := 29) rfl (by decide) (fun hc hf => ?_) (fun hc hf => ?_)
    · refine zB zlokG 1 (pc' := 30) (ls' := [(0, .int a0)]) (st' := [.int 0]) (s' := x1.2) rfl ?_
      exact zRetZc hf (by decide) rfl rfl
    · refine zB zlokG 6 (pc' := 22) (ls' := [(0, .int a0)]) (st' := [.int (zrem a0 100), .int (a0 / 100)]) (s' := x1.2) rfl ?_
      refine zCgt hf (tgt := 29) rfl (by decide) (fun hc hf => ?_) (fun hc hf => ?_)
      · refine zB zlokG 1 (pc' := 30) (ls' := [(0, .int a0)]) (st' := [.int 0]) (s' := x1.2) rfl ?_
        exact zRetZc hf (by decide) rfl rfl
      · refine zB zlokG 1 (pc' := 26) (ls' := [(0, .int a0)]) (st' := [.int 1]) (s' := x1.2) rfl ?_
        refine zGoto (tgt := 30) rfl (by decide) ?_
        exact zRetZc hf (by decide) rfl rfl
