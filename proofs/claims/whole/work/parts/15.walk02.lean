/-! contracts: rc_glassCost sh_isEmpty sh_isRowOf sh_holdGlass sh_holdRow sh_hasPlaces sh_refusalOfSort sh_refusalOfPlaces sh_write sl_isName sl_write sl_balance sl_mostGroups sl_fewestPayments st_sumOfHeats st_keepImage st_takeImage st_isNext st_mostFrom st_lookAhead st_firstOfMost st_placeIn su_power su_ways su_meanSold su_divisor tp_add tp_clear tp_step tp_next tp_took tp_isDigit tp_readName tp_readNumber -/
set_option maxRecDepth 20000 in
theorem k_rc_glassCost (s : zSt) (r : Int32 × zSt) (hf : f_rc_glassCost s = some r) : zKp zm_rc_glassCost ΛG 1 [.ref 1] s (some (.int r.1), r.2) := by
  refine zKp_of zmk_rc_glassCost rfl ?_
  show zWA _ _ _ _ _ [(0, .ref 1)] _ _
  refine zB zlokG 3 (pc' := 5) (ls' := [(0, .ref 1)]) (st' := [.int 2, .ref 2]) (s' := s) rfl ?_
  refine zIald hf rfl (by rfl) (fun x1 hf => ?_)
  refine zIle hf (tgt := 23) rfl (by decide) (fun hc hf => ?_) (fun hc hf => ?_)
  · refine zB zlokG 1 (pc' := 24) (ls' := [(0, .ref 1)]) (st' := [.int 0]) (s' := s) rfl ?_
    exact zRetI hf rfl rfl
  · refine zB zlokG 1 (pc' := 10) (ls' := [(0, .ref 1)]) (st' := [.ref 1]) (s' := s) rfl ?_
    refine zXI hf (As := []) (rest := []) 0 zmk_rc_jugCost zok_rc_jugCost zl_427 rfl rfl rfl rfl rfl rfl rfl rfl (fun _ e => k_rc_jugCost _ _ e) (fun x2 hf => ?_)
    refine zB zlokG 3 (pc' := 18) (ls' := [(0, .ref 1)]) (st' := [.int 2, .ref 2, .int x2.1]) (s' := x2.2) rfl ?_
    refine zIald hf rfl (by rfl) (fun x3 hf => ?_)
    refine zDiv hf rfl (fun x4 hf => ?_)
    refine zGoto (tgt := 24) rfl (by decide) ?_
    exact zRetI hf rfl rfl
set_option maxRecDepth 20000 in
theorem k_sh_isEmpty (o : Nat) (ho : zShAt o) (s : zSt) (r : Int32 × zSt) (hf : f_sh_isEmpty o s = some r) : zKp zm_sh_isEmpty ΛG 0 [.ref o] s (some (.int r.1), r.2) := by
  refine zKp_of zmk_sh_isEmpty rfl ?_
  show zWA _ _ _ _ _ [(0, .ref o)] _ _
  refine zB zlokG 1 (pc' := 1) (ls' := [(0, .ref o)]) (st' := [.ref o]) (s' := s) rfl ?_
  refine zGetI (j := 0) rfl rfl ho.1 rfl ?_
  refine zB zlokG 1 (pc' := 5) (ls' := [(0, .ref o)]) (st' := [.int (-1), .int (s.1 o 0)]) (s' := s) rfl ?_
  refine zCne hf (tgt := 20) rfl (by decide) (fun hc hf => ?_) (fun hc hf => ?_)
  · refine zB zlokG 1 (pc' := 9) (ls' := [(0, .ref o)]) (st' := [.ref o]) (s' := s) rfl ?_
    refine zGetI (j := 1) rfl rfl ho.1 rfl ?_
    refine zB zlokG 1 (pc' := 13) (ls' := [(0, .ref o)]) (st' := [.int (-1), .int (s.1 o 1)]) (s' := s) rfl ?_
    refine zCne hf (tgt := 20) rfl (by decide) (fun hc hf => ?_) (fun hc hf => ?_)
    · refine zB zlokG 1 (pc' := 17) (ls' := [(0, .ref o)]) (st' := [.int 1]) (s' := s) rfl ?_
      refine zGoto (tgt := 21) rfl (by decide) ?_
      exact zRetZc hf (by decide) rfl rfl
    · refine zB zlokG 1 (pc' := 21) (ls' := [(0, .ref o)]) (st' := [.int 0]) (s' := s) rfl ?_
      exact zRetZc hf (by decide) rfl rfl
  · refine zB zlokG 1 (pc' := 21) (ls' := [(0, .ref o)]) (st' := [.int 0]) (s' := s) rfl ?_
    exact zRetZc hf (by decide) rfl rfl
set_option maxRecDepth 20000 in
theorem k_sh_isRowOf (o : Nat) (a0 : Int32) (ho : zShAt o) (s : zSt) (r : Int32 × zSt) (hf : f_sh_isRowOf o a0 s = some r) : zKp zm_sh_isRowOf ΛG 0 [.ref o, .int a0] s (some (.int r.1), r.2) := by
  refine zKp_of zmk_sh_isRowOf rfl ?_
  show zWA _ _ _ _ _ [(0, .ref o), (1, .int a0)] _ _
  refine zB zlokG 1 (pc' := 1) (ls' := [(0, .ref o), (1, .int a0)]) (st' := [.ref o]) (s' := s) rfl ?_
  refine zGetI (j := 1) rfl rfl ho.1 rfl ?_
  refine zB zlokG 1 (pc' := 5) (ls' := [(0, .ref o), (1, .int a0)]) (st' := [.int (-1), .int (s.1 o 1)]) (s' := s) rfl ?_
  refine zCeq hf (tgt := 20) rfl (by decide) (fun hc hf => ?_) (fun hc hf => ?_)
  · refine zB zlokG 1 (pc' := 21) (ls' := [(0, .ref o), (1, .int a0)]) (st' := [.int 0]) (s' := s) rfl ?_
    exact zRetZc hf (by decide) rfl rfl
  · refine zB zlokG 1 (pc' := 9) (ls' := [(0, .ref o), (1, .int a0)]) (st' := [.ref o]) (s' := s) rfl ?_
    refine zGetI (j := 1) rfl rfl ho.1 rfl ?_
    refine zB zlokG 1 (pc' := 13) (ls' := [(0, .ref o), (1, .int a0)]) (st' := [.int a0, .int (s.1 o 1)]) (s' := s) rfl ?_
    refine zCne hf (tgt := 20) rfl (by decide) (fun hc hf => ?_) (fun hc hf => ?_)
    · refine zB zlokG 1 (pc' := 17) (ls' := [(0, .ref o), (1, .int a0)]) (st' := [.int 1]) (s' := s) rfl ?_
      refine zGoto (tgt := 21) rfl (by decide) ?_
      exact zRetZc hf (by decide) rfl rfl
    · refine zB zlokG 1 (pc' := 21) (ls' := [(0, .ref o), (1, .int a0)]) (st' := [.int 0]) (s' := s) rfl ?_
      exact zRetZc hf (by decide) rfl rfl
set_option maxRecDepth 20000 in
theorem k_sh_holdGlass (o : Nat) (a0 : Int32) (ho : zShAt o) (s : zSt) (r : zSt) (hf : f_sh_holdGlass o a0 s = some r) : zKp zm_sh_holdGlass ΛG 0 [.ref o, .int a0] s (none, r) := by
  refine zKp_of zmk_sh_holdGlass rfl ?_
  show zWA _ _ _ _ _ [(0, .ref o), (1, .int a0)] _ _
  refine zB zlokG 2 (pc' := 2) (ls' := [(0, .ref o), (1, .int a0)]) (st' := [.int a0, .ref o]) (s' := s) rfl ?_
  refine zPutX zlkkG (j := 0) hf rfl rfl ho.1 rfl (Or.inl rfl) (fun s1 hf => ?_)
  refine zB zlokG 2 (pc' := 7) (ls' := [(0, .ref o), (1, .int a0)]) (st' := [.int (-1), .ref o]) (s' := s1) rfl ?_
  refine zPutX zlkkG (j := 1) hf rfl rfl ho.1 rfl (Or.inl rfl) (fun s2 hf => ?_)
  refine zB zlokG 2 (pc' := 12) (ls' := [(0, .ref o), (1, .int a0)]) (st' := [.int 0, .ref o]) (s' := s2) rfl ?_
  refine zPutX zlkkG (j := 2) hf rfl rfl ho.1 rfl (Or.inl rfl) (fun s3 hf => ?_)
  exact zRetV hf rfl rfl
set_option maxRecDepth 20000 in
theorem k_sh_holdRow (o : Nat) (a0 : Int32) (a1 : Int32) (ho : zShAt o) (s : zSt) (r : zSt) (hf : f_sh_holdRow o a0 a1 s = some r) : zKp zm_sh_holdRow ΛG 1 [.ref o, .int a0, .int a1] s (none, r) := by
  refine zKp_of zmk_sh_holdRow rfl ?_
  show zWA _ _ _ _ _ [(0, .ref o), (1, .int a0), (2, .int a1)] _ _
  refine zB zlokG 2 (pc' := 2) (ls' := [(0, .ref o), (1, .int a0), (2, .int a1)]) (st' := [.int (-1), .ref o]) (s' := s) rfl ?_
  refine zPutX zlkkG (j := 0) hf rfl rfl ho.1 rfl (Or.inl rfl) (fun s1 hf => ?_)
  refine zB zlokG 2 (pc' := 7) (ls' := [(0, .ref o), (1, .int a0), (2, .int a1)]) (st' := [.int a0, .ref o]) (s' := s1) rfl ?_
  refine zPutX zlkkG (j := 1) hf rfl rfl ho.1 rfl (Or.inl rfl) (fun s2 hf => ?_)
  refine zB zlokG 3 (pc' := 14) (ls' := [(0, .ref o), (1, .int a0), (2, .int a1)]) (st' := [.int 60, .int a1, .ref o]) (s' := s2) rfl ?_
  refine zMinI zl_857 rfl rfl rfl ?_
  refine zPutX zlkkG (j := 2) hf rfl rfl ho.1 rfl (Or.inl rfl) (fun s3 hf => ?_)
  refine zB zlokG 1 (pc' := 21) (ls' := [(0, .ref o), (1, .int a0), (2, .int a1)]) (st' := [.ref o]) (s' := s3) rfl ?_
  refine zGetR (j := 3) rfl rfl ho.1 rfl ?_
  refine zB zlokG 1 (pc' := 25) (ls' := [(0, .ref o), (1, .int a0), (2, .int a1)]) (st' := [.long 0, .ref (o + 1)]) (s' := s3) rfl ?_
  refine zFillL zlokG hf zl_858 rfl rfl rfl ho.2 (by decide) (fun s4 hf => ?_)
  exact zRetV hf rfl rfl
set_option maxRecDepth 20000 in
theorem k_sh_hasPlaces (o : Nat) (a0 : Int32) (a1 : Int32) (ho : zShAt o) (s : zSt) (r : Int32 × zSt) (hf : f_sh_hasPlaces o a0 a1 s = some r) : zKp zm_sh_hasPlaces ΛG 0 [.ref o, .int a0, .int a1] s (some (.int r.1), r.2) := by
  refine zKp_of zmk_sh_hasPlaces rfl ?_
  show zWA _ _ _ _ _ [(0, .ref o), (1, .int a0), (2, .int a1)] _ _
  refine zB zlokG 1 (pc' := 1) (ls' := [(0, .ref o), (1, .int a0), (2, .int a1)]) (st' := [.int a0]) (s' := s) rfl ?_
  refine zIlt hf (tgt := 30) rfl (by decide) (fun hc hf => ?_) (fun hc hf => ?_)
  · refine zB zlokG 1 (pc' := 31) (ls' := [(0, .ref o), (1, .int a0), (2, .int a1)]) (st' := [.int 0]) (s' := s) rfl ?_
    exact zRetZc hf (by decide) rfl rfl
  · refine zB zlokG 1 (pc' := 5) (ls' := [(0, .ref o), (1, .int a0), (2, .int a1)]) (st' := [.int a1]) (s' := s) rfl ?_
    refine zIlt hf (tgt := 30) rfl (by decide) (fun hc hf => ?_) (fun hc hf => ?_)
    · refine zB zlokG 1 (pc' := 31) (ls' := [(0, .ref o), (1, .int a0), (2, .int a1)]) (st' := [.int 0]) (s' := s) rfl ?_
      exact zRetZc hf (by decide) rfl rfl
    · refine zB zlokG 2 (pc' := 10) (ls' := [(0, .ref o), (1, .int a0), (2, .int a1)]) (st' := [.ref o, .int a0]) (s' := s) rfl ?_
      refine zGetI (j := 2) rfl rfl ho.1 rfl ?_
      refine zCgt hf (tgt := 30) rfl (by decide) (fun hc hf => ?_) (fun hc hf => ?_)
      · refine zB zlokG 1 (pc' := 31) (ls' := [(0, .ref o), (1, .int a0), (2, .int a1)]) (st' := [.int 0]) (s' := s) rfl ?_
        exact zRetZc hf (by decide) rfl rfl
      · refine zB zlokG 2 (pc' := 18) (ls' := [(0, .ref o), (1, .int a0), (2, .int a1)]) (st' := [.ref o, .int a1]) (s' := s) rfl ?_
        refine zGetI (j := 2) rfl rfl ho.1 rfl ?_
        refine zB zlokG 2 (pc' := 23) (ls' := [(0, .ref o), (1, .int a0), (2, .int a1)]) (st' := [.int ((s.1 o 2) - a0), .int a1]) (s' := s) rfl ?_
        refine zCgt hf (tgt := 30) rfl (by decide) (fun hc hf => ?_) (fun hc hf => ?_)
        · refine zB zlokG 1 (pc' := 31) (ls' := [(0, .ref o), (1, .int a0), (2, .int a1)]) (st' := [.int 0]) (s' := s) rfl ?_
          exact zRetZc hf (by decide) rfl rfl
        · refine zB zlokG 1 (pc' := 27) (ls' := [(0, .ref o), (1, .int a0), (2, .int a1)]) (st' := [.int 1]) (s' := s) rfl ?_
          refine zGoto (tgt := 31) rfl (by decide) ?_
          exact zRetZc hf (by decide) rfl rfl
set_option maxRecDepth 20000 in
theorem k_sh_refusalOfSort (o : Nat) (a0 : Int32) (ho : zShAt o) (s : zSt) (r : Int32 × zSt) (hf : f_sh_refusalOfSort o a0 s = some r) : zKp zm_sh_refusalOfSort ΛG 1 [.ref o, .int a0] s (some (.int r.1), r.2) := by
  refine zKp_of zmk_sh_refusalOfSort rfl ?_
  show zWA _ _ _ _ _ [(0, .ref o), (1, .int a0)] _ _
  refine zB zlokG 1 (pc' := 1) (ls' := [(0, .ref o), (1, .int a0)]) (st' := [.ref o]) (s' := s) rfl ?_
  refine zXI hf (As := []) (rest := []) 0 zmk_sh_isEmpty zok_sh_isEmpty zl_654 rfl ho.1 rfl rfl rfl rfl rfl rfl (fun _ e => k_sh_isEmpty _ ho _ _ e) (fun x1 hf => ?_)
  refine zIeq hf (tgt := 10) rfl (by decide) (fun hc hf => ?_) (fun hc hf => ?_)
  · refine zB zlokG 2 (pc' := 12) (ls' := [(0, .ref o), (1, .int a0)]) (st' := [.int a0, .ref o]) (s' := x1.2) rfl ?_
    refine zXI hf (As := [.int a0]) (rest := []) 1 zmk_sh_isRowOf zok_sh_isRowOf zl_655 rfl ho.1 rfl rfl rfl rfl rfl rfl (fun _ e => k_sh_isRowOf _ _ ho _ _ e) (fun x2 hf => ?_)
    refine zIeq hf (tgt := 22) rfl (by decide) (fun hc hf => ?_) (fun hc hf => ?_)
    · refine zB zlokG 1 (pc' := 24) (ls' := [(0, .ref o), (1, .int a0)]) (st' := [.int (-12)]) (s' := x2.2) rfl ?_
      exact zRetI hf rfl rfl
    · refine zB zlokG 1 (pc' := 19) (ls' := [(0, .ref o), (1, .int a0)]) (st' := [.int 0]) (s' := x2.2) rfl ?_
      refine zGoto (tgt := 24) rfl (by decide) ?_
      exact zRetI hf rfl rfl
  · refine zB zlokG 1 (pc' := 9) (ls' := [(0, .ref o), (1, .int a0)]) (st' := [.int (-11)]) (s' := x1.2) rfl ?_
    exact zRetI hf rfl rfl
set_option maxRecDepth 20000 in
theorem k_sh_refusalOfPlaces (o : Nat) (a0 : Int32) (a1 : Int32) (ho : zShAt o) (s : zSt) (r : Int32 × zSt) (hf : f_sh_refusalOfPlaces o a0 a1 s = some r) : zKp zm_sh_refusalOfPlaces ΛG 2 [.ref o, .int a0, .int a1] s (some (.int r.1), r.2) := by
  refine zKp_of zmk_sh_refusalOfPlaces rfl ?_
  show zWA _ _ _ _ _ [(0, .ref o), (1, .int a0), (2, .int a1)] _ _
  refine zB zlokG 2 (pc' := 2) (ls' := [(0, .ref o), (1, .int a0), (2, .int a1)]) (st' := [.ref o, .ref o]) (s' := s) rfl ?_
  refine zGetI (j := 1) rfl rfl ho.1 rfl ?_
  refine zXI hf (As := [.int (s.1 o 1)]) (rest := []) 1 zmk_sh_refusalOfSort zok_sh_refusalOfSort zl_869 rfl ho.1 rfl rfl rfl rfl rfl rfl (fun _ e => k_sh_refusalOfSort _ _ ho _ _ e) (fun x1 hf => ?_)
  refine zB zlokG 2 (pc' := 10) (ls' := [(3, .int x1.1), (0, .ref o), (1, .int a0), (2, .int a1)]) (st' := [.int x1.1]) (s' := x1.2) rfl ?_
  refine zIeq hf (tgt := 15) rfl (by decide) (fun hc hf => ?_) (fun hc hf => ?_)
  · refine zB zlokG 3 (pc' := 18) (ls' := [(3, .int x1.1), (0, .ref o), (1, .int a0), (2, .int a1)]) (st' := [.int a1, .int a0, .ref o]) (s' := x1.2) rfl ?_
    refine zXI hf (As := [.int a0, .int a1]) (rest := []) 2 zmk_sh_hasPlaces zok_sh_hasPlaces zl_870 rfl ho.1 rfl rfl rfl rfl rfl rfl (fun _ e => k_sh_hasPlaces _ _ _ ho _ _ e) (fun x2 hf => ?_)
    refine zIeq hf (tgt := 28) rfl (by decide) (fun hc hf => ?_) (fun hc hf => ?_)
    · refine zB zlokG 1 (pc' := 30) (ls' := [(3, .int x1.1), (0, .ref o), (1, .int a0), (2, .int a1)]) (st' := [.int (-13)]) (s' := x2.2) rfl ?_
      exact zRetI hf rfl rfl
    · refine zB zlokG 1 (pc' := 25) (ls' := [(3, .int x1.1), (0, .ref o), (1, .int a0), (2, .int a1)]) (st' := [.int 0]) (s' := x2.2) rfl ?_
      refine zGoto (tgt := 30) rfl (by decide) ?_
      exact zRetI hf rfl rfl
  · refine zB zlokG 1 (pc' := 14) (ls' := [(3, .int x1.1), (0, .ref o), (1, .int a0), (2, .int a1)]) (st' := [.int x1.1]) (s' := x1.2) rfl ?_
    exact zRetI hf rfl rfl
set_option maxRecDepth 20000 in
theorem k_sh_write (o : Nat) (a0 : Int32) (a1 : Int64) (ho : zShAt o) (s : zSt) (r : zSt) (hf : f_sh_write o a0 a1 s = some r) : zKp zm_sh_write ΛG 0 [.ref o, .int a0, .long a1] s (none, r) := by
  refine zKp_of zmk_sh_write rfl ?_
  show zWA _ _ _ _ _ [(0, .ref o), (1, .int a0), (2, .long a1)] _ _
  refine zB zlokG 1 (pc' := 1) (ls' := [(0, .ref o), (1, .int a0), (2, .long a1)]) (st' := [.ref o]) (s' := s) rfl ?_
  refine zGetI (j := 1) rfl rfl ho.1 rfl ?_
  refine zIte hf (fun hc hf => ?_) (fun hc hf => ?_)
  · refine zTabOut (tgt := 84) hc rfl (by decide) ?_
    refine zB zlokG 1 (pc' := 85) (ls' := [(0, .ref o), (1, .int a0), (2, .long a1)]) (st' := [.ref o]) (s' := s) rfl ?_
    refine zGetR (j := 3) rfl rfl ho.1 rfl ?_
    refine zB zlokG 4 (pc' := 92) (ls' := [(0, .ref o), (1, .int a0), (2, .long a1)]) (st' := [.int (lg_cmp a1 0), .int a0, .ref (o + 1)]) (s' := s) rfl ?_
    refine zIne hf (tgt := 99) rfl (by decide) (fun hc hf => ?_) (fun hc hf => ?_)
    · refine zB zlokG 1 (pc' := 96) (ls' := [(0, .ref o), (1, .int a0), (2, .long a1)]) (st' := [.long 0, .int a0, .ref (o + 1)]) (s' := s) rfl ?_
      refine zGoto (tgt := 100) rfl (by decide) ?_
      refine zLast hf rfl ho.2 (fun s1 hf => ?_)
      exact zRetV hf rfl rfl
    · refine zB zlokG 1 (pc' := 100) (ls' := [(0, .ref o), (1, .int a0), (2, .long a1)]) (st' := [.long 1, .int a0, .ref (o + 1)]) (s' := s) rfl ?_
      refine zLast hf rfl ho.2 (fun s2 hf => ?_)
      exact zRetV hf rfl rfl
  · refine zIte hf (fun hc hf => ?_) (fun hc hf => ?_)
    · refine zTabIn (tgt := 36) 0 hc rfl (by decide) (by decide) rfl (by decide) ?_
      refine zB zlokG 1 (pc' := 37) (ls' := [(0, .ref o), (1, .int a0), (2, .long a1)]) (st' := [.ref o]) (s' := s) rfl ?_
      refine zGetR (j := 3) rfl rfl ho.1 rfl ?_
      refine zB zlokG 5 (pc' := 45) (ls' := [(0, .ref o), (1, .int a0), (2, .long a1)]) (st' := [.long (((a1 : Int64).toInt32).toInt8.toInt32 : Int32).toInt64, .int a0, .ref (o + 1)]) (s' := s) rfl ?_
      refine zLast hf rfl ho.2 (fun s3 hf => ?_)
      refine zGoto (tgt := 101) rfl (by decide) ?_
      exact zRetV hf rfl rfl
    · refine zIte hf (fun hc hf => ?_) (fun hc hf => ?_)
      · refine zTabIn (tgt := 49) 1 hc rfl (by decide) (by decide) rfl (by decide) ?_
        refine zB zlokG 1 (pc' := 50) (ls' := [(0, .ref o), (1, .int a0), (2, .long a1)]) (st' := [.ref o]) (s' := s) rfl ?_
        refine zGetR (j := 3) rfl rfl ho.1 rfl ?_
        refine zB zlokG 5 (pc' := 58) (ls' := [(0, .ref o), (1, .int a0), (2, .long a1)]) (st' := [.long (((a1 : Int64).toInt32).toInt16.toInt32 : Int32).toInt64, .int a0, .ref (o + 1)]) (s' := s) rfl ?_
        refine zLast hf rfl ho.2 (fun s4 hf => ?_)
        refine zGoto (tgt := 101) rfl (by decide) ?_
        exact zRetV hf rfl rfl
      · refine zIte hf (fun hc hf => ?_) (fun hc hf => ?_)
        · refine zTabIn (tgt := 62) 2 hc rfl (by decide) (by decide) rfl (by decide) ?_
          refine zB zlokG 1 (pc' := 63) (ls' := [(0, .ref o), (1, .int a0), (2, .long a1)]) (st' := [.ref o]) (s' := s) rfl ?_
          refine zGetR (j := 3) rfl rfl ho.1 rfl ?_
          refine zB zlokG 4 (pc' := 70) (ls' := [(0, .ref o), (1, .int a0), (2, .long a1)]) (st' := [.long ((a1 : Int64).toInt32 : Int32).toInt64, .int a0, .ref (o + 1)]) (s' := s) rfl ?_
          refine zLast hf rfl ho.2 (fun s5 hf => ?_)
          refine zGoto (tgt := 101) rfl (by decide) ?_
          exact zRetV hf rfl rfl
        · refine zIte hf (fun hc hf => ?_) (fun hc hf => ?_)
          · refine zTabIn (tgt := 74) 3 hc rfl (by decide) (by decide) rfl (by decide) ?_
            refine zB zlokG 1 (pc' := 75) (ls' := [(0, .ref o), (1, .int a0), (2, .long a1)]) (st' := [.ref o]) (s' := s) rfl ?_
            refine zGetR (j := 3) rfl rfl ho.1 rfl ?_
            refine zB zlokG 2 (pc' := 80) (ls' := [(0, .ref o), (1, .int a0), (2, .long a1)]) (st' := [.long a1, .int a0, .ref (o + 1)]) (s' := s) rfl ?_
            refine zLast hf rfl ho.2 (fun s6 hf => ?_)
            refine zGoto (tgt := 101) rfl (by decide) ?_
            exact zRetV hf rfl rfl
          · cases hf
set_option maxRecDepth 20000 in
theorem k_sl_isName (a0 : Int32) (s : zSt) (r : Int32 × zSt) (hf : f_sl_isName a0 s = some r) : zKp zm_sl_isName ΛG 1 [.int a0] s (some (.int r.1), r.2) := by
  refine zKp_of zmk_sl_isName rfl ?_
  show zWA _ _ _ _ _ [(0, .int a0)] _ _
  refine zB zlokG 3 (pc' := 3) (ls' := [(0, .int a0)]) (st' := [.int 5, .int 0, .int a0]) (s' := s) rfl ?_
  refine zNI hf (As := [.int a0, .int 0, .int 5]) (rest := []) 3 zmk_g_isWithin zok_g_isWithin zl_730 rfl rfl rfl rfl rfl (fun _ e => k_g_isWithin _ _ _ _ _ e) (fun x1 hf => ?_)
  exact zRetZb hf rfl rfl
set_option maxRecDepth 20000 in
theorem k_sl_write (a0 : Int32) (a1 : Int32) (a2 : Int32) (s : zSt) (r : Int32 × zSt) (hf : f_sl_write a0 a1 a2 s = some r) : zKp zm_sl_write ΛG 0 [.ref 32, .int a0, .int a1, .int a2] s (some (.int r.1), r.2) := by
  refine zKp_of zmk_sl_write rfl ?_
  show zWA _ _ _ _ _ [(0, .ref 32), (1, .int a0), (2, .int a1), (3, .int a2)] _ _
  refine zB zlokG 7 (pc' := 10) (ls' := [(0, .ref 32), (1, .int a0), (2, .int a1), (3, .int a2)]) (st' := [.int ((a0 * 6) + a1), .ref 33]) (s' := s) rfl ?_
  refine zIald hf rfl (by rfl) (fun x1 hf => ?_)
  refine zB zlokG 9 (pc' := 24) (ls' := [(4, .int x1), (0, .ref 32), (1, .int a0), (2, .int a1), (3, .int a2)]) (st' := [.int a2, .int ((a0 * 6) + a1), .ref 33]) (s' := s) rfl ?_
  refine zIast hf rfl (by rfl) (fun s2 hf => ?_)
  refine zB zlokG 1 (pc' := 27) (ls' := [(4, .int x1), (0, .ref 32), (1, .int a0), (2, .int a1), (3, .int a2)]) (st' := [.int x1]) (s' := s2) rfl ?_
  exact zRetI hf rfl rfl
set_option maxRecDepth 20000 in
theorem c_f_sl_balance_4 {r : Int32 × zSt} : ∀ (n : Nat) (v1 : Int32) (v2 : Int32) (v3 : Int32) (s : zSt), f_sl_balance_4 n v1 v2 v3 s = some r → zWA zm_sl_balance ΛG 0 (some (.int r.1), r.2) 4 [(0, .ref 32), (1, .int v1), (2, .int v2), (3, .int v3)] [] s := by
  intro n
  induction n with
  | zero => intro v1 v2 v3 s hf; cases hf
  | succ n ih =>
    intro v1 v2 v3 s hf
    refine zB zlokG 2 (pc' := 7) (ls' := [(0, .ref 32), (1, .int v1), (2, .int v2), (3, .int v3)]) (st' := [.int 6, .int v3]) (s' := s) rfl ?_
    refine zCge hf (tgt := 42) rfl (by decide) (fun hc hf => ?_) (fun hc hf => ?_)
    · refine zB zlokG 1 (pc' := 43) (ls' := [(0, .ref 32), (1, .int v1), (2, .int v2), (3, .int v3)]) (st' := [.int v2]) (s' := s) rfl ?_
      exact zRetI hf rfl rfl
    · refine zB zlokG 8 (pc' := 21) (ls' := [(0, .ref 32), (1, .int v1), (2, .int v2), (3, .int v3)]) (st' := [.int ((v1 * 6) + v3), .ref 33, .int v2]) (s' := s) rfl ?_
      refine zIald hf rfl (by rfl) (fun x1 hf => ?_)
      refine zB zlokG 7 (pc' := 32) (ls' := [(0, .ref 32), (1, .int v1), (2, .int v2), (3, .int v3)]) (st' := [.int ((v3 * 6) + v1), .ref 33, .int x1, .int v2]) (s' := s) rfl ?_
      refine zIald hf rfl (by rfl) (fun x2 hf => ?_)
      refine zB zlokG 4 (pc' := 39) (ls' := [(3, .int (v3 + 1)), (2, .int (v2 + (x1 - x2))), (0, .ref 32), (1, .int v1)]) (st' := []) (s' := s) rfl ?_
      refine zGoto (tgt := 4) rfl (by decide) ?_
      refine zLoc [2, 3, 1, 0] rfl ?_
      exact ih _ _ _ _ hf
set_option maxRecDepth 20000 in
theorem k_sl_balance (a0 : Int32) (s : zSt) (r : Int32 × zSt) (hf : f_sl_balance a0 s = some r) : zKp zm_sl_balance ΛG 0 [.ref 32, .int a0] s (some (.int r.1), r.2) := by
  refine zKp_of zmk_sl_balance rfl ?_
  show zWA _ _ _ _ _ [(0, .ref 32), (1, .int a0)] _ _
  refine zB zlokG 4 (pc' := 4) (ls' := [(3, .int 0), (2, .int 0), (0, .ref 32), (1, .int a0)]) (st' := []) (s' := s) rfl ?_
  refine zLoc [2, 3, 1, 0] rfl ?_
  exact c_f_sl_balance_4 zFu _ _ _ _ hf
set_option maxRecDepth 20000 in
theorem c_f_sl_mostGroups_4 {r : Int32 × zSt} : ∀ (n : Nat) (v1 : Int32) (v2 : Int32) (v3 : Int32) (s : zSt), f_sl_mostGroups_4 n v1 v2 v3 s = some r → zWA zm_sl_mostGroups ΛG 1 (some (.int r.1), r.2) 4 [(0, .ref 32), (1, .int v1), (2, .int v2), (3, .int v3)] [] s := by
  intro n
  induction n with
  | zero => intro v1 v2 v3 s hf; cases hf
  | succ n ih =>
    intro v1 v2 v3 s hf
    refine zB zlokG 2 (pc' := 7) (ls' := [(0, .ref 32), (1, .int v1), (2, .int v2), (3, .int v3)]) (st' := [.int 6, .int v3]) (s' := s) rfl ?_
    refine zCge hf (tgt := 40) rfl (by decide) (fun hc hf => ?_) (fun hc hf => ?_)
    · refine zB zlokG 3 (pc' := 45) (ls' := [(0, .ref 32), (1, .int v1), (2, .int v2), (3, .int v3)]) (st' := [.int v1, .ref 34]) (s' := s) rfl ?_
      refine zIald hf rfl (by rfl) (fun x1 hf => ?_)
      refine zIne hf (tgt := 55) rfl (by decide) (fun hc hf => ?_) (fun hc hf => ?_)
      · refine zB zlokG 3 (pc' := 52) (ls' := [(0, .ref 32), (1, .int v1), (2, .int v2), (3, .int v3)]) (st' := [.int (v2 + 1)]) (s' := s) rfl ?_
        refine zGoto (tgt := 56) rfl (by decide) ?_
        exact zRetI hf rfl rfl
      · refine zB zlokG 1 (pc' := 56) (ls' := [(0, .ref 32), (1, .int v1), (2, .int v2), (3, .int v3)]) (st' := [.int v2]) (s' := s) rfl ?_
        exact zRetI hf rfl rfl
    · refine zB zlokG 6 (pc' := 16) (ls' := [(0, .ref 32), (1, .int v1), (2, .int v2), (3, .int v3)]) (st' := [.int 1, .int ((v1 >>> (v3 &&& 31)) &&& 1)]) (s' := s) rfl ?_
      refine zCne hf (tgt := 34) rfl (by decide) (fun hc hf => ?_) (fun hc hf => ?_)
      · refine zB zlokG 8 (pc' := 29) (ls' := [(0, .ref 32), (1, .int v1), (2, .int v2), (3, .int v3)]) (st' := [.int (v1 ^^^ (1 <<< (v3 &&& 31))), .ref 35, .int v2]) (s' := s) rfl ?_
        refine zIald hf rfl (by rfl) (fun x2 hf => ?_)
        refine zMaxI zl_756 rfl rfl rfl ?_
        refine zB zlokG 2 (pc' := 37) (ls' := [(3, .int (v3 + 1)), (2, .int (zmax v2 x2)), (0, .ref 32), (1, .int v1)]) (st' := []) (s' := s) rfl ?_
        refine zGoto (tgt := 4) rfl (by decide) ?_
        refine zLoc [2, 3, 1, 0] rfl ?_
        exact ih _ _ _ _ hf
      · refine zB zlokG 1 (pc' := 37) (ls' := [(3, .int (v3 + 1)), (0, .ref 32), (1, .int v1), (2, .int v2)]) (st' := []) (s' := s) rfl ?_
        refine zGoto (tgt := 4) rfl (by decide) ?_
        refine zLoc [1, 2, 3, 0] rfl ?_
        exact ih _ _ _ _ hf
set_option maxRecDepth 20000 in
theorem k_sl_mostGroups (a0 : Int32) (s : zSt) (r : Int32 × zSt) (hf : f_sl_mostGroups a0 s = some r) : zKp zm_sl_mostGroups ΛG 1 [.ref 32, .int a0] s (some (.int r.1), r.2) := by
  refine zKp_of zmk_sl_mostGroups rfl ?_
  show zWA _ _ _ _ _ [(0, .ref 32), (1, .int a0)] _ _
  refine zB zlokG 4 (pc' := 4) (ls' := [(3, .int 0), (2, .int 0), (0, .ref 32), (1, .int a0)]) (st' := []) (s' := s) rfl ?_
  refine zLoc [2, 3, 1, 0] rfl ?_
  exact c_f_sl_mostGroups_4 zFu _ _ _ _ hf
set_option maxRecDepth 20000 in
theorem c_f_sl_fewestPayments_21 {r : Int32 × zSt} (k2 : Int32 → zSt → Option (Int32 × zSt)) (hk2 : ∀ (v1 : Int32) (s : zSt), k2 v1 s = some r → zWA zm_sl_fewestPayments ΛG 2 (some (.int r.1), r.2) 2 [(0, .ref 32), (1, .int v1)] [] s) : ∀ (n : Nat) (v1 : Int32) (v2 : Int32) (v3 : Int32) (v4 : Int32) (s : zSt), f_sl_fewestPayments_21 k2 n v1 v2 v3 v4 s = some r → zWA zm_sl_fewestPayments ΛG 2 (some (.int r.1), r.2) 21 [(0, .ref 32), (1, .int v1), (2, .int v2), (3, .int v3), (4, .int v4)] [] s := by
  intro n
  induction n with
  | zero => intro v1 v2 v3 v4 s hf; cases hf
  | succ n ih =>
    intro v1 v2 v3 v4 s hf
    refine zB zlokG 4 (pc' := 26) (ls' := [(0, .ref 32), (1, .int v1), (2, .int v2), (3, .int v3), (4, .int v4)]) (st' := [.int (2 * v3), .int v4]) (s' := s) rfl ?_
    refine zCge hf (tgt := 66) rfl (by decide) (fun hc hf => ?_) (fun hc hf => ?_)
    · refine zB zlokG 1 (pc' := 69) (ls' := [(1, .int (v1 + 1)), (0, .ref 32), (2, .int v2), (3, .int v3), (4, .int v4)]) (st' := []) (s' := s) rfl ?_
      refine zGoto (tgt := 2) rfl (by decide) ?_
      refine zLoc [1, 0] rfl ?_
      exact hk2 _ _ hf
    · refine zB zlokG 8 (pc' := 43) (ls' := [(0, .ref 32), (1, .int v1), (2, .int v2), (3, .int v3), (4, .int v4)]) (st' := [.int (v4 - v3), .ref 34, .int v4, .ref 34]) (s' := s) rfl ?_
      refine zIald hf rfl (by rfl) (fun x3 hf => ?_)
      refine zB zlokG 2 (pc' := 46) (ls' := [(0, .ref 32), (1, .int v1), (2, .int v2), (3, .int v3), (4, .int v4)]) (st' := [.int (x3 + v2), .int v4, .ref 34]) (s' := s) rfl ?_
      refine zIast hf rfl (by rfl) (fun s4 hf => ?_)
      refine zB zlokG 5 (pc' := 56) (ls' := [(0, .ref 32), (1, .int v1), (2, .int v2), (3, .int v3), (4, .int v4)]) (st' := [.int v4, .ref 32, .int v4, .ref 35]) (s' := s4) rfl ?_
      refine zXI hf (As := [.int v4]) (rest := [.int v4, .ref 35]) 1 zmk_sl_mostGroups zok_sl_mostGroups zl_752 rfl rfl rfl rfl rfl rfl rfl rfl (fun _ e => k_sl_mostGroups _ _ _ e) (fun x5 hf => ?_)
      refine zIast hf rfl (by rfl) (fun s6 hf => ?_)
      refine zB zlokG 1 (pc' := 63) (ls' := [(4, .int (v4 + 1)), (0, .ref 32), (1, .int v1), (2, .int v2), (3, .int v3)]) (st' := []) (s' := s6) rfl ?_
      refine zGoto (tgt := 21) rfl (by decide) ?_
      refine zLoc [1, 2, 3, 4, 0] rfl ?_
      exact ih _ _ _ _ _ hf
set_option maxRecDepth 20000 in
theorem c_f_sl_fewestPayments_2 {r : Int32 × zSt} : ∀ (n : Nat) (v1 : Int32) (s : zSt), f_sl_fewestPayments_2 n v1 s = some r → zWA zm_sl_fewestPayments ΛG 2 (some (.int r.1), r.2) 2 [(0, .ref 32), (1, .int v1)] [] s := by
  intro n
  induction n with
  | zero => intro v1 s hf; cases hf
  | succ n ih =>
    intro v1 s hf
    refine zB zlokG 2 (pc' := 5) (ls' := [(0, .ref 32), (1, .int v1)]) (st' := [.int 6, .int v1]) (s' := s) rfl ?_
    refine zCge hf (tgt := 72) rfl (by decide) (fun hc hf => ?_) (fun hc hf => ?_)
    · refine zB zlokG 4 (pc' := 80) (ls' := [(0, .ref 32), (1, .int v1)]) (st' := [.int 63, .ref 35, .int 6]) (s' := s) rfl ?_
      refine zIald hf rfl (by rfl) (fun x1 hf => ?_)
      refine zB zlokG 1 (pc' := 82) (ls' := [(0, .ref 32), (1, .int v1)]) (st' := [.int (6 - x1)]) (s' := s) rfl ?_
      exact zRetI hf rfl rfl
    · refine zB zlokG 2 (pc' := 10) (ls' := [(0, .ref 32), (1, .int v1)]) (st' := [.int v1, .ref 32]) (s' := s) rfl ?_
      refine zXI hf (As := [.int v1]) (rest := []) 1 zmk_sl_balance zok_sl_balance zl_751 rfl rfl rfl rfl rfl rfl rfl rfl (fun _ e => k_sl_balance _ _ _ e) (fun x2 hf => ?_)
      refine zB zlokG 7 (pc' := 21) (ls' := [(4, .int (1 <<< (v1 &&& 31))), (3, .int (1 <<< (v1 &&& 31))), (2, .int x2.1), (0, .ref 32), (1, .int v1)]) (st' := []) (s' := x2.2) rfl ?_
      refine zLoc [3, 4, 2, 1, 0] rfl ?_
      exact c_f_sl_fewestPayments_21 _ ih zFu _ _ _ _ _ hf
set_option maxRecDepth 20000 in
theorem k_sl_fewestPayments (s : zSt) (r : Int32 × zSt) (hf : f_sl_fewestPayments s = some r) : zKp zm_sl_fewestPayments ΛG 2 [.ref 32] s (some (.int r.1), r.2) := by
  refine zKp_of zmk_sl_fewestPayments rfl ?_
  show zWA _ _ _ _ _ [(0, .ref 32)] _ _
  refine zB zlokG 2 (pc' := 2) (ls' := [(1, .int 0), (0, .ref 32)]) (st' := []) (s' := s) rfl ?_
  refine zLoc [1, 0] rfl ?_
  exact c_f_sl_fewestPayments_2 zFu _ _ hf
set_option maxRecDepth 20000 in
theorem c_f_st_sumOfHeats_13 {r : Int32 × zSt} : ∀ (n : Nat) (v1 : Int32) (v3 : Int32) (v4 : Int32) (s : zSt), f_st_sumOfHeats_13 n v1 v3 v4 s = some r → zWA zm_st_sumOfHeats ΛG 0 (some (.int r.1), r.2) 13 [(1, .int v1), (2, .ref 7), (3, .int v3), (4, .int v4)] [] s := by
  intro n
  induction n with
  | zero => intro v1 v3 v4 s hf; cases hf
  | succ n ih =>
    intro v1 v3 v4 s hf
    refine zB zlokG 2 (pc' := 16) (ls' := [(1, .int v1), (2, .ref 7), (3, .int v3), (4, .int v4)]) (st' := [.int v3, .int v4]) (s' := s) rfl ?_
    refine zCge hf (tgt := 36) rfl (by decide) (fun hc hf => ?_) (fun hc hf => ?_)
    · refine zB zlokG 1 (pc' := 37) (ls' := [(1, .int v1), (2, .ref 7), (3, .int v3), (4, .int v4)]) (st' := [.int v1]) (s' := s) rfl ?_
      exact zRetI hf rfl rfl
    · refine zB zlokG 2 (pc' := 22) (ls' := [(1, .int v1), (2, .ref 7), (3, .int v3), (4, .int v4)]) (st' := [.int v4, .ref 7]) (s' := s) rfl ?_
      refine zIald hf rfl (by rfl) (fun x1 hf => ?_)
      refine zB zlokG 6 (pc' := 33) (ls' := [(4, .int (v4 + 1)), (1, .int (v1 + x1)), (5, .int x1), (2, .ref 7), (3, .int v3)]) (st' := []) (s' := s) rfl ?_
      refine zGoto (tgt := 13) rfl (by decide) ?_
      refine zLoc [1, 3, 4, 0] rfl ?_
      exact ih _ _ _ _ hf
set_option maxRecDepth 20000 in
theorem k_st_sumOfHeats (s : zSt) (r : Int32 × zSt) (hf : f_st_sumOfHeats s = some r) : zKp zm_st_sumOfHeats ΛG 0 [.ref 6] s (some (.int r.1), r.2) := by
  refine zKp_of zmk_st_sumOfHeats rfl ?_
  show zWA _ _ _ _ _ [(0, .ref 6)] _ _
  refine zB zlokG 10 (pc' := 13) (ls' := [(4, .int 0), (3, .int 32), (2, .ref 7), (1, .int 0), (0, .ref 6)]) (st' := []) (s' := s) rfl ?_
  refine zLoc [3, 2, 1, 0] rfl ?_
  exact c_f_st_sumOfHeats_13 zFu _ _ _ _ hf
set_option maxRecDepth 20000 in
theorem k_st_keepImage (s : zSt) (r : zSt) (hf : f_st_keepImage s = some r) : zKp zm_st_keepImage ΛG 1 [.ref 6] s (none, r) := by
  refine zKp_of zmk_st_keepImage rfl ?_
  show zWA _ _ _ _ _ [(0, .ref 6)] _ _
  refine zB zlokG 7 (pc' := 12) (ls' := [(0, .ref 6)]) (st' := [.int 32, .int 0, .ref 10, .int 0, .ref 7]) (s' := s) rfl ?_
  refine zCpyI hf zl_765 rfl rfl rfl (by rfl) (by rfl) (fun s1 hf => ?_)
  refine zB zlokG 7 (pc' := 27) (ls' := [(0, .ref 6)]) (st' := [.int 32, .int 0, .ref 11, .int 0, .ref 8]) (s' := s1) rfl ?_
  refine zCpyI hf zl_765 rfl rfl rfl (by rfl) (by rfl) (fun s2 hf => ?_)
  refine zB zlokG 3 (pc' := 35) (ls' := [(0, .ref 6)]) (st' := []) (s' := (zw s2 6 6 1)) rfl ?_
  exact zRetV hf rfl rfl
set_option maxRecDepth 20000 in
theorem k_st_takeImage (s : zSt) (r : zSt) (hf : f_st_takeImage s = some r) : zKp zm_st_takeImage ΛG 1 [.ref 6] s (none, r) := by
  refine zKp_of zmk_st_takeImage rfl ?_
  show zWA _ _ _ _ _ [(0, .ref 6)] _ _
  refine zB zlokG 7 (pc' := 12) (ls' := [(0, .ref 6)]) (st' := [.int 32, .int 0, .ref 7, .int 0, .ref 10]) (s' := s) rfl ?_
  refine zCpyI hf zl_765 rfl rfl rfl (by rfl) (by rfl) (fun s1 hf => ?_)
  refine zB zlokG 7 (pc' := 27) (ls' := [(0, .ref 6)]) (st' := [.int 32, .int 0, .ref 8, .int 0, .ref 11]) (s' := s1) rfl ?_
  refine zCpyI hf zl_765 rfl rfl rfl (by rfl) (by rfl) (fun s2 hf => ?_)
  exact zRetV hf rfl rfl
set_option maxRecDepth 20000 in
theorem k_st_isNext (a0 : Int32) (a1 : Int32) (s : zSt) (r : Int32 × zSt) (hf : f_st_isNext a0 a1 s = some r) : zKp zm_st_isNext ΛG 0 [.int a0, .int a1] s (some (.int r.1), r.2) := by
  refine zKp_of zmk_st_isNext rfl ?_
  show zWA _ _ _ _ _ [(0, .int a0), (1, .int a1)] _ _
  refine zB zlokG 2 (pc' := 2) (ls' := [(0, .int a0), (1, .int a1)]) (st' := [.int (-1), .int a0]) (s' := s) rfl ?_
  refine zCeq hf (tgt := 15) rfl (by decide) (fun hc hf => ?_) (fun hc hf => ?_)
  · refine zB zlokG 1 (pc' := 16) (ls' := [(0, .int a0), (1, .int a1)]) (st' := [.int 1]) (s' := s) rfl ?_
    refine zGoto (tgt := 20) rfl (by decide) ?_
    exact zRetZc hf (by decide) rfl rfl
  · refine zB zlokG 2 (pc' := 7) (ls' := [(0, .int a0), (1, .int a1)]) (st' := [.int (-1), .int a1]) (s' := s) rfl ?_
    refine zCeq hf (tgt := 15) rfl (by decide) (fun hc hf => ?_) (fun hc hf => ?_)
    · refine zB zlokG 1 (pc' := 16) (ls' := [(0, .int a0), (1, .int a1)]) (st' := [.int 1]) (s' := s) rfl ?_
      refine zGoto (tgt := 20) rfl (by decide) ?_
      exact zRetZc hf (by decide) rfl rfl
    · refine zB zlokG 2 (pc' := 12) (ls' := [(0, .int a0), (1, .int a1)]) (st' := [.int a1, .int a0]) (s' := s) rfl ?_
      refine zCne hf (tgt := 19) rfl (by decide) (fun hc hf => ?_) (fun hc hf => ?_)
      · refine zB zlokG 1 (pc' := 16) (ls' := [(0, .int a0), (1, .int a1)]) (st' := [.int 1]) (s' := s) rfl ?_
        refine zGoto (tgt := 20) rfl (by decide) ?_
        exact zRetZc hf (by decide) rfl rfl
      · refine zB zlokG 1 (pc' := 20) (ls' := [(0, .int a0), (1, .int a1)]) (st' := [.int 0]) (s' := s) rfl ?_
        exact zRetZc hf (by decide) rfl rfl
set_option maxRecDepth 20000 in
theorem c_f_st_mostFrom_5 {r : Int32 × zSt} : ∀ (n : Nat) (v1 : Int32) (v2 : Int32) (v3 : Int32) (v4 : Int32) (s : zSt), f_st_mostFrom_5 n v1 v2 v3 v4 s = some r → zWA zm_st_mostFrom ΛG 1 (some (.int r.1), r.2) 5 [(0, .ref 6), (1, .int v1), (2, .int v2), (3, .int v3), (4, .int v4)] [] s := by
  intro n
  induction n with
  | zero => intro v1 v2 v3 v4 s hf; cases hf
  | succ n ih =>
    intro v1 v2 v3 v4 s hf
    refine zB zlokG 3 (pc' := 11) (ls' := [(0, .ref 6), (1, .int v1), (2, .int v2), (3, .int v3), (4, .int v4)]) (st' := [.int (s.1 6 3), .int v4]) (s' := s) rfl ?_
    refine zCge hf (tgt := 47) rfl (by decide) (fun hc hf => ?_) (fun hc hf => ?_)
    · refine zB zlokG 1 (pc' := 48) (ls' := [(0, .ref 6), (1, .int v1), (2, .int v2), (3, .int v3), (4, .int v4)]) (st' := [.int v3]) (s' := s) rfl ?_
      exact zRetI hf rfl rfl
    · refine zB zlokG 2 (pc' := 17) (ls' := [(0, .ref 6), (1, .int v1), (2, .int v2), (3, .int v3), (4, .int v4)]) (st' := [.int v4, .int v1]) (s' := s) rfl ?_
      refine zSI hf (As := [.int v1, .int v4]) (rest := []) 2 zmk_st_isNext zok_st_isNext zl_633 rfl rfl rfl rfl rfl (fun _ e => k_st_isNext _ _ _ _ e) (fun x1 hf => ?_)
      refine zIeq hf (tgt := 41) rfl (by decide) (fun hc hf => ?_) (fun hc hf => ?_)
      · refine zB zlokG 1 (pc' := 44) (ls' := [(4, .int (v4 + 1)), (0, .ref 6), (1, .int v1), (2, .int v2), (3, .int v3)]) (st' := []) (s' := x1.2) rfl ?_
        refine zGoto (tgt := 5) rfl (by decide) ?_
        refine zLoc [1, 2, 3, 4, 0] rfl ?_
        exact ih _ _ _ _ _ hf
      · refine zB zlokG 10 (pc' := 36) (ls' := [(0, .ref 6), (1, .int v1), (2, .int v2), (3, .int v3), (4, .int v4)]) (st' := [.int (((v2 * 5) + v4) + 1), .ref 12, .int v3]) (s' := x1.2) rfl ?_
        refine zIald hf rfl (by rfl) (fun x2 hf => ?_)
        refine zMaxI zl_636 rfl rfl rfl ?_
        refine zB zlokG 2 (pc' := 44) (ls' := [(4, .int (v4 + 1)), (3, .int (zmax v3 x2)), (0, .ref 6), (1, .int v1), (2, .int v2)]) (st' := []) (s' := x1.2) rfl ?_
        refine zGoto (tgt := 5) rfl (by decide) ?_
        refine zLoc [2, 3, 4, 1, 0] rfl ?_
        exact ih _ _ _ _ _ hf
set_option maxRecDepth 20000 in
theorem k_st_mostFrom (a0 : Int32) (a1 : Int32) (s : zSt) (r : Int32 × zSt) (hf : f_st_mostFrom a0 a1 s = some r) : zKp zm_st_mostFrom ΛG 1 [.ref 6, .int a0, .int a1] s (some (.int r.1), r.2) := by
  refine zKp_of zmk_st_mostFrom rfl ?_
  show zWA _ _ _ _ _ [(0, .ref 6), (1, .int a0), (2, .int a1)] _ _
  refine zB zlokG 4 (pc' := 5) (ls' := [(4, .int (-1)), (3, .int 0), (0, .ref 6), (1, .int a0), (2, .int a1)]) (st' := []) (s' := s) rfl ?_
  refine zLoc [2, 3, 4, 1, 0] rfl ?_
  exact c_f_st_mostFrom_5 zFu _ _ _ _ _ hf
set_option maxRecDepth 20000 in
theorem c_f_st_lookAhead_37 {r : zSt} (k2 : Int32 → Int32 → Int32 → zSt → Option (zSt)) (k10 : Int32 → Int32 → Int32 → Int32 → zSt → Option (zSt)) (hk2 : ∀ (v1 : Int32) (v2 : Int32) (v3 : Int32) (s : zSt), k2 v1 v2 v3 s = some r → zWA zm_st_lookAhead ΛG 3 (none, r) 2 [(0, .ref 6), (1, .int v1), (2, .int v2), (3, .int v3)] [] s) (hk10 : ∀ (v1 : Int32) (v2 : Int32) (v3 : Int32) (v4 : Int32) (s : zSt), k10 v1 v2 v3 v4 s = some r → zWA zm_st_lookAhead ΛG 3 (none, r) 10 [(0, .ref 6), (1, .int v1), (2, .int v2), (3, .int v3), (4, .int v4)] [] s) : ∀ (v1 : Int32) (v2 : Int32) (v3 : Int32) (v4 : Int32) (w0 : Int32) (s : zSt), f_st_lookAhead_37 k2 k10 v1 v2 v3 v4 w0 s = some r → zWA zm_st_lookAhead ΛG 3 (none, r) 37 [(0, .ref 6), (1, .int v1), (2, .int v2), (3, .int v3), (4, .int v4)] [.int w0] s := by
  intro v1 v2 v3 v4 w0 s hf
  refine zB zlokG 13 (pc' := 55) (ls' := [(5, .int w0), (0, .ref 6), (1, .int v1), (2, .int v2), (3, .int v3), (4, .int v4)]) (st' := [.int v3, .int v4, .ref 6, .int (((v3 * 5) + v4) + 1), .ref 12]) (s' := s) rfl ?_
  refine zXI hf (As := [.int v4, .int v3]) (rest := [.int (((v3 * 5) + v4) + 1), .ref 12]) 2 zmk_st_flowAt zok_st_flowAt zl_589 rfl rfl rfl rfl rfl rfl rfl rfl (fun _ e => k_st_flowAt _ _ _ _ e) (fun x2 hf => ?_)
  refine zB zlokG 2 (pc' := 61) (ls' := [(5, .int w0), (0, .ref 6), (1, .int v1), (2, .int v2), (3, .int v3), (4, .int v4)]) (st' := [.int (x2.1 + w0), .int (((v3 * 5) + v4) + 1), .ref 12]) (s' := x2.2) rfl ?_
  refine zIast hf rfl (by rfl) (fun s3 hf => ?_)
  refine zB zlokG 1 (pc' := 65) (ls' := [(4, .int (v4 + 1)), (5, .int w0), (0, .ref 6), (1, .int v1), (2, .int v2), (3, .int v3)]) (st' := []) (s' := s3) rfl ?_
  refine zGoto (tgt := 10) rfl (by decide) ?_
  refine zLoc [2, 3, 4, 5, 0] rfl ?_
  exact hk10 _ _ _ _ _ hf
set_option maxRecDepth 20000 in
theorem c_f_st_lookAhead_10 {r : zSt} (k2 : Int32 → Int32 → Int32 → zSt → Option (zSt)) (hk2 : ∀ (v1 : Int32) (v2 : Int32) (v3 : Int32) (s : zSt), k2 v1 v2 v3 s = some r → zWA zm_st_lookAhead ΛG 3 (none, r) 2 [(0, .ref 6), (1, .int v1), (2, .int v2), (3, .int v3)] [] s) : ∀ (n : Nat) (v1 : Int32) (v2 : Int32) (v3 : Int32) (v4 : Int32) (s : zSt), f_st_lookAhead_10 k2 n v1 v2 v3 v4 s = some r → zWA zm_st_lookAhead ΛG 3 (none, r) 10 [(0, .ref 6), (1, .int v1), (2, .int v2), (3, .int v3), (4, .int v4)] [] s := by
  intro n
  induction n with
  | zero => intro v1 v2 v3 v4 s hf; cases hf
  | succ n ih =>
    intro v1 v2 v3 v4 s hf
    refine zB zlokG 3 (pc' := 16) (ls' := [(0, .ref 6), (1, .int v1), (2, .int v2), (3, .int v3), (4, .int v4)]) (st' := [.int (s.1 6 3), .int v4]) (s' := s) rfl ?_
    refine zCge hf (tgt := 68) rfl (by decide) (fun hc hf => ?_) (fun hc hf => ?_)
    · refine zB zlokG 1 (pc' := 71) (ls' := [(3, .int (v3 + (-1))), (0, .ref 6), (1, .int v1), (2, .int v2), (4, .int v4)]) (st' := []) (s' := s) rfl ?_
      refine zGoto (tgt := 2) rfl (by decide) ?_
      refine zLoc [1, 2, 3, 0] rfl ?_
      exact hk2 _ _ _ _ hf
    · refine zB zlokG 2 (pc' := 21) (ls' := [(0, .ref 6), (1, .int v1), (2, .int v2), (3, .int v3), (4, .int v4)]) (st' := [.int v2, .int v3]) (s' := s) rfl ?_
      refine zCne hf (tgt := 28) rfl (by decide) (fun hc hf => ?_) (fun hc hf => ?_)
      · refine zB zlokG 1 (pc' := 25) (ls' := [(0, .ref 6), (1, .int v1), (2, .int v2), (3, .int v3), (4, .int v4)]) (st' := [.int 0]) (s' := s) rfl ?_
        refine zGoto (tgt := 37) rfl (by decide) ?_
        refine zLoc [0, 1, 2, 3, 4] rfl ?_
        exact c_f_st_lookAhead_37 _ _ hk2 ih _ _ _ _ _ _ hf
      · refine zB zlokG 5 (pc' := 34) (ls' := [(0, .ref 6), (1, .int v1), (2, .int v2), (3, .int v3), (4, .int v4)]) (st' := [.int (v3 + 1), .int v4, .ref 6]) (s' := s) rfl ?_
        refine zXI hf (As := [.int v4, .int (v3 + 1)]) (rest := []) 2 zmk_st_mostFrom zok_st_mostFrom zl_629 rfl rfl rfl rfl rfl rfl rfl rfl (fun _ e => k_st_mostFrom _ _ _ _ e) (fun x1 hf => ?_)
        refine zLoc [0, 1, 2, 3, 4] rfl ?_
        exact c_f_st_lookAhead_37 _ _ hk2 ih _ _ _ _ _ _ hf
set_option maxRecDepth 20000 in
theorem c_f_st_lookAhead_2 {r : zSt} : ∀ (n : Nat) (v1 : Int32) (v2 : Int32) (v3 : Int32) (s : zSt), f_st_lookAhead_2 n v1 v2 v3 s = some r → zWA zm_st_lookAhead ΛG 3 (none, r) 2 [(0, .ref 6), (1, .int v1), (2, .int v2), (3, .int v3)] [] s := by
  intro n
  induction n with
  | zero => intro v1 v2 v3 s hf; cases hf
  | succ n ih =>
    intro v1 v2 v3 s hf
    refine zB zlokG 2 (pc' := 4) (ls' := [(0, .ref 6), (1, .int v1), (2, .int v2), (3, .int v3)]) (st' := [.int v1, .int v3]) (s' := s) rfl ?_
    refine zClt hf (tgt := 74) rfl (by decide) (fun hc hf => ?_) (fun hc hf => ?_)
    · exact zRetV hf rfl rfl
    · refine zB zlokG 2 (pc' := 10) (ls' := [(4, .int (-1)), (0, .ref 6), (1, .int v1), (2, .int v2), (3, .int v3)]) (st' := []) (s' := s) rfl ?_
      refine zLoc [1, 2, 3, 4, 0] rfl ?_
      exact c_f_st_lookAhead_10 _ ih zFu _ _ _ _ _ hf
set_option maxRecDepth 20000 in
theorem k_st_lookAhead (a0 : Int32) (a1 : Int32) (s : zSt) (r : zSt) (hf : f_st_lookAhead a0 a1 s = some r) : zKp zm_st_lookAhead ΛG 3 [.ref 6, .int a0, .int a1] s (none, r) := by
  refine zKp_of zmk_st_lookAhead rfl ?_
  show zWA _ _ _ _ _ [(0, .ref 6), (1, .int a0), (2, .int a1)] _ _
  refine zB zlokG 2 (pc' := 2) (ls' := [(3, .int a1), (0, .ref 6), (1, .int a0), (2, .int a1)]) (st' := []) (s' := s) rfl ?_
  refine zLoc [1, 2, 3, 0] rfl ?_
  exact c_f_st_lookAhead_2 zFu _ _ _ _ hf
set_option maxRecDepth 20000 in
theorem c_f_st_firstOfMost_10 {r : Int32 × zSt} : ∀ (n : Nat) (v1 : Int32) (v2 : Int32) (v3 : Int32) (v4 : Int32) (s : zSt), f_st_firstOfMost_10 n v1 v2 v3 v4 s = some r → zWA zm_st_firstOfMost ΛG 2 (some (.int r.1), r.2) 10 [(0, .ref 6), (1, .int v1), (2, .int v2), (3, .int v3), (4, .int v4)] [] s := by
  intro n
  induction n with
  | zero => intro v1 v2 v3 v4 s hf; cases hf
  | succ n ih =>
    intro v1 v2 v3 v4 s hf
    refine zB zlokG 3 (pc' := 16) (ls' := [(0, .ref 6), (1, .int v1), (2, .int v2), (3, .int v3), (4, .int v4)]) (st' := [.int (s.1 6 3), .int v4]) (s' := s) rfl ?_
    refine zCge hf (tgt := 54) rfl (by decide) (fun hc hf => ?_) (fun hc hf => ?_)
    · refine zB zlokG 1 (pc' := 55) (ls' := [(0, .ref 6), (1, .int v1), (2, .int v2), (3, .int v3), (4, .int v4)]) (st' := [.int (-1)]) (s' := s) rfl ?_
      exact zRetI hf rfl rfl
    · refine zB zlokG 2 (pc' := 22) (ls' := [(0, .ref 6), (1, .int v1), (2, .int v2), (3, .int v3), (4, .int v4)]) (st' := [.int v4, .int v1]) (s' := s) rfl ?_
      refine zSI hf (As := [.int v1, .int v4]) (rest := []) 2 zmk_st_isNext zok_st_isNext zl_633 rfl rfl rfl rfl rfl (fun _ e => k_st_isNext _ _ _ _ e) (fun x2 hf => ?_)
      refine zIeq hf (tgt := 48) rfl (by decide) (fun hc hf => ?_) (fun hc hf => ?_)
      · refine zB zlokG 1 (pc' := 51) (ls' := [(4, .int (v4 + 1)), (0, .ref 6), (1, .int v1), (2, .int v2), (3, .int v3)]) (st' := []) (s' := x2.2) rfl ?_
        refine zGoto (tgt := 10) rfl (by decide) ?_
        refine zLoc [1, 2, 3, 4, 0] rfl ?_
        exact ih _ _ _ _ _ hf
      · refine zB zlokG 9 (pc' := 40) (ls' := [(0, .ref 6), (1, .int v1), (2, .int v2), (3, .int v3), (4, .int v4)]) (st' := [.int (((v2 * 5) + v4) + 1), .ref 12]) (s' := x2.2) rfl ?_
        refine zIald hf rfl (by rfl) (fun x3 hf => ?_)
        refine zB zlokG 1 (pc' := 42) (ls' := [(0, .ref 6), (1, .int v1), (2, .int v2), (3, .int v3), (4, .int v4)]) (st' := [.int v3, .int x3]) (s' := x2.2) rfl ?_
        refine zCne hf (tgt := 48) rfl (by decide) (fun hc hf => ?_) (fun hc hf => ?_)
        · refine zB zlokG 1 (pc' := 47) (ls' := [(0, .ref 6), (1, .int v1), (2, .int v2), (3, .int v3), (4, .int v4)]) (st' := [.int v4]) (s' := x2.2) rfl ?_
          exact zRetI hf rfl rfl
        · refine zB zlokG 1 (pc' := 51) (ls' := [(4, .int (v4 + 1)), (0, .ref 6), (1, .int v1), (2, .int v2), (3, .int v3)]) (st' := []) (s' := x2.2) rfl ?_
          refine zGoto (tgt := 10) rfl (by decide) ?_
          refine zLoc [1, 2, 3, 4, 0] rfl ?_
          exact ih _ _ _ _ _ hf
set_option maxRecDepth 20000 in
theorem k_st_firstOfMost (a0 : Int32) (a1 : Int32) (s : zSt) (r : Int32 × zSt) (hf : f_st_firstOfMost a0 a1 s = some r) : zKp zm_st_firstOfMost ΛG 2 [.ref 6, .int a0, .int a1] s (some (.int r.1), r.2) := by
  refine zKp_of zmk_st_firstOfMost rfl ?_
  show zWA _ _ _ _ _ [(0, .ref 6), (1, .int a0), (2, .int a1)] _ _
  refine zB zlokG 3 (pc' := 3) (ls' := [(0, .ref 6), (1, .int a0), (2, .int a1)]) (st' := [.int a1, .int a0, .ref 6]) (s' := s) rfl ?_
  refine zXI hf (As := [.int a0, .int a1]) (rest := []) 2 zmk_st_mostFrom zok_st_mostFrom zl_629 rfl rfl rfl rfl rfl rfl rfl rfl (fun _ e => k_st_mostFrom _ _ _ _ e) (fun x1 hf => ?_)
  refine zB zlokG 3 (pc' := 10) (ls' := [(4, .int (-1)), (3, .int x1.1), (0, .ref 6), (1, .int a0), (2, .int a1)]) (st' := []) (s' := x1.2) rfl ?_
  refine zLoc [2, 3, 4, 1, 0] rfl ?_
  exact c_f_st_firstOfMost_10 zFu _ _ _ _ _ hf
set_option maxRecDepth 20000 in
theorem c_f_st_placeIn_5 {r : Int32 × zSt} : ∀ (n : Nat) (v2 : Int32) (v3 : Int32) (v4 : Int32) (s : zSt), f_st_placeIn_5 n v2 v3 v4 s = some r → zWA zm_st_placeIn ΛG 3 (some (.int r.1), r.2) 5 [(0, .ref 6), (2, .int v2), (3, .int v3), (4, .int v4)] [] s := by
  intro n
  induction n with
  | zero => intro v2 v3 v4 s hf; cases hf
  | succ n ih =>
    intro v2 v3 v4 s hf
    refine zB zlokG 2 (pc' := 8) (ls' := [(0, .ref 6), (2, .int v2), (3, .int v3), (4, .int v4)]) (st' := [.int v2, .int v4]) (s' := s) rfl ?_
    refine zCgt hf (tgt := 25) rfl (by decide) (fun hc hf => ?_) (fun hc hf => ?_)
    · refine zB zlokG 1 (pc' := 26) (ls' := [(0, .ref 6), (2, .int v2), (3, .int v3), (4, .int v4)]) (st' := [.int v3]) (s' := s) rfl ?_
      exact zRetI hf rfl rfl
    · refine zB zlokG 3 (pc' := 15) (ls' := [(0, .ref 6), (2, .int v2), (3, .int v3), (4, .int v4)]) (st' := [.int v4, .int v3, .ref 6]) (s' := s) rfl ?_
      refine zXI hf (As := [.int v3, .int v4]) (rest := []) 2 zmk_st_firstOfMost zok_st_firstOfMost zl_642 rfl rfl rfl rfl rfl rfl rfl rfl (fun _ e => k_st_firstOfMost _ _ _ _ e) (fun x1 hf => ?_)
      refine zB zlokG 2 (pc' := 22) (ls' := [(4, .int (v4 + 1)), (3, .int x1.1), (0, .ref 6), (2, .int v2)]) (st' := []) (s' := x1.2) rfl ?_
      refine zGoto (tgt := 5) rfl (by decide) ?_
      refine zLoc [2, 3, 1, 0] rfl ?_
      exact ih _ _ _ _ hf
set_option maxRecDepth 20000 in
theorem k_st_placeIn (a0 : Int32) (a1 : Int32) (s : zSt) (r : Int32 × zSt) (hf : f_st_placeIn a0 a1 s = some r) : zKp zm_st_placeIn ΛG 3 [.ref 6, .int a0, .int a1] s (some (.int r.1), r.2) := by
  refine zKp_of zmk_st_placeIn rfl ?_
  show zWA _ _ _ _ _ [(0, .ref 6), (1, .int a0), (2, .int a1)] _ _
  refine zB zlokG 4 (pc' := 5) (ls' := [(4, .int a0), (3, .int (-1)), (0, .ref 6), (1, .int a0), (2, .int a1)]) (st' := []) (s' := s) rfl ?_
  refine zLoc [2, 4, 1, 0] rfl ?_
  exact c_f_st_placeIn_5 zFu _ _ _ _ hf
set_option maxRecDepth 20000 in
theorem c_f_su_power_5 {r : Int64 × zSt} : ∀ (n : Nat) (v0 : Int64) (v2 : Int32) (v3 : Int64) (v5 : Int32) (s : zSt), f_su_power_5 n v0 v2 v3 v5 s = some r → zWA zm_su_power ΛG 0 (some (.long r.1), r.2) 5 [(0, .long v0), (2, .int v2), (3, .long v3), (5, .int v5)] [] s := by
  intro n
  induction n with
  | zero => intro v0 v2 v3 v5 s hf; cases hf
  | succ n ih =>
    intro v0 v2 v3 v5 s hf
    refine zB zlokG 2 (pc' := 8) (ls' := [(0, .long v0), (2, .int v2), (3, .long v3), (5, .int v5)]) (st' := [.int v2, .int v5]) (s' := s) rfl ?_
    refine zCge hf (tgt := 21) rfl (by decide) (fun hc hf => ?_) (fun hc hf => ?_)
    · refine zB zlokG 1 (pc' := 22) (ls' := [(0, .long v0), (2, .int v2), (3, .long v3), (5, .int v5)]) (st' := [.long v3]) (s' := s) rfl ?_
      exact zRetL hf rfl rfl
    · refine zB zlokG 5 (pc' := 18) (ls' := [(5, .int (v5 + 1)), (3, .long (v3 * v0)), (0, .long v0), (2, .int v2)]) (st' := []) (s' := s) rfl ?_
      refine zGoto (tgt := 5) rfl (by decide) ?_
      refine zLoc [2, 3, 1, 0] rfl ?_
      exact ih _ _ _ _ _ hf
set_option maxRecDepth 20000 in
theorem k_su_power (a0 : Int64) (a1 : Int32) (s : zSt) (r : Int64 × zSt) (hf : f_su_power a0 a1 s = some r) : zKp zm_su_power ΛG 0 [.long a0, .int a1] s (some (.long r.1), r.2) := by
  refine zKp_of zmk_su_power rfl ?_
  show zWA _ _ _ _ _ [(0, .long a0), (2, .int a1)] _ _
  refine zB zlokG 4 (pc' := 5) (ls' := [(5, .int 0), (3, .long 1), (0, .long a0), (2, .int a1)]) (st' := []) (s' := s) rfl ?_
  refine zLoc [2, 3, 1, 0] rfl ?_
  exact c_f_su_power_5 zFu _ _ _ _ _ hf
set_option maxRecDepth 20000 in
theorem c_f_su_ways_5 {r : Int64 × zSt} : ∀ (n : Nat) (v0 : Int32) (v1 : Int32) (v2 : Int64) (v4 : Int32) (s : zSt), f_su_ways_5 n v0 v1 v2 v4 s = some r → zWA zm_su_ways ΛG 0 (some (.long r.1), r.2) 5 [(0, .int v0), (1, .int v1), (2, .long v2), (4, .int v4)] [] s := by
  intro n
  induction n with
  | zero => intro v0 v1 v2 v4 s hf; cases hf
  | succ n ih =>
    intro v0 v1 v2 v4 s hf
    refine zB zlokG 2 (pc' := 8) (ls' := [(0, .int v0), (1, .int v1), (2, .long v2), (4, .int v4)]) (st' := [.int v1, .int v4]) (s' := s) rfl ?_
    refine zCgt hf (tgt := 31) rfl (by decide) (fun hc hf => ?_) (fun hc hf => ?_)
    · refine zB zlokG 1 (pc' := 32) (ls' := [(0, .int v0), (1, .int v1), (2, .long v2), (4, .int v4)]) (st' := [.long v2]) (s' := s) rfl ?_
      exact zRetL hf rfl rfl
    · refine zB zlokG 10 (pc' := 23) (ls' := [(0, .int v0), (1, .int v1), (2, .long v2), (4, .int v4)]) (st' := [.long (v4 : Int32).toInt64, .long (v2 * (((v0 - v1) + v4) : Int32).toInt64)]) (s' := s) rfl ?_
      refine zDivL hf rfl (fun x1 hf => ?_)
      refine zB zlokG 2 (pc' := 28) (ls' := [(4, .int (v4 + 1)), (2, .long x1), (0, .int v0), (1, .int v1)]) (st' := []) (s' := s) rfl ?_
      refine zGoto (tgt := 5) rfl (by decide) ?_
      refine zLoc [2, 3, 1, 0] rfl ?_
      exact ih _ _ _ _ _ hf
set_option maxRecDepth 20000 in
theorem k_su_ways (a0 : Int32) (a1 : Int32) (s : zSt) (r : Int64 × zSt) (hf : f_su_ways a0 a1 s = some r) : zKp zm_su_ways ΛG 0 [.int a0, .int a1] s (some (.long r.1), r.2) := by
  refine zKp_of zmk_su_ways rfl ?_
  show zWA _ _ _ _ _ [(0, .int a0), (1, .int a1)] _ _
  refine zB zlokG 4 (pc' := 5) (ls' := [(4, .int 1), (2, .long 1), (0, .int a0), (1, .int a1)]) (st' := []) (s' := s) rfl ?_
  refine zLoc [2, 3, 1, 0] rfl ?_
  exact c_f_su_ways_5 zFu _ _ _ _ _ hf
set_option maxRecDepth 20000 in
theorem c_f_su_meanSold_5 {r : Int64 × zSt} : ∀ (n : Nat) (v0 : Int32) (v1 : Int32) (v2 : Int32) (v3 : Int64) (v5 : Int32) (s : zSt), f_su_meanSold_5 n v0 v1 v2 v3 v5 s = some r → zWA zm_su_meanSold ΛG 1 (some (.long r.1), r.2) 5 [(0, .int v0), (1, .int v1), (2, .int v2), (3, .long v3), (5, .int v5)] [] s := by
  intro n
  induction n with
  | zero => intro v0 v1 v2 v3 v5 s hf; cases hf
  | succ n ih =>
    intro v0 v1 v2 v3 v5 s hf
    refine zB zlokG 2 (pc' := 8) (ls' := [(0, .int v0), (1, .int v1), (2, .int v2), (3, .long v3), (5, .int v5)]) (st' := [.int v0, .int v5]) (s' := s) rfl ?_
    refine zCgt hf (tgt := 59) rfl (by decide) (fun hc hf => ?_) (fun hc hf => ?_)
    · refine zB zlokG 1 (pc' := 60) (ls' := [(0, .int v0), (1, .int v1), (2, .int v2), (3, .long v3), (5, .int v5)]) (st' := [.long v3]) (s' := s) rfl ?_
      exact zRetL hf rfl rfl
    · refine zB zlokG 2 (pc' := 14) (ls' := [(0, .int v0), (1, .int v1), (2, .int v2), (3, .long v3), (5, .int v5)]) (st' := [.int v5, .int v0]) (s' := s) rfl ?_
      refine zSL hf (As := [.int v0, .int v5]) (rest := []) 2 zmk_su_ways zok_su_ways zl_676 rfl rfl rfl rfl rfl (fun _ e => k_su_ways _ _ _ _ e) (fun x1 hf => ?_)
      refine zB zlokG 3 (pc' := 21) (ls' := [(0, .int v0), (1, .int v1), (2, .int v2), (3, .long v3), (5, .int v5)]) (st' := [.int v5, .long (v1 : Int32).toInt64, .long x1.1]) (s' := x1.2) rfl ?_
      refine zSL hf (As := [.long (v1 : Int32).toInt64, .int v5]) (rest := [.long x1.1]) 2 zmk_su_power zok_su_power zl_679 rfl rfl rfl rfl rfl (fun _ e => k_su_power _ _ _ _ e) (fun x2 hf => ?_)
      refine zB zlokG 8 (pc' := 34) (ls' := [(0, .int v0), (1, .int v1), (2, .int v2), (3, .long v3), (5, .int v5)]) (st' := [.int (v0 - v5), .long ((12 - v1) : Int32).toInt64, .long (x1.1 * x2.1)]) (s' := x2.2) rfl ?_
      refine zSL hf (As := [.long ((12 - v1) : Int32).toInt64, .int (v0 - v5)]) (rest := [.long (x1.1 * x2.1)]) 2 zmk_su_power zok_su_power zl_679 rfl rfl rfl rfl rfl (fun _ e => k_su_power _ _ _ _ e) (fun x3 hf => ?_)
      refine zB zlokG 6 (pc' := 46) (ls' := [(6, .long ((x1.1 * x2.1) * x3.1)), (0, .int v0), (1, .int v1), (2, .int v2), (3, .long v3), (5, .int v5)]) (st' := [.int v2, .int v5, .long ((x1.1 * x2.1) * x3.1), .long v3]) (s' := x3.2) rfl ?_
      refine zMinI zl_682 rfl rfl rfl ?_
      refine zB zlokG 5 (pc' := 56) (ls' := [(5, .int (v5 + 1)), (3, .long (v3 + (((x1.1 * x2.1) * x3.1) * ((zmin v5 v2) : Int32).toInt64))), (6, .long ((x1.1 * x2.1) * x3.1)), (0, .int v0), (1, .int v1), (2, .int v2)]) (st' := []) (s' := x3.2) rfl ?_
      refine zGoto (tgt := 5) rfl (by decide) ?_
      refine zLoc [3, 4, 5, 1, 0] rfl ?_
      exact ih _ _ _ _ _ _ hf
set_option maxRecDepth 20000 in
theorem k_su_meanSold (a0 : Int32) (a1 : Int32) (a2 : Int32) (s : zSt) (r : Int64 × zSt) (hf : f_su_meanSold a0 a1 a2 s = some r) : zKp zm_su_meanSold ΛG 1 [.int a0, .int a1, .int a2] s (some (.long r.1), r.2) := by
  refine zKp_of zmk_su_meanSold rfl ?_
  show zWA _ _ _ _ _ [(0, .int a0), (1, .int a1), (2, .int a2)] _ _
  refine zB zlokG 4 (pc' := 5) (ls' := [(5, .int 0), (3, .long 0), (0, .int a0), (1, .int a1), (2, .int a2)]) (st' := []) (s' := s) rfl ?_
  refine zLoc [2, 3, 4, 1, 0] rfl ?_
  exact c_f_su_meanSold_5 zFu _ _ _ _ _ _ hf
set_option maxRecDepth 20000 in
theorem c_f_su_divisor_15 {r : Int64 × zSt} : ∀ (n : Nat) (v4 : Int64) (v6 : Int64) (v8 : Int32) (s : zSt), f_su_divisor_15 n v4 v6 v8 s = some r → zWA zm_su_divisor ΛG 1 (some (.long r.1), r.2) 15 [(4, .long v4), (6, .long v6), (8, .int v8)] [] s := by
  intro n
  induction n with
  | zero => intro v4 v6 v8 s hf; cases hf
  | succ n ih =>
    intro v4 v6 v8 s hf
    refine zB zlokG 2 (pc' := 20) (ls' := [(4, .long v4), (6, .long v6), (8, .int v8)]) (st' := [.int 1000, .int v8]) (s' := s) rfl ?_
    refine zCge hf (tgt := 51) rfl (by decide) (fun hc hf => ?_) (fun hc hf => ?_)
    · refine zB zlokG 2 (pc' := 54) (ls' := [(4, .long v4), (6, .long v6), (8, .int v8)]) (st' := [.long 1, .long v4]) (s' := s) rfl ?_
      refine zMaxL zl_691 rfl rfl rfl ?_
      exact zRetL hf rfl rfl
    · refine zB zlokG 3 (pc' := 27) (ls' := [(4, .long v4), (6, .long v6), (8, .int v8)]) (st' := [.int (lg_cmp v6 0)]) (s' := s) rfl ?_
      refine zIeq hf (tgt := 51) rfl (by decide) (fun hc hf => ?_) (fun hc hf => ?_)
      · refine zB zlokG 2 (pc' := 54) (ls' := [(4, .long v4), (6, .long v6), (8, .int v8)]) (st' := [.long 1, .long v4]) (s' := s) rfl ?_
        refine zMaxL zl_691 rfl rfl rfl ?_
        exact zRetL hf rfl rfl
      · refine zB zlokG 2 (pc' := 34) (ls' := [(4, .long v4), (6, .long v6), (8, .int v8)]) (st' := [.long v6, .long v4]) (s' := s) rfl ?_
        refine zRemL hf rfl (fun x1 hf => ?_)
        refine zB zlokG 6 (pc' := 48) (ls' := [(8, .int (v8 + 1)), (6, .long x1), (4, .long v6), (9, .long x1)]) (st' := []) (s' := s) rfl ?_
        refine zGoto (tgt := 15) rfl (by decide) ?_
        refine zLoc [2, 1, 0] rfl ?_
        exact ih _ _ _ _ hf
set_option maxRecDepth 20000 in
theorem k_su_divisor (a0 : Int64) (a1 : Int64) (s : zSt) (r : Int64 × zSt) (hf : f_su_divisor a0 a1 s = some r) : zKp zm_su_divisor ΛG 1 [.long a0, .long a1] s (some (.long r.1), r.2) := by
  refine zKp_of zmk_su_divisor rfl ?_
  show zWA _ _ _ _ _ [(0, .long a0), (2, .long a1)] _ _
  refine zB zlokG 1 (pc' := 1) (ls' := [(0, .long a0), (2, .long a1)]) (st' := [.long a0]) (s' := s) rfl ?_
  refine zAbsL zl_688 rfl rfl rfl ?_
  refine zB zlokG 2 (pc' := 7) (ls' := [(4, .long (zabsL a0)), (0, .long a0), (2, .long a1)]) (st' := [.long a1]) (s' := s) rfl ?_
  refine zAbsL zl_688 rfl rfl rfl ?_
  refine zB zlokG 3 (pc' := 15) (ls' := [(8, .int 0), (6, .long (zabsL a1)), (4, .long (zabsL a0)), (0, .long a0), (2, .long a1)]) (st' := []) (s' := s) rfl ?_
  refine zLoc [2, 1, 0] rfl ?_
  exact c_f_su_divisor_15 zFu _ _ _ _ hf
set_option maxRecDepth 20000 in
theorem k_tp_add (a0 : Int32) (s : zSt) (r : Int32 × zSt) (hf : f_tp_add a0 s = some r) : zKp zm_tp_add ΛG 0 [.ref 13, .int a0] s (some (.int r.1), r.2) := by
  refine zKp_of zmk_tp_add rfl ?_
  show zWA _ _ _ _ _ [(0, .ref 13), (1, .int a0)] _ _
  refine zB zlokG 3 (pc' := 6) (ls' := [(0, .ref 13), (1, .int a0)]) (st' := [.int 120, .int (s.1 13 1)]) (s' := s) rfl ?_
  refine zClt hf (tgt := 11) rfl (by decide) (fun hc hf => ?_) (fun hc hf => ?_)
  · refine zB zlokG 5 (pc' := 20) (ls' := [(0, .ref 13), (1, .int a0)]) (st' := [.int a0, .int (s.1 13 1), .ref 14]) (s' := s) rfl ?_
    refine zIast hf rfl (by rfl) (fun s1 hf => ?_)
    refine zB zlokG 7 (pc' := 32) (ls' := [(0, .ref 13), (1, .int a0)]) (st' := [.int 1]) (s' := (zw s1 13 1 ((s1.1 13 1) + 1))) rfl ?_
    exact zRetZc hf (by decide) rfl rfl
  · refine zB zlokG 1 (pc' := 10) (ls' := [(0, .ref 13), (1, .int a0)]) (st' := [.int 0]) (s' := s) rfl ?_
    exact zRetZc hf (by decide) rfl rfl
set_option maxRecDepth 20000 in
theorem k_tp_clear (s : zSt) (r : zSt) (hf : f_tp_clear s = some r) : zKp zm_tp_clear ΛG 0 [.ref 13] s (none, r) := by
  refine zKp_of zmk_tp_clear rfl ?_
  show zWA _ _ _ _ _ [(0, .ref 13)] _ _
  refine zB zlokG 3 (pc' := 5) (ls' := [(0, .ref 13)]) (st' := []) (s' := (zw s 13 1 0)) rfl ?_
  exact zRetV hf rfl rfl
set_option maxRecDepth 20000 in
theorem k_tp_step (a0 : Int32) (s : zSt) (r : Int32 × zSt) (hf : f_tp_step a0 s = some r) : zKp zm_tp_step ΛG 0 [.ref 13, .int a0] s (some (.int r.1), r.2) := by
  refine zKp_of zmk_tp_step rfl ?_
  show zWA _ _ _ _ _ [(0, .ref 13), (1, .int a0)] _ _
  refine zB zlokG 5 (pc' := 9) (ls' := [(0, .ref 13), (1, .int a0)]) (st' := [.int 121, .int (s.1 13 3)]) (s' := s) rfl ?_
  refine zClt hf (tgt := 14) rfl (by decide) (fun hc hf => ?_) (fun hc hf => ?_)
  · refine zB zlokG 5 (pc' := 23) (ls' := [(0, .ref 13), (1, .int a0)]) (st' := [.int a0, .int (s.1 13 3), .ref 15]) (s' := s) rfl ?_
    refine zIast hf rfl (by rfl) (fun s1 hf => ?_)
    refine zB zlokG 7 (pc' := 35) (ls' := [(0, .ref 13), (1, .int a0)]) (st' := [.int 1]) (s' := (zw s1 13 3 ((s1.1 13 3) + 1))) rfl ?_
    exact zRetZc hf (by decide) rfl rfl
  · refine zB zlokG 1 (pc' := 13) (ls' := [(0, .ref 13), (1, .int a0)]) (st' := [.int 0]) (s' := s) rfl ?_
    exact zRetZc hf (by decide) rfl rfl
set_option maxRecDepth 20000 in
theorem k_tp_next (s : zSt) (r : Int32 × zSt) (hf : f_tp_next s = some r) : zKp zm_tp_next ΛG 0 [.ref 13] s (some (.int r.1), r.2) := by
  refine zKp_of zmk_tp_next rfl ?_
  show zWA _ _ _ _ _ [(0, .ref 13)] _ _
  refine zB zlokG 4 (pc' := 8) (ls' := [(0, .ref 13)]) (st' := [.int (s.1 13 1), .int (s.1 13 4)]) (s' := s) rfl ?_
  refine zCge hf (tgt := 23) rfl (by decide) (fun hc hf => ?_) (fun hc hf => ?_)
  · refine zB zlokG 1 (pc' := 24) (ls' := [(0, .ref 13)]) (st' := [.int (-1)]) (s' := s) rfl ?_
    exact zRetI hf rfl rfl
  · refine zB zlokG 4 (pc' := 19) (ls' := [(0, .ref 13)]) (st' := [.int (s.1 13 4), .ref 14]) (s' := s) rfl ?_
    refine zIald hf rfl (by rfl) (fun x1 hf => ?_)
    refine zGoto (tgt := 24) rfl (by decide) ?_
    exact zRetI hf rfl rfl
set_option maxRecDepth 20000 in
theorem k_tp_took (a0 : Int32) (s : zSt) (r : Int32 × zSt) (hf : f_tp_took a0 s = some r) : zKp zm_tp_took ΛG 1 [.ref 13, .int a0] s (some (.int r.1), r.2) := by
  refine zKp_of zmk_tp_took rfl ?_
  show zWA _ _ _ _ _ [(0, .ref 13), (1, .int a0)] _ _
  refine zB zlokG 1 (pc' := 1) (ls' := [(0, .ref 13), (1, .int a0)]) (st' := [.ref 13]) (s' := s) rfl ?_
  refine zXI hf (As := []) (rest := []) 0 zmk_tp_next zok_tp_next zl_479 rfl rfl rfl rfl rfl rfl rfl rfl (fun _ e => k_tp_next _ _ e) (fun x1 hf => ?_)
  refine zB zlokG 1 (pc' := 5) (ls' := [(0, .ref 13), (1, .int a0)]) (st' := [.int a0, .int x1.1]) (s' := x1.2) rfl ?_
  refine zCeq hf (tgt := 10) rfl (by decide) (fun hc hf => ?_) (fun hc hf => ?_)
  · refine zB zlokG 7 (pc' := 21) (ls' := [(0, .ref 13), (1, .int a0)]) (st' := [.int 1]) (s' := (zw x1.2 13 4 ((x1.2.1 13 4) + 1))) rfl ?_
    exact zRetZc hf (by decide) rfl rfl
  · refine zB zlokG 1 (pc' := 9) (ls' := [(0, .ref 13), (1, .int a0)]) (st' := [.int 0]) (s' := x1.2) rfl ?_
    exact zRetZc hf (by decide) rfl rfl
set_option maxRecDepth 20000 in
theorem k_tp_isDigit (a0 : Int32) (s : zSt) (r : Int32 × zSt) (hf : f_tp_isDigit a0 s = some r) : zKp zm_tp_isDigit ΛG 0 [.int a0] s (some (.int r.1), r.2) := by
  refine zKp_of zmk_tp_isDigit rfl ?_
  show zWA _ _ _ _ _ [(0, .int a0)] _ _
  refine zB zlokG 2 (pc' := 3) (ls' := [(0, .int a0)]) (st' := [.int 48, .int a0]) (s' := s) rfl ?_
  refine zClt hf (tgt := 16) rfl (by decide) (fun hc hf => ?_) (fun hc hf => ?_)
  · refine zB zlokG 1 (pc' := 17) (ls' := [(0, .int a0)]) (st' := [.int 0]) (s' := s) rfl ?_
    exact zRetZc hf (by decide) rfl rfl
  · refine zB zlokG 2 (pc' := 9) (ls' := [(0, .int a0)]) (st' := [.int 57, .int a0]) (s' := s) rfl ?_
    refine zCgt hf (tgt := 16) rfl (by decide) (fun hc hf => ?_) (fun hc hf => ?_)
    · refine zB zlokG 1 (pc' := 17) (ls' := [(0, .int a0)]) (st' := [.int 0]) (s' := s) rfl ?_
      exact zRetZc hf (by decide) rfl rfl
    · refine zB zlokG 1 (pc' := 13) (ls' := [(0, .int a0)]) (st' := [.int 1]) (s' := s) rfl ?_
      refine zGoto (tgt := 17) rfl (by decide) ?_
      exact zRetZc hf (by decide) rfl rfl
set_option maxRecDepth 20000 in
theorem c_f_tp_readName_2 {r : Int32 × zSt} : ∀ (n : Nat) (v1 : Int32) (v2 : Int32) (s : zSt), f_tp_readName_2 n v1 v2 s = some r → zWA zm_tp_readName ΛG 1 (some (.int r.1), r.2) 2 [(0, .ref 13), (1, .int v1), (2, .int v2)] [] s := by
  intro n
  induction n with
  | zero => intro v1 v2 s hf; cases hf
  | succ n ih =>
    intro v1 v2 s hf
    refine zB zlokG 2 (pc' := 6) (ls' := [(0, .ref 13), (1, .int v1), (2, .int v2)]) (st' := [.ref 1000, .int v2]) (s' := s) rfl ?_
    refine zTlen (j := 0) (v := 9) rfl rfl rfl ?_
    refine zCge hf (tgt := 43) rfl (by decide) (fun hc hf => ?_) (fun hc hf => ?_)
    · refine zB zlokG 1 (pc' := 44) (ls' := [(0, .ref 13), (1, .int v1), (2, .int v2)]) (st' := [.int 0]) (s' := s) rfl ?_
      exact zRetZc hf (by decide) rfl rfl
    · refine zB zlokG 2 (pc' := 14) (ls' := [(0, .ref 13), (1, .int v1), (2, .int v2)]) (st' := [.int v2, .ref 1000]) (s' := s) rfl ?_
      refine zTcald (j := 0) hf rfl rfl (fun x1 hf => ?_)
      refine zB zlokG 1 (pc' := 16) (ls' := [(0, .ref 13), (1, .int v1), (2, .int v2)]) (st' := [.int v1, .int x1]) (s' := s) rfl ?_
      refine zCne hf (tgt := 37) rfl (by decide) (fun hc hf => ?_) (fun hc hf => ?_)
      · refine zB zlokG 10 (pc' := 33) (ls' := [(0, .ref 13), (1, .int v1), (2, .int v2)]) (st' := [.int ((-1) - v2), .ref 13]) (s' := (zw s 13 4 ((s.1 13 4) + 1))) rfl ?_
        refine zXI hf (As := [.int ((-1) - v2)]) (rest := []) 1 zmk_tp_step zok_tp_step zl_490 rfl rfl rfl rfl rfl rfl rfl rfl (fun _ e => k_tp_step _ _ _ e) (fun x2 hf => ?_)
        exact zRetZb hf rfl rfl
      · refine zB zlokG 1 (pc' := 40) (ls' := [(2, .int (v2 + 1)), (0, .ref 13), (1, .int v1)]) (st' := []) (s' := s) rfl ?_
        refine zGoto (tgt := 2) rfl (by decide) ?_
        refine zLoc [1, 2, 0] rfl ?_
        exact ih _ _ _ hf
set_option maxRecDepth 20000 in
theorem k_tp_readName (a0 : Int32) (s : zSt) (r : Int32 × zSt) (hf : f_tp_readName a0 s = some r) : zKp zm_tp_readName ΛG 1 [.ref 13, .int a0] s (some (.int r.1), r.2) := by
  refine zKp_of zmk_tp_readName rfl ?_
  show zWA _ _ _ _ _ [(0, .ref 13), (1, .int a0)] _ _
  refine zB zlokG 2 (pc' := 2) (ls' := [(2, .int 0), (0, .ref 13), (1, .int a0)]) (st' := []) (s' := s) rfl ?_
  refine zLoc [1, 2, 0] rfl ?_
  exact c_f_tp_readName_2 zFu _ _ _ hf
set_option maxRecDepth 20000 in
theorem c_f_tp_readNumber_4 {r : Int32 × zSt} : ∀ (n : Nat) (v1 : Int32) (v2 : Int32) (s : zSt), f_tp_readNumber_4 n v1 v2 s = some r → zWA zm_tp_readNumber ΛG 1 (some (.int r.1), r.2) 4 [(0, .ref 13), (1, .int v1), (2, .int v2)] [] s := by
  intro n
  induction n with
  | zero => intro v1 v2 s hf; cases hf
  | succ n ih =>
    intro v1 v2 s hf
    refine zB zlokG 2 (pc' := 6) (ls' := [(0, .ref 13), (1, .int v1), (2, .int v2)]) (st' := [.int 4, .int v2]) (s' := s) rfl ?_
    refine zCge hf (tgt := 48) rfl (by decide) (fun hc hf => ?_) (fun hc hf => ?_)
    · refine zB zlokG 2 (pc' := 50) (ls' := [(0, .ref 13), (1, .int v1), (2, .int v2)]) (st' := [.int v1, .ref 13]) (s' := s) rfl ?_
      refine zXI hf (As := [.int v1]) (rest := []) 1 zmk_tp_step zok_tp_step zl_490 rfl rfl rfl rfl rfl rfl rfl rfl (fun _ e => k_tp_step _ _ _ e) (fun x1 hf => ?_)
      exact zRetZb hf rfl rfl
    · refine zB zlokG 1 (pc' := 10) (ls' := [(0, .ref 13), (1, .int v1), (2, .int v2)]) (st' := [.ref 13]) (s' := s) rfl ?_
      refine zXI hf (As := []) (rest := []) 0 zmk_tp_next zok_tp_next zl_479 rfl rfl rfl rfl rfl rfl rfl rfl (fun _ e => k_tp_next _ _ e) (fun x2 hf => ?_)
      refine zSI hf (As := [.int x2.1]) (rest := []) 1 zmk_tp_isDigit zok_tp_isDigit zl_483 rfl rfl rfl rfl rfl (fun _ e => k_tp_isDigit _ _ _ e) (fun x3 hf => ?_)
      refine zIeq hf (tgt := 48) rfl (by decide) (fun hc hf => ?_) (fun hc hf => ?_)
      · refine zB zlokG 2 (pc' := 50) (ls' := [(0, .ref 13), (1, .int v1), (2, .int v2)]) (st' := [.int v1, .ref 13]) (s' := x3.2) rfl ?_
        refine zXI hf (As := [.int v1]) (rest := []) 1 zmk_tp_step zok_tp_step zl_490 rfl rfl rfl rfl rfl rfl rfl rfl (fun _ e => k_tp_step _ _ _ e) (fun x4 hf => ?_)
        exact zRetZb hf rfl rfl
      · refine zB zlokG 4 (pc' := 24) (ls' := [(0, .ref 13), (1, .int v1), (2, .int v2)]) (st' := [.ref 13, .int (v1 * 10)]) (s' := x3.2) rfl ?_
        refine zXI hf (As := []) (rest := [.int (v1 * 10)]) 0 zmk_tp_next zok_tp_next zl_479 rfl rfl rfl rfl rfl rfl rfl rfl (fun _ e => k_tp_next _ _ e) (fun x5 hf => ?_)
        refine zB zlokG 11 (pc' := 45) (ls' := [(2, .int (v2 + 1)), (1, .int (((v1 * 10) + x5.1) - 48)), (0, .ref 13)]) (st' := []) (s' := (zw x5.2 13 4 ((x5.2.1 13 4) + 1))) rfl ?_
        refine zGoto (tgt := 4) rfl (by decide) ?_
        refine zLoc [2, 1, 0] rfl ?_
        exact ih _ _ _ hf
set_option maxRecDepth 20000 in
theorem k_tp_readNumber (s : zSt) (r : Int32 × zSt) (hf : f_tp_readNumber s = some r) : zKp zm_tp_readNumber ΛG 1 [.ref 13] s (some (.int r.1), r.2) := by
  refine zKp_of zmk_tp_readNumber rfl ?_
  show zWA _ _ _ _ _ [(0, .ref 13)] _ _
  refine zB zlokG 4 (pc' := 4) (ls' := [(2, .int 0), (1, .int 0), (0, .ref 13)]) (st' := []) (s' := s) rfl ?_
  refine zLoc [2, 1, 0] rfl ?_
  exact c_f_tp_readNumber_4 zFu _ _ _ hf
