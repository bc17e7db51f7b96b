/-! contracts: dy_refill rc_jugCost dy_begin dy_draw dy_emptyGlass dy_grow g_isWithin g_isQuarter ls_held ls_look lw_isLineThatCounts lw_joined lw_worth -/
set_option maxRecDepth 20000 in
theorem k_dy_refill (o : Nat) (ho : zDyAt o) (s : zSt) (r : zSt) (hf : f_dy_refill o s = some r) : zKp zm_dy_refill ΛG 0 [.ref o] s (none, r) := by
  refine zKp_of zmk_dy_refill rfl ?_
  show zWA _ _ _ _ _ [(0, .ref o)] _ _
  refine zB zlokG 1 (pc' := 1) (ls' := [(0, .ref o)]) (st' := [.ref o]) (s' := s) rfl ?_
  refine zGetI (j := 5) rfl rfl ho.1 rfl ?_
  refine zIne hf (tgt := 41) rfl (by decide) (fun hc hf => ?_) (fun hc hf => ?_)
  · refine zB zlokG 1 (pc' := 8) (ls' := [(0, .ref o)]) (st' := [.ref o]) (s' := s) rfl ?_
    refine zGetI (j := 6) rfl rfl ho.1 rfl ?_
    refine zB zlokG 1 (pc' := 12) (ls' := [(0, .ref o)]) (st' := [.ref o, .int (s.1 o 6)]) (s' := s) rfl ?_
    refine zGetI (j := 9) rfl rfl ho.1 rfl ?_
    refine zCge hf (tgt := 41) rfl (by decide) (fun hc hf => ?_) (fun hc hf => ?_)
    · exact zRetV hf rfl rfl
    · refine zB zlokG 2 (pc' := 20) (ls' := [(0, .ref o)]) (st' := [.ref o, .ref o]) (s' := s) rfl ?_
      refine zGetI (j := 6) rfl rfl ho.1 rfl ?_
      refine zB zlokG 2 (pc' := 25) (ls' := [(0, .ref o)]) (st' := [.int ((s.1 o 6) + 1), .ref o]) (s' := s) rfl ?_
      refine zPutX zlkkG (j := 6) hf rfl rfl ho.1 rfl (Or.inl rfl) (fun s1 hf => ?_)
      refine zB zlokG 2 (pc' := 30) (ls' := [(0, .ref o)]) (st' := [.ref o, .ref o]) (s' := s1) rfl ?_
      refine zGetI (j := 11) rfl rfl ho.1 rfl ?_
      refine zPutX zlkkG (j := 5) hf rfl rfl ho.1 rfl (Or.inl rfl) (fun s2 hf => ?_)
      refine zB zlokG 2 (pc' := 38) (ls' := [(0, .ref o)]) (st' := [.int 0, .ref o]) (s' := s2) rfl ?_
      refine zPutX zlkkG (j := 7) hf rfl rfl ho.1 rfl (Or.inl rfl) (fun s3 hf => ?_)
      exact zRetV hf rfl rfl
  · exact zRetV hf rfl rfl
set_option maxRecDepth 20000 in
theorem k_rc_jugCost (s : zSt) (r : Int32 × zSt) (hf : f_rc_jugCost s = some r) : zKp zm_rc_jugCost ΛG 0 [.ref 1] s (some (.int r.1), r.2) := by
  refine zKp_of zmk_rc_jugCost rfl ?_
  show zWA _ _ _ _ _ [(0, .ref 1)] _ _
  refine zB zlokG 4 (pc' := 6) (ls' := [(0, .ref 1)]) (st' := [.int 0, .ref 2, .int 3]) (s' := s) rfl ?_
  refine zIald hf rfl (by rfl) (fun x1 hf => ?_)
  refine zB zlokG 4 (pc' := 13) (ls' := [(0, .ref 1)]) (st' := [.int 1, .ref 2, .int (3 * x1)]) (s' := s) rfl ?_
  refine zIald hf rfl (by rfl) (fun x2 hf => ?_)
  refine zB zlokG 1 (pc' := 15) (ls' := [(0, .ref 1)]) (st' := [.int ((3 * x1) + x2)]) (s' := s) rfl ?_
  exact zRetI hf rfl rfl
set_option maxRecDepth 20000 in
theorem k_dy_begin (o : Nat) (a0 : Int32) (a2 : Int32) (a3 : Int32) (ho : zDyAt o) (s : zSt) (r : zSt) (hf : f_dy_begin o a0 a2 a3 s = some r) : zKp zm_dy_begin ΛG 1 [.ref o, .int a0, .ref 1, .int a2, .int a3] s (none, r) := by
  refine zKp_of zmk_dy_begin rfl ?_
  show zWA _ _ _ _ _ [(0, .ref o), (1, .int a0), (2, .ref 1), (3, .int a2), (4, .int a3)] _ _
  refine zB zlokG 1 (pc' := 1) (ls' := [(0, .ref o), (1, .int a0), (2, .ref 1), (3, .int a2), (4, .int a3)]) (st' := [.ref o]) (s' := s) rfl ?_
  refine zGetR (j := 0) rfl rfl ho.1 rfl ?_
  refine zB zlokG 1 (pc' := 5) (ls' := [(0, .ref o), (1, .int a0), (2, .ref 1), (3, .int a2), (4, .int a3)]) (st' := [.int 0, .ref (o + 1)]) (s' := s) rfl ?_
  refine zFillI zlokG hf zl_574 rfl rfl rfl ho.2 (by decide) (fun s1 hf => ?_)
  refine zB zlokG 2 (pc' := 10) (ls' := [(0, .ref o), (1, .int a0), (2, .ref 1), (3, .int a2), (4, .int a3)]) (st' := [.int 0, .ref o]) (s' := s1) rfl ?_
  refine zPutX zlkkG (j := 1) hf rfl rfl ho.1 rfl (Or.inl rfl) (fun s2 hf => ?_)
  refine zB zlokG 2 (pc' := 15) (ls' := [(0, .ref o), (1, .int a0), (2, .ref 1), (3, .int a2), (4, .int a3)]) (st' := [.int 0, .ref o]) (s' := s2) rfl ?_
  refine zPutX zlkkG (j := 3) hf rfl rfl ho.1 rfl (Or.inl rfl) (fun s3 hf => ?_)
  refine zB zlokG 2 (pc' := 20) (ls' := [(0, .ref o), (1, .int a0), (2, .ref 1), (3, .int a2), (4, .int a3)]) (st' := [.int 0, .ref o]) (s' := s3) rfl ?_
  refine zPutX zlkkG (j := 4) hf rfl rfl ho.1 rfl (Or.inl rfl) (fun s4 hf => ?_)
  refine zB zlokG 2 (pc' := 25) (ls' := [(0, .ref o), (1, .int a0), (2, .ref 1), (3, .int a2), (4, .int a3)]) (st' := [.int 0, .ref o]) (s' := s4) rfl ?_
  refine zPutX zlkkG (j := 5) hf rfl rfl ho.1 rfl (Or.inl rfl) (fun s5 hf => ?_)
  refine zB zlokG 2 (pc' := 30) (ls' := [(0, .ref o), (1, .int a0), (2, .ref 1), (3, .int a2), (4, .int a3)]) (st' := [.int 0, .ref o]) (s' := s5) rfl ?_
  refine zPutX zlkkG (j := 6) hf rfl rfl ho.1 rfl (Or.inl rfl) (fun s6 hf => ?_)
  refine zB zlokG 2 (pc' := 35) (ls' := [(0, .ref o), (1, .int a0), (2, .ref 1), (3, .int a2), (4, .int a3)]) (st' := [.int a0, .ref o]) (s' := s6) rfl ?_
  refine zPutX zlkkG (j := 8) hf rfl rfl ho.1 rfl (Or.inl rfl) (fun s7 hf => ?_)
  refine zB zlokG 2 (pc' := 40) (ls' := [(0, .ref o), (1, .int a0), (2, .ref 1), (3, .int a2), (4, .int a3)]) (st' := [.int a2, .ref o]) (s' := s7) rfl ?_
  refine zPutX zlkkG (j := 2) hf rfl rfl ho.1 rfl (Or.inl rfl) (fun s8 hf => ?_)
  refine zB zlokG 2 (pc' := 46) (ls' := [(0, .ref o), (1, .int a0), (2, .ref 1), (3, .int a2), (4, .int a3)]) (st' := [.int a3, .ref o]) (s' := s8) rfl ?_
  refine zPutX zlkkG (j := 9) hf rfl rfl ho.1 rfl (Or.inl rfl) (fun s9 hf => ?_)
  refine zB zlokG 2 (pc' := 51) (ls' := [(0, .ref o), (1, .int a0), (2, .ref 1), (3, .int a2), (4, .int a3)]) (st' := [.ref 1, .ref o]) (s' := s9) rfl ?_
  refine zXI hf (As := []) (rest := [.ref o]) 0 zmk_rc_jugCost zok_rc_jugCost zl_575 rfl rfl rfl rfl rfl rfl rfl rfl (fun _ e => k_rc_jugCost _ _ e) (fun x10 hf => ?_)
  refine zPutX zlkkG (j := 10) hf rfl rfl ho.1 rfl (Or.inl rfl) (fun s11 hf => ?_)
  refine zB zlokG 4 (pc' := 63) (ls' := [(0, .ref o), (1, .int a0), (2, .ref 1), (3, .int a2), (4, .int a3)]) (st' := [.int 2, .ref 2, .ref o]) (s' := s11) rfl ?_
  refine zIald hf rfl (by rfl) (fun x12 hf => ?_)
  refine zPutX zlkkG (j := 11) hf rfl rfl ho.1 rfl (Or.inl rfl) (fun s13 hf => ?_)
  refine zB zlokG 4 (pc' := 73) (ls' := [(0, .ref o), (1, .int a0), (2, .ref 1), (3, .int a2), (4, .int a3)]) (st' := [.int 5, .ref 2, .ref o]) (s' := s13) rfl ?_
  refine zIald hf rfl (by rfl) (fun x14 hf => ?_)
  refine zPutX zlkkG (j := 12) hf rfl rfl ho.1 rfl (Or.inl rfl) (fun s15 hf => ?_)
  refine zB zlokG 4 (pc' := 84) (ls' := [(0, .ref o), (1, .int a0), (2, .ref 1), (3, .int a2), (4, .int a3)]) (st' := [.int 6, .ref 2, .ref o]) (s' := s15) rfl ?_
  refine zIald hf rfl (by rfl) (fun x16 hf => ?_)
  refine zPutX zlkkG (j := 13) hf rfl rfl ho.1 rfl (Or.inl rfl) (fun s17 hf => ?_)
  refine zB zlokG 1 (pc' := 89) (ls' := [(0, .ref o), (1, .int a0), (2, .ref 1), (3, .int a2), (4, .int a3)]) (st' := [.ref o]) (s' := s17) rfl ?_
  refine zXV hf (As := []) (rest := []) 0 zmk_dy_refill zok_dy_refill zl_576 rfl ho.1 rfl rfl rfl rfl rfl rfl (fun _ e => k_dy_refill _ ho _ _ e) (fun x18 hf => ?_)
  exact zRetV hf rfl rfl
set_option maxRecDepth 20000 in
theorem k_dy_draw (o : Nat) (ho : zDyAt o) (s : zSt) (r : Int32 × zSt) (hf : f_dy_draw o s = some r) : zKp zm_dy_draw ΛG 0 [.ref o] s (some (.int r.1), r.2) := by
  refine zKp_of zmk_dy_draw rfl ?_
  show zWA _ _ _ _ _ [(0, .ref o)] _ _
  refine zB zlokG 2 (pc' := 2) (ls' := [(0, .ref o)]) (st' := [.ref o, .ref o]) (s' := s) rfl ?_
  refine zGetI (j := 8) rfl rfl ho.1 rfl ?_
  refine zB zlokG 4 (pc' := 12) (ls' := [(0, .ref o)]) (st' := [.int (((s.1 o 8) * 1103515245) + 12345), .ref o]) (s' := s) rfl ?_
  refine zPutX zlkkG (j := 8) hf rfl rfl ho.1 rfl (Or.inl rfl) (fun s1 hf => ?_)
  refine zB zlokG 1 (pc' := 16) (ls' := [(0, .ref o)]) (st' := [.ref o]) (s' := s1) rfl ?_
  refine zGetI (j := 8) rfl rfl ho.1 rfl ?_
  refine zB zlokG 4 (pc' := 25) (ls' := [(0, .ref o)]) (st' := [.int (zrem (zush (s1.1 o 8) 8) 12)]) (s' := s1) rfl ?_
  exact zRetI hf rfl rfl
set_option maxRecDepth 20000 in
theorem k_dy_emptyGlass (o : Nat) (ho : zDyAt o) (s : zSt) (r : zSt) (hf : f_dy_emptyGlass o s = some r) : zKp zm_dy_emptyGlass ΛG 1 [.ref o] s (none, r) := by
  refine zKp_of zmk_dy_emptyGlass rfl ?_
  show zWA _ _ _ _ _ [(0, .ref o)] _ _
  refine zB zlokG 2 (pc' := 2) (ls' := [(0, .ref o)]) (st' := [.ref o, .ref o]) (s' := s) rfl ?_
  refine zGetI (j := 5) rfl rfl ho.1 rfl ?_
  refine zB zlokG 2 (pc' := 7) (ls' := [(0, .ref o)]) (st' := [.int ((s.1 o 5) - 1), .ref o]) (s' := s) rfl ?_
  refine zPutX zlkkG (j := 5) hf rfl rfl ho.1 rfl (Or.inl rfl) (fun s1 hf => ?_)
  refine zB zlokG 1 (pc' := 11) (ls' := [(0, .ref o)]) (st' := [.ref o]) (s' := s1) rfl ?_
  refine zXV hf (As := []) (rest := []) 0 zmk_dy_refill zok_dy_refill zl_576 rfl ho.1 rfl rfl rfl rfl rfl rfl (fun _ e => k_dy_refill _ ho _ _ e) (fun x2 hf => ?_)
  exact zRetV hf rfl rfl
set_option maxRecDepth 20000 in
theorem k_dy_grow (o : Nat) (ho : zDyAt o) (s : zSt) (r : zSt) (hf : f_dy_grow o s = some r) : zKp zm_dy_grow ΛG 1 [.ref o] s (none, r) := by
  refine zKp_of zmk_dy_grow rfl ?_
  show zWA _ _ _ _ _ [(0, .ref o)] _ _
  refine zB zlokG 1 (pc' := 1) (ls' := [(0, .ref o)]) (st' := [.ref o]) (s' := s) rfl ?_
  refine zGetI (j := 5) rfl rfl ho.1 rfl ?_
  refine zIle hf (tgt := 45) rfl (by decide) (fun hc hf => ?_) (fun hc hf => ?_)
  · refine zB zlokG 2 (pc' := 47) (ls' := [(0, .ref o)]) (st' := [.ref o, .ref o]) (s' := s) rfl ?_
    refine zGetI (j := 7) rfl rfl ho.1 rfl ?_
    refine zB zlokG 2 (pc' := 52) (ls' := [(0, .ref o)]) (st' := [.int ((s.1 o 7) + 1), .ref o]) (s' := s) rfl ?_
    refine zPutX zlkkG (j := 7) hf rfl rfl ho.1 rfl (Or.inl rfl) (fun s1 hf => ?_)
    exact zRetV hf rfl rfl
  · refine zB zlokG 1 (pc' := 8) (ls' := [(0, .ref o)]) (st' := [.ref o]) (s' := s) rfl ?_
    refine zGetI (j := 7) rfl rfl ho.1 rfl ?_
    refine zB zlokG 3 (pc' := 14) (ls' := [(0, .ref o)]) (st' := [.ref o, .int ((s.1 o 7) + 1)]) (s' := s) rfl ?_
    refine zGetI (j := 12) rfl rfl ho.1 rfl ?_
    refine zClt hf (tgt := 45) rfl (by decide) (fun hc hf => ?_) (fun hc hf => ?_)
    · refine zB zlokG 2 (pc' := 47) (ls' := [(0, .ref o)]) (st' := [.ref o, .ref o]) (s' := s) rfl ?_
      refine zGetI (j := 7) rfl rfl ho.1 rfl ?_
      refine zB zlokG 2 (pc' := 52) (ls' := [(0, .ref o)]) (st' := [.int ((s.1 o 7) + 1), .ref o]) (s' := s) rfl ?_
      refine zPutX zlkkG (j := 7) hf rfl rfl ho.1 rfl (Or.inl rfl) (fun s2 hf => ?_)
      exact zRetV hf rfl rfl
    · refine zB zlokG 2 (pc' := 22) (ls' := [(0, .ref o)]) (st' := [.ref o, .ref o]) (s' := s) rfl ?_
      refine zGetI (j := 4) rfl rfl ho.1 rfl ?_
      refine zB zlokG 1 (pc' := 26) (ls' := [(0, .ref o)]) (st' := [.ref o, .int (s.1 o 4), .ref o]) (s' := s) rfl ?_
      refine zGetI (j := 5) rfl rfl ho.1 rfl ?_
      refine zB zlokG 1 (pc' := 30) (ls' := [(0, .ref o)]) (st' := [.int ((s.1 o 4) + (s.1 o 5)), .ref o]) (s' := s) rfl ?_
      refine zPutX zlkkG (j := 4) hf rfl rfl ho.1 rfl (Or.inl rfl) (fun s3 hf => ?_)
      refine zB zlokG 2 (pc' := 35) (ls' := [(0, .ref o)]) (st' := [.int 0, .ref o]) (s' := s3) rfl ?_
      refine zPutX zlkkG (j := 5) hf rfl rfl ho.1 rfl (Or.inl rfl) (fun s4 hf => ?_)
      refine zB zlokG 1 (pc' := 39) (ls' := [(0, .ref o)]) (st' := [.ref o]) (s' := s4) rfl ?_
      refine zXV hf (As := []) (rest := []) 0 zmk_dy_refill zok_dy_refill zl_576 rfl ho.1 rfl rfl rfl rfl rfl rfl (fun _ e => k_dy_refill _ ho _ _ e) (fun x5 hf => ?_)
      refine zGoto (tgt := 55) rfl (by decide) ?_
      exact zRetV hf rfl rfl
set_option maxRecDepth 20000 in
theorem k_g_isWithin (a0 : Int32) (a1 : Int32) (a2 : Int32) (s : zSt) (r : Int32 × zSt) (hf : f_g_isWithin a0 a1 a2 s = some r) : zKp zm_g_isWithin ΛG 0 [.int a0, .int a1, .int a2] s (some (.int r.1), r.2) := by
  refine zKp_of zmk_g_isWithin rfl ?_
  show zWA _ _ _ _ _ [(0, .int a0), (1, .int a1), (2, .int a2)] _ _
  refine zB zlokG 2 (pc' := 2) (ls' := [(0, .int a0), (1, .int a1), (2, .int a2)]) (st' := [.int a1, .int a0]) (s' := s) rfl ?_
  refine zClt hf (tgt := 14) rfl (by decide) (fun hc hf => ?_) (fun hc hf => ?_)
  · refine zB zlokG 1 (pc' := 15) (ls' := [(0, .int a0), (1, .int a1), (2, .int a2)]) (st' := [.int 0]) (s' := s) rfl ?_
    exact zRetZc hf (by decide) rfl rfl
  · refine zB zlokG 2 (pc' := 7) (ls' := [(0, .int a0), (1, .int a1), (2, .int a2)]) (st' := [.int a2, .int a0]) (s' := s) rfl ?_
    refine zCgt hf (tgt := 14) rfl (by decide) (fun hc hf => ?_) (fun hc hf => ?_)
    · refine zB zlokG 1 (pc' := 15) (ls' := [(0, .int a0), (1, .int a1), (2, .int a2)]) (st' := [.int 0]) (s' := s) rfl ?_
      exact zRetZc hf (by decide) rfl rfl
    · refine zB zlokG 1 (pc' := 11) (ls' := [(0, .int a0), (1, .int a1), (2, .int a2)]) (st' := [.int 1]) (s' := s) rfl ?_
      refine zGoto (tgt := 15) rfl (by decide) ?_
      exact zRetZc hf (by decide) rfl rfl
set_option maxRecDepth 20000 in
theorem k_g_isQuarter (a0 : Int32) (s : zSt) (r : Int32 × zSt) (hf : f_g_isQuarter a0 s = some r) : zKp zm_g_isQuarter ΛG 1 [.int a0] s (some (.int r.1), r.2) := by
  refine zKp_of zmk_g_isQuarter rfl ?_
  show zWA _ _ _ _ _ [(0, .int a0)] _ _
  refine zB zlokG 3 (pc' := 4) (ls' := [(0, .int a0)]) (st' := [.int 31, .int 0, .int a0]) (s' := s) rfl ?_
  refine zSI hf (As := [.int a0, .int 0, .int 31]) (rest := []) 3 zmk_g_isWithin zok_g_isWithin zl_340 rfl rfl rfl rfl rfl (fun _ e => k_g_isWithin _ _ _ _ _ e) (fun x1 hf => ?_)
  exact zRetZb hf rfl rfl
set_option maxRecDepth 20000 in
theorem k_ls_held (a0 : Int32) (a1 : Int32) (s : zSt) (r : Int32 × zSt) (hf : f_ls_held a0 a1 s = some r) : zKp zm_ls_held ΛG 1 [.int a0, .int a1] s (some (.int r.1), r.2) := by
  refine zKp_of zmk_ls_held rfl ?_
  show zWA _ _ _ _ _ [(0, .int a0), (1, .int a1)] _ _
  refine zB zlokG 3 (pc' := 3) (ls' := [(0, .int a0), (1, .int a1)]) (st' := [.int a0, .int a1, .int 0]) (s' := s) rfl ?_
  refine zMinI zl_551 rfl rfl rfl ?_
  refine zMaxI zl_552 rfl rfl rfl ?_
  exact zRetI hf rfl rfl
set_option maxRecDepth 20000 in
theorem k_ls_look (a0 : Int32) (a1 : Int32) (a2 : Int32) (a3 : Int32) (s : zSt) (r : zSt) (hf : f_ls_look a0 a1 a2 a3 s = some r) : zKp zm_ls_look ΛG 0 [.ref 16, .int a0, .int a1, .int a2, .int a3] s (none, r) := by
  refine zKp_of zmk_ls_look rfl ?_
  show zWA _ _ _ _ _ [(0, .ref 16), (1, .int a0), (2, .int a1), (3, .int a2), (4, .int a3)] _ _
  refine zB zlokG 4 (pc' := 6) (ls' := [(0, .ref 16), (1, .int a0), (2, .int a1), (3, .int a2), (4, .int a3)]) (st' := [.int a2, .int 3, .ref 23]) (s' := s) rfl ?_
  refine zIast hf rfl (by rfl) (fun s1 hf => ?_)
  refine zB zlokG 4 (pc' := 13) (ls' := [(0, .ref 16), (1, .int a0), (2, .int a1), (3, .int a2), (4, .int a3)]) (st' := [.int a1, .int 4, .ref 23]) (s' := s1) rfl ?_
  refine zIast hf rfl (by rfl) (fun s2 hf => ?_)
  refine zB zlokG 4 (pc' := 21) (ls' := [(0, .ref 16), (1, .int a0), (2, .int a1), (3, .int a2), (4, .int a3)]) (st' := [.int a3, .int 5, .ref 23]) (s' := s2) rfl ?_
  refine zIast hf rfl (by rfl) (fun s3 hf => ?_)
  refine zB zlokG 4 (pc' := 29) (ls' := [(0, .ref 16), (1, .int a0), (2, .int a1), (3, .int a2), (4, .int a3)]) (st' := [.int a0, .int 8, .ref 23]) (s' := s3) rfl ?_
  refine zIast hf rfl (by rfl) (fun s4 hf => ?_)
  exact zRetV hf rfl rfl
set_option maxRecDepth 20000 in
theorem k_lw_isLineThatCounts (o : Nat) (a0 : Int32) (a1 : Int32) (ho : zLwAt o) (s : zSt) (r : Int32 × zSt) (hf : f_lw_isLineThatCounts o a0 a1 s = some r) : zKp zm_lw_isLineThatCounts ΛG 0 [.ref o, .int a0, .int a1] s (some (.int r.1), r.2) := by
  refine zKp_of zmk_lw_isLineThatCounts rfl ?_
  show zWA _ _ _ _ _ [(0, .ref o), (1, .int a0), (2, .int a1)] _ _
  refine zB zlokG 2 (pc' := 3) (ls' := [(0, .ref o), (1, .int a0), (2, .int a1)]) (st' := [.int (-59), .int a0]) (s' := s) rfl ?_
  refine zCne hf (tgt := 18) rfl (by decide) (fun hc hf => ?_) (fun hc hf => ?_)
  · refine zB zlokG 1 (pc' := 7) (ls' := [(0, .ref o), (1, .int a0), (2, .int a1)]) (st' := [.int a1]) (s' := s) rfl ?_
    refine zIle hf (tgt := 14) rfl (by decide) (fun hc hf => ?_) (fun hc hf => ?_)
    · refine zB zlokG 1 (pc' := 15) (ls' := [(0, .ref o), (1, .int a0), (2, .int a1)]) (st' := [.int 0]) (s' := s) rfl ?_
      refine zGoto (tgt := 45) rfl (by decide) ?_
      exact zRetZc hf (by decide) rfl rfl
    · refine zB zlokG 1 (pc' := 11) (ls' := [(0, .ref o), (1, .int a0), (2, .int a1)]) (st' := [.int 1]) (s' := s) rfl ?_
      refine zGoto (tgt := 45) rfl (by decide) ?_
      exact zRetZc hf (by decide) rfl rfl
  · refine zB zlokG 2 (pc' := 21) (ls' := [(0, .ref o), (1, .int a0), (2, .int a1)]) (st' := [.int (-63), .int a0]) (s' := s) rfl ?_
    refine zCne hf (tgt := 44) rfl (by decide) (fun hc hf => ?_) (fun hc hf => ?_)
    · refine zB zlokG 2 (pc' := 26) (ls' := [(0, .ref o), (1, .int a0), (2, .int a1)]) (st' := [.int 1, .int a1]) (s' := s) rfl ?_
      refine zCle hf (tgt := 44) rfl (by decide) (fun hc hf => ?_) (fun hc hf => ?_)
      · refine zB zlokG 1 (pc' := 45) (ls' := [(0, .ref o), (1, .int a0), (2, .int a1)]) (st' := [.int 0]) (s' := s) rfl ?_
        exact zRetZc hf (by decide) rfl rfl
      · refine zB zlokG 1 (pc' := 30) (ls' := [(0, .ref o), (1, .int a0), (2, .int a1)]) (st' := [.ref o]) (s' := s) rfl ?_
        refine zGetR (j := 1) rfl rfl ho.1 rfl ?_
        refine zB zlokG 3 (pc' := 36) (ls' := [(0, .ref o), (1, .int a0), (2, .int a1)]) (st' := [.int (a1 - 2), .ref (o + 2)]) (s' := s) rfl ?_
        refine zIald hf rfl ho.2.2 (fun x1 hf => ?_)
        refine zIeq hf (tgt := 44) rfl (by decide) (fun hc hf => ?_) (fun hc hf => ?_)
        · refine zB zlokG 1 (pc' := 45) (ls' := [(0, .ref o), (1, .int a0), (2, .int a1)]) (st' := [.int 0]) (s' := s) rfl ?_
          exact zRetZc hf (by decide) rfl rfl
        · refine zB zlokG 1 (pc' := 41) (ls' := [(0, .ref o), (1, .int a0), (2, .int a1)]) (st' := [.int 1]) (s' := s) rfl ?_
          refine zGoto (tgt := 45) rfl (by decide) ?_
          exact zRetZc hf (by decide) rfl rfl
    · refine zB zlokG 1 (pc' := 45) (ls' := [(0, .ref o), (1, .int a0), (2, .int a1)]) (st' := [.int 0]) (s' := s) rfl ?_
      exact zRetZc hf (by decide) rfl rfl
set_option maxRecDepth 20000 in
theorem k_lw_joined (a0 : Int32) (a1 : Int32) (a2 : Int32) (s : zSt) (r : Int32 × zSt) (hf : f_lw_joined a0 a1 a2 s = some r) : zKp zm_lw_joined ΛG 0 [.int a0, .int a1, .int a2] s (some (.int r.1), r.2) := by
  refine zKp_of zmk_lw_joined rfl ?_
  show zWA _ _ _ _ _ [(0, .int a0), (1, .int a1), (2, .int a2)] _ _
  refine zB zlokG 1 (pc' := 1) (ls' := [(0, .int a0), (1, .int a1), (2, .int a2)]) (st' := [.int a0]) (s' := s) rfl ?_
  refine zIte hf (fun hc hf => ?_) (fun hc hf => ?_)
  · refine zTabOut (tgt := 203) hc rfl (by decide) ?_
    refine zB zlokG 1 (pc' := 204) (ls' := [(0, .int a0), (1, .int a1), (2, .int a2)]) (st' := [.int a1]) (s' := s) rfl ?_
    refine zIne hf (tgt := 211) rfl (by decide) (fun hc hf => ?_) (fun hc hf => ?_)
    · refine zB zlokG 1 (pc' := 208) (ls' := [(0, .int a0), (1, .int a1), (2, .int a2)]) (st' := [.int a2]) (s' := s) rfl ?_
      refine zIeq hf (tgt := 215) rfl (by decide) (fun hc hf => ?_) (fun hc hf => ?_)
      · refine zB zlokG 1 (pc' := 216) (ls' := [(0, .int a0), (1, .int a1), (2, .int a2)]) (st' := [.int 0]) (s' := s) rfl ?_
        exact zRetI hf rfl rfl
      · refine zB zlokG 1 (pc' := 212) (ls' := [(0, .int a0), (1, .int a1), (2, .int a2)]) (st' := [.int 1]) (s' := s) rfl ?_
        refine zGoto (tgt := 216) rfl (by decide) ?_
        exact zRetI hf rfl rfl
    · refine zB zlokG 1 (pc' := 212) (ls' := [(0, .int a0), (1, .int a1), (2, .int a2)]) (st' := [.int 1]) (s' := s) rfl ?_
      refine zGoto (tgt := 216) rfl (by decide) ?_
      exact zRetI hf rfl rfl
  · refine zIte hf (fun hc hf => ?_) (fun hc hf => ?_)
    · refine zTabIn (tgt := 144) 37 hc rfl (by decide) (by decide) rfl (by decide) ?_
      refine zB zlokG 1 (pc' := 145) (ls' := [(0, .int a0), (1, .int a1), (2, .int a2)]) (st' := [.int a2]) (s' := s) rfl ?_
      refine zIne hf (tgt := 152) rfl (by decide) (fun hc hf => ?_) (fun hc hf => ?_)
      · refine zB zlokG 1 (pc' := 149) (ls' := [(0, .int a0), (1, .int a1), (2, .int a2)]) (st' := [.int 0]) (s' := s) rfl ?_
        refine zGoto (tgt := 155) rfl (by decide) ?_
        exact zRetI hf rfl rfl
      · refine zB zlokG 2 (pc' := 154) (ls' := [(0, .int a0), (1, .int a1), (2, .int a2)]) (st' := [.int a2, .int a1]) (s' := s) rfl ?_
        refine zRem hf rfl (fun x1 hf => ?_)
        exact zRetI hf rfl rfl
    · refine zIte hf (fun hc hf => ?_) (fun hc hf => ?_)
      · refine zTabIn (tgt := 189) 38 hc rfl (by decide) (by decide) rfl (by decide) ?_
        refine zB zlokG 1 (pc' := 190) (ls' := [(0, .int a0), (1, .int a1), (2, .int a2)]) (st' := [.int a1]) (s' := s) rfl ?_
        refine zIeq hf (tgt := 201) rfl (by decide) (fun hc hf => ?_) (fun hc hf => ?_)
        · refine zB zlokG 1 (pc' := 202) (ls' := [(0, .int a0), (1, .int a1), (2, .int a2)]) (st' := [.int 0]) (s' := s) rfl ?_
          exact zRetI hf rfl rfl
        · refine zB zlokG 1 (pc' := 194) (ls' := [(0, .int a0), (1, .int a1), (2, .int a2)]) (st' := [.int a2]) (s' := s) rfl ?_
          refine zIeq hf (tgt := 201) rfl (by decide) (fun hc hf => ?_) (fun hc hf => ?_)
          · refine zB zlokG 1 (pc' := 202) (ls' := [(0, .int a0), (1, .int a1), (2, .int a2)]) (st' := [.int 0]) (s' := s) rfl ?_
            exact zRetI hf rfl rfl
          · refine zB zlokG 1 (pc' := 198) (ls' := [(0, .int a0), (1, .int a1), (2, .int a2)]) (st' := [.int 1]) (s' := s) rfl ?_
            refine zGoto (tgt := 202) rfl (by decide) ?_
            exact zRetI hf rfl rfl
      · refine zIte hf (fun hc hf => ?_) (fun hc hf => ?_)
        · refine zTabIn (tgt := 203) 39 hc rfl (by decide) (by decide) rfl (by decide) ?_
          refine zB zlokG 1 (pc' := 204) (ls' := [(0, .int a0), (1, .int a1), (2, .int a2)]) (st' := [.int a1]) (s' := s) rfl ?_
          refine zIne hf (tgt := 211) rfl (by decide) (fun hc hf => ?_) (fun hc hf => ?_)
          · refine zB zlokG 1 (pc' := 208) (ls' := [(0, .int a0), (1, .int a1), (2, .int a2)]) (st' := [.int a2]) (s' := s) rfl ?_
            refine zIeq hf (tgt := 215) rfl (by decide) (fun hc hf => ?_) (fun hc hf => ?_)
            · refine zB zlokG 1 (pc' := 216) (ls' := [(0, .int a0), (1, .int a1), (2, .int a2)]) (st' := [.int 0]) (s' := s) rfl ?_
              exact zRetI hf rfl rfl
            · refine zB zlokG 1 (pc' := 212) (ls' := [(0, .int a0), (1, .int a1), (2, .int a2)]) (st' := [.int 1]) (s' := s) rfl ?_
              refine zGoto (tgt := 216) rfl (by decide) ?_
              exact zRetI hf rfl rfl
          · refine zB zlokG 1 (pc' := 212) (ls' := [(0, .int a0), (1, .int a1), (2, .int a2)]) (st' := [.int 1]) (s' := s) rfl ?_
            refine zGoto (tgt := 216) rfl (by decide) ?_
            exact zRetI hf rfl rfl
        · refine zIte hf (fun hc hf => ?_) (fun hc hf => ?_)
          · refine zTabIn (tgt := 203) 40 hc rfl (by decide) (by decide) rfl (by decide) ?_
            refine zB zlokG 1 (pc' := 204) (ls' := [(0, .int a0), (1, .int a1), (2, .int a2)]) (st' := [.int a1]) (s' := s) rfl ?_
            refine zIne hf (tgt := 211) rfl (by decide) (fun hc hf => ?_) (fun hc hf => ?_)
            · refine zB zlokG 1 (pc' := 208) (ls' := [(0, .int a0), (1, .int a1), (2, .int a2)]) (st' := [.int a2]) (s' := s) rfl ?_
              refine zIeq hf (tgt := 215) rfl (by decide) (fun hc hf => ?_) (fun hc hf => ?_)
              · refine zB zlokG 1 (pc' := 216) (ls' := [(0, .int a0), (1, .int a1), (2, .int a2)]) (st' := [.int 0]) (s' := s) rfl ?_
                exact zRetI hf rfl rfl
              · refine zB zlokG 1 (pc' := 212) (ls' := [(0, .int a0), (1, .int a1), (2, .int a2)]) (st' := [.int 1]) (s' := s) rfl ?_
                refine zGoto (tgt := 216) rfl (by decide) ?_
                exact zRetI hf rfl rfl
            · refine zB zlokG 1 (pc' := 212) (ls' := [(0, .int a0), (1, .int a1), (2, .int a2)]) (st' := [.int 1]) (s' := s) rfl ?_
              refine zGoto (tgt := 216) rfl (by decide) ?_
              exact zRetI hf rfl rfl
          · refine zIte hf (fun hc hf => ?_) (fun hc hf => ?_)
            · refine zTabIn (tgt := 203) 41 hc rfl (by decide) (by decide) rfl (by decide) ?_
              refine zB zlokG 1 (pc' := 204) (ls' := [(0, .int a0), (1, .int a1), (2, .int a2)]) (st' := [.int a1]) (s' := s) rfl ?_
              refine zIne hf (tgt := 211) rfl (by decide) (fun hc hf => ?_) (fun hc hf => ?_)
              · refine zB zlokG 1 (pc' := 208) (ls' := [(0, .int a0), (1, .int a1), (2, .int a2)]) (st' := [.int a2]) (s' := s) rfl ?_
                refine zIeq hf (tgt := 215) rfl (by decide) (fun hc hf => ?_) (fun hc hf => ?_)
                · refine zB zlokG 1 (pc' := 216) (ls' := [(0, .int a0), (1, .int a1), (2, .int a2)]) (st' := [.int 0]) (s' := s) rfl ?_
                  exact zRetI hf rfl rfl
                · refine zB zlokG 1 (pc' := 212) (ls' := [(0, .int a0), (1, .int a1), (2, .int a2)]) (st' := [.int 1]) (s' := s) rfl ?_
                  refine zGoto (tgt := 216) rfl (by decide) ?_
                  exact zRetI hf rfl rfl
              · refine zB zlokG 1 (pc' := 212) (ls' := [(0, .int a0), (1, .int a1), (2, .int a2)]) (st' := [.int 1]) (s' := s) rfl ?_
                refine zGoto (tgt := 216) rfl (by decide) ?_
                exact zRetI hf rfl rfl
            · refine zIte hf (fun hc hf => ?_) (fun hc hf => ?_)
              · refine zTabIn (tgt := 128) 42 hc rfl (by decide) (by decide) rfl (by decide) ?_
                refine zB zlokG 3 (pc' := 131) (ls' := [(0, .int a0), (1, .int a1), (2, .int a2)]) (st' := [.int (a1 * a2)]) (s' := s) rfl ?_
                exact zRetI hf rfl rfl
              · refine zIte hf (fun hc hf => ?_) (fun hc hf => ?_)
                · refine zTabIn (tgt := 120) 43 hc rfl (by decide) (by decide) rfl (by decide) ?_
                  refine zB zlokG 3 (pc' := 123) (ls' := [(0, .int a0), (1, .int a1), (2, .int a2)]) (st' := [.int (a1 + a2)]) (s' := s) rfl ?_
                  exact zRetI hf rfl rfl
                · refine zIte hf (fun hc hf => ?_) (fun hc hf => ?_)
                  · refine zTabIn (tgt := 203) 44 hc rfl (by decide) (by decide) rfl (by decide) ?_
                    refine zB zlokG 1 (pc' := 204) (ls' := [(0, .int a0), (1, .int a1), (2, .int a2)]) (st' := [.int a1]) (s' := s) rfl ?_
                    refine zIne hf (tgt := 211) rfl (by decide) (fun hc hf => ?_) (fun hc hf => ?_)
                    · refine zB zlokG 1 (pc' := 208) (ls' := [(0, .int a0), (1, .int a1), (2, .int a2)]) (st' := [.int a2]) (s' := s) rfl ?_
                      refine zIeq hf (tgt := 215) rfl (by decide) (fun hc hf => ?_) (fun hc hf => ?_)
                      · refine zB zlokG 1 (pc' := 216) (ls' := [(0, .int a0), (1, .int a1), (2, .int a2)]) (st' := [.int 0]) (s' := s) rfl ?_
                        exact zRetI hf rfl rfl
                      · refine zB zlokG 1 (pc' := 212) (ls' := [(0, .int a0), (1, .int a1), (2, .int a2)]) (st' := [.int 1]) (s' := s) rfl ?_
                        refine zGoto (tgt := 216) rfl (by decide) ?_
                        exact zRetI hf rfl rfl
                    · refine zB zlokG 1 (pc' := 212) (ls' := [(0, .int a0), (1, .int a1), (2, .int a2)]) (st' := [.int 1]) (s' := s) rfl ?_
                      refine zGoto (tgt := 216) rfl (by decide) ?_
                      exact zRetI hf rfl rfl
                  · refine zIte hf (fun hc hf => ?_) (fun hc hf => ?_)
                    · refine zTabIn (tgt := 124) 45 hc rfl (by decide) (by decide) rfl (by decide) ?_
                      refine zB zlokG 3 (pc' := 127) (ls' := [(0, .int a0), (1, .int a1), (2, .int a2)]) (st' := [.int (a1 - a2)]) (s' := s) rfl ?_
                      exact zRetI hf rfl rfl
                    · refine zIte hf (fun hc hf => ?_) (fun hc hf => ?_)
                      · refine zTabIn (tgt := 203) 46 hc rfl (by decide) (by decide) rfl (by decide) ?_
                        refine zB zlokG 1 (pc' := 204) (ls' := [(0, .int a0), (1, .int a1), (2, .int a2)]) (st' := [.int a1]) (s' := s) rfl ?_
                        refine zIne hf (tgt := 211) rfl (by decide) (fun hc hf => ?_) (fun hc hf => ?_)
                        · refine zB zlokG 1 (pc' := 208) (ls' := [(0, .int a0), (1, .int a1), (2, .int a2)]) (st' := [.int a2]) (s' := s) rfl ?_
                          refine zIeq hf (tgt := 215) rfl (by decide) (fun hc hf => ?_) (fun hc hf => ?_)
                          · refine zB zlokG 1 (pc' := 216) (ls' := [(0, .int a0), (1, .int a1), (2, .int a2)]) (st' := [.int 0]) (s' := s) rfl ?_
                            exact zRetI hf rfl rfl
                          · refine zB zlokG 1 (pc' := 212) (ls' := [(0, .int a0), (1, .int a1), (2, .int a2)]) (st' := [.int 1]) (s' := s) rfl ?_
                            refine zGoto (tgt := 216) rfl (by decide) ?_
                            exact zRetI hf rfl rfl
                        · refine zB zlokG 1 (pc' := 212) (ls' := [(0, .int a0), (1, .int a1), (2, .int a2)]) (st' := [.int 1]) (s' := s) rfl ?_
                          refine zGoto (tgt := 216) rfl (by decide) ?_
                          exact zRetI hf rfl rfl
                      · refine zIte hf (fun hc hf => ?_) (fun hc hf => ?_)
                        · refine zTabIn (tgt := 132) 47 hc rfl (by decide) (by decide) rfl (by decide) ?_
                          refine zB zlokG 1 (pc' := 133) (ls' := [(0, .int a0), (1, .int a1), (2, .int a2)]) (st' := [.int a2]) (s' := s) rfl ?_
                          refine zIne hf (tgt := 140) rfl (by decide) (fun hc hf => ?_) (fun hc hf => ?_)
                          · refine zB zlokG 1 (pc' := 137) (ls' := [(0, .int a0), (1, .int a1), (2, .int a2)]) (st' := [.int 0]) (s' := s) rfl ?_
                            refine zGoto (tgt := 143) rfl (by decide) ?_
                            exact zRetI hf rfl rfl
                          · refine zB zlokG 2 (pc' := 142) (ls' := [(0, .int a0), (1, .int a1), (2, .int a2)]) (st' := [.int a2, .int a1]) (s' := s) rfl ?_
                            refine zDiv hf rfl (fun x2 hf => ?_)
                            exact zRetI hf rfl rfl
                        · refine zIte hf (fun hc hf => ?_) (fun hc hf => ?_)
                          · refine zTabIn (tgt := 203) 48 hc rfl (by decide) (by decide) rfl (by decide) ?_
                            refine zB zlokG 1 (pc' := 204) (ls' := [(0, .int a0), (1, .int a1), (2, .int a2)]) (st' := [.int a1]) (s' := s) rfl ?_
                            refine zIne hf (tgt := 211) rfl (by decide) (fun hc hf => ?_) (fun hc hf => ?_)
                            · refine zB zlokG 1 (pc' := 208) (ls' := [(0, .int a0), (1, .int a1), (2, .int a2)]) (st' := [.int a2]) (s' := s) rfl ?_
                              refine zIeq hf (tgt := 215) rfl (by decide) (fun hc hf => ?_) (fun hc hf => ?_)
                              · refine zB zlokG 1 (pc' := 216) (ls' := [(0, .int a0), (1, .int a1), (2, .int a2)]) (st' := [.int 0]) (s' := s) rfl ?_
                                exact zRetI hf rfl rfl
                              · refine zB zlokG 1 (pc' := 212) (ls' := [(0, .int a0), (1, .int a1), (2, .int a2)]) (st' := [.int 1]) (s' := s) rfl ?_
                                refine zGoto (tgt := 216) rfl (by decide) ?_
                                exact zRetI hf rfl rfl
                            · refine zB zlokG 1 (pc' := 212) (ls' := [(0, .int a0), (1, .int a1), (2, .int a2)]) (st' := [.int 1]) (s' := s) rfl ?_
                              refine zGoto (tgt := 216) rfl (by decide) ?_
                              exact zRetI hf rfl rfl
                          · refine zIte hf (fun hc hf => ?_) (fun hc hf => ?_)
                            · refine zTabIn (tgt := 203) 49 hc rfl (by decide) (by decide) rfl (by decide) ?_
                              refine zB zlokG 1 (pc' := 204) (ls' := [(0, .int a0), (1, .int a1), (2, .int a2)]) (st' := [.int a1]) (s' := s) rfl ?_
                              refine zIne hf (tgt := 211) rfl (by decide) (fun hc hf => ?_) (fun hc hf => ?_)
                              · refine zB zlokG 1 (pc' := 208) (ls' := [(0, .int a0), (1, .int a1), (2, .int a2)]) (st' := [.int a2]) (s' := s) rfl ?_
                                refine zIeq hf (tgt := 215) rfl (by decide) (fun hc hf => ?_) (fun hc hf => ?_)
                                · refine zB zlokG 1 (pc' := 216) (ls' := [(0, .int a0), (1, .int a1), (2, .int a2)]) (st' := [.int 0]) (s' := s) rfl ?_
                                  exact zRetI hf rfl rfl
                                · refine zB zlokG 1 (pc' := 212) (ls' := [(0, .int a0), (1, .int a1), (2, .int a2)]) (st' := [.int 1]) (s' := s) rfl ?_
                                  refine zGoto (tgt := 216) rfl (by decide) ?_
                                  exact zRetI hf rfl rfl
                              · refine zB zlokG 1 (pc' := 212) (ls' := [(0, .int a0), (1, .int a1), (2, .int a2)]) (st' := [.int 1]) (s' := s) rfl ?_
                                refine zGoto (tgt := 216) rfl (by decide) ?_
                                exact zRetI hf rfl rfl
                            · refine zIte hf (fun hc hf => ?_) (fun hc hf => ?_)
                              · refine zTabIn (tgt := 203) 50 hc rfl (by decide) (by decide) rfl (by decide) ?_
                                refine zB zlokG 1 (pc' := 204) (ls' := [(0, .int a0), (1, .int a1), (2, .int a2)]) (st' := [.int a1]) (s' := s) rfl ?_
                                refine zIne hf (tgt := 211) rfl (by decide) (fun hc hf => ?_) (fun hc hf => ?_)
                                · refine zB zlokG 1 (pc' := 208) (ls' := [(0, .int a0), (1, .int a1), (2, .int a2)]) (st' := [.int a2]) (s' := s) rfl ?_
                                  refine zIeq hf (tgt := 215) rfl (by decide) (fun hc hf => ?_) (fun hc hf => ?_)
                                  · refine zB zlokG 1 (pc' := 216) (ls' := [(0, .int a0), (1, .int a1), (2, .int a2)]) (st' := [.int 0]) (s' := s) rfl ?_
                                    exact zRetI hf rfl rfl
                                  · refine zB zlokG 1 (pc' := 212) (ls' := [(0, .int a0), (1, .int a1), (2, .int a2)]) (st' := [.int 1]) (s' := s) rfl ?_
                                    refine zGoto (tgt := 216) rfl (by decide) ?_
                                    exact zRetI hf rfl rfl
                                · refine zB zlokG 1 (pc' := 212) (ls' := [(0, .int a0), (1, .int a1), (2, .int a2)]) (st' := [.int 1]) (s' := s) rfl ?_
                                  refine zGoto (tgt := 216) rfl (by decide) ?_
                                  exact zRetI hf rfl rfl
                              · refine zIte hf (fun hc hf => ?_) (fun hc hf => ?_)
                                · refine zTabIn (tgt := 203) 51 hc rfl (by decide) (by decide) rfl (by decide) ?_
                                  refine zB zlokG 1 (pc' := 204) (ls' := [(0, .int a0), (1, .int a1), (2, .int a2)]) (st' := [.int a1]) (s' := s) rfl ?_
                                  refine zIne hf (tgt := 211) rfl (by decide) (fun hc hf => ?_) (fun hc hf => ?_)
                                  · refine zB zlokG 1 (pc' := 208) (ls' := [(0, .int a0), (1, .int a1), (2, .int a2)]) (st' := [.int a2]) (s' := s) rfl ?_
                                    refine zIeq hf (tgt := 215) rfl (by decide) (fun hc hf => ?_) (fun hc hf => ?_)
                                    · refine zB zlokG 1 (pc' := 216) (ls' := [(0, .int a0), (1, .int a1), (2, .int a2)]) (st' := [.int 0]) (s' := s) rfl ?_
                                      exact zRetI hf rfl rfl
                                    · refine zB zlokG 1 (pc' := 212) (ls' := [(0, .int a0), (1, .int a1), (2, .int a2)]) (st' := [.int 1]) (s' := s) rfl ?_
                                      refine zGoto (tgt := 216) rfl (by decide) ?_
                                      exact zRetI hf rfl rfl
                                  · refine zB zlokG 1 (pc' := 212) (ls' := [(0, .int a0), (1, .int a1), (2, .int a2)]) (st' := [.int 1]) (s' := s) rfl ?_
                                    refine zGoto (tgt := 216) rfl (by decide) ?_
                                    exact zRetI hf rfl rfl
                                · refine zIte hf (fun hc hf => ?_) (fun hc hf => ?_)
                                  · refine zTabIn (tgt := 203) 52 hc rfl (by decide) (by decide) rfl (by decide) ?_
                                    refine zB zlokG 1 (pc' := 204) (ls' := [(0, .int a0), (1, .int a1), (2, .int a2)]) (st' := [.int a1]) (s' := s) rfl ?_
                                    refine zIne hf (tgt := 211) rfl (by decide) (fun hc hf => ?_) (fun hc hf => ?_)
                                    · refine zB zlokG 1 (pc' := 208) (ls' := [(0, .int a0), (1, .int a1), (2, .int a2)]) (st' := [.int a2]) (s' := s) rfl ?_
                                      refine zIeq hf (tgt := 215) rfl (by decide) (fun hc hf => ?_) (fun hc hf => ?_)
                                      · refine zB zlokG 1 (pc' := 216) (ls' := [(0, .int a0), (1, .int a1), (2, .int a2)]) (st' := [.int 0]) (s' := s) rfl ?_
                                        exact zRetI hf rfl rfl
                                      · refine zB zlokG 1 (pc' := 212) (ls' := [(0, .int a0), (1, .int a1), (2, .int a2)]) (st' := [.int 1]) (s' := s) rfl ?_
                                        refine zGoto (tgt := 216) rfl (by decide) ?_
                                        exact zRetI hf rfl rfl
                                    · refine zB zlokG 1 (pc' := 212) (ls' := [(0, .int a0), (1, .int a1), (2, .int a2)]) (st' := [.int 1]) (s' := s) rfl ?_
                                      refine zGoto (tgt := 216) rfl (by decide) ?_
                                      exact zRetI hf rfl rfl
                                  · refine zIte hf (fun hc hf => ?_) (fun hc hf => ?_)
                                    · refine zTabIn (tgt := 203) 53 hc rfl (by decide) (by decide) rfl (by decide) ?_
                                      refine zB zlokG 1 (pc' := 204) (ls' := [(0, .int a0), (1, .int a1), (2, .int a2)]) (st' := [.int a1]) (s' := s) rfl ?_
                                      refine zIne hf (tgt := 211) rfl (by decide) (fun hc hf => ?_) (fun hc hf => ?_)
                                      · refine zB zlokG 1 (pc' := 208) (ls' := [(0, .int a0), (1, .int a1), (2, .int a2)]) (st' := [.int a2]) (s' := s) rfl ?_
                                        refine zIeq hf (tgt := 215) rfl (by decide) (fun hc hf => ?_) (fun hc hf => ?_)
                                        · refine zB zlokG 1 (pc' := 216) (ls' := [(0, .int a0), (1, .int a1), (2, .int a2)]) (st' := [.int 0]) (s' := s) rfl ?_
                                          exact zRetI hf rfl rfl
                                        · refine zB zlokG 1 (pc' := 212) (ls' := [(0, .int a0), (1, .int a1), (2, .int a2)]) (st' := [.int 1]) (s' := s) rfl ?_
                                          refine zGoto (tgt := 216) rfl (by decide) ?_
                                          exact zRetI hf rfl rfl
                                      · refine zB zlokG 1 (pc' := 212) (ls' := [(0, .int a0), (1, .int a1), (2, .int a2)]) (st' := [.int 1]) (s' := s) rfl ?_
                                        refine zGoto (tgt := 216) rfl (by decide) ?_
                                        exact zRetI hf rfl rfl
                                    · refine zIte hf (fun hc hf => ?_) (fun hc hf => ?_)
                                      · refine zTabIn (tgt := 203) 54 hc rfl (by decide) (by decide) rfl (by decide) ?_
                                        refine zB zlokG 1 (pc' := 204) (ls' := [(0, .int a0), (1, .int a1), (2, .int a2)]) (st' := [.int a1]) (s' := s) rfl ?_
                                        refine zIne hf (tgt := 211) rfl (by decide) (fun hc hf => ?_) (fun hc hf => ?_)
                                        · refine zB zlokG 1 (pc' := 208) (ls' := [(0, .int a0), (1, .int a1), (2, .int a2)]) (st' := [.int a2]) (s' := s) rfl ?_
                                          refine zIeq hf (tgt := 215) rfl (by decide) (fun hc hf => ?_) (fun hc hf => ?_)
                                          · refine zB zlokG 1 (pc' := 216) (ls' := [(0, .int a0), (1, .int a1), (2, .int a2)]) (st' := [.int 0]) (s' := s) rfl ?_
                                            exact zRetI hf rfl rfl
                                          · refine zB zlokG 1 (pc' := 212) (ls' := [(0, .int a0), (1, .int a1), (2, .int a2)]) (st' := [.int 1]) (s' := s) rfl ?_
                                            refine zGoto (tgt := 216) rfl (by decide) ?_
                                            exact zRetI hf rfl rfl
                                        · refine zB zlokG 1 (pc' := 212) (ls' := [(0, .int a0), (1, .int a1), (2, .int a2)]) (st' := [.int 1]) (s' := s) rfl ?_
                                          refine zGoto (tgt := 216) rfl (by decide) ?_
                                          exact zRetI hf rfl rfl
                                      · refine zIte hf (fun hc hf => ?_) (fun hc hf => ?_)
                                        · refine zTabIn (tgt := 203) 55 hc rfl (by decide) (by decide) rfl (by decide) ?_
                                          refine zB zlokG 1 (pc' := 204) (ls' := [(0, .int a0), (1, .int a1), (2, .int a2)]) (st' := [.int a1]) (s' := s) rfl ?_
                                          refine zIne hf (tgt := 211) rfl (by decide) (fun hc hf => ?_) (fun hc hf => ?_)
                                          · refine zB zlokG 1 (pc' := 208) (ls' := [(0, .int a0), (1, .int a1), (2, .int a2)]) (st' := [.int a2]) (s' := s) rfl ?_
                                            refine zIeq hf (tgt := 215) rfl (by decide) (fun hc hf => ?_) (fun hc hf => ?_)
                                            · refine zB zlokG 1 (pc' := 216) (ls' := [(0, .int a0), (1, .int a1), (2, .int a2)]) (st' := [.int 0]) (s' := s) rfl ?_
                                              exact zRetI hf rfl rfl
                                            · refine zB zlokG 1 (pc' := 212) (ls' := [(0, .int a0), (1, .int a1), (2, .int a2)]) (st' := [.int 1]) (s' := s) rfl ?_
                                              refine zGoto (tgt := 216) rfl (by decide) ?_
                                              exact zRetI hf rfl rfl
                                          · refine zB zlokG 1 (pc' := 212) (ls' := [(0, .int a0), (1, .int a1), (2, .int a2)]) (st' := [.int 1]) (s' := s) rfl ?_
                                            refine zGoto (tgt := 216) rfl (by decide) ?_
                                            exact zRetI hf rfl rfl
                                        · refine zIte hf (fun hc hf => ?_) (fun hc hf => ?_)
                                          · refine zTabIn (tgt := 203) 56 hc rfl (by decide) (by decide) rfl (by decide) ?_
                                            refine zB zlokG 1 (pc' := 204) (ls' := [(0, .int a0), (1, .int a1), (2, .int a2)]) (st' := [.int a1]) (s' := s) rfl ?_
                                            refine zIne hf (tgt := 211) rfl (by decide) (fun hc hf => ?_) (fun hc hf => ?_)
                                            · refine zB zlokG 1 (pc' := 208) (ls' := [(0, .int a0), (1, .int a1), (2, .int a2)]) (st' := [.int a2]) (s' := s) rfl ?_
                                              refine zIeq hf (tgt := 215) rfl (by decide) (fun hc hf => ?_) (fun hc hf => ?_)
                                              · refine zB zlokG 1 (pc' := 216) (ls' := [(0, .int a0), (1, .int a1), (2, .int a2)]) (st' := [.int 0]) (s' := s) rfl ?_
                                                exact zRetI hf rfl rfl
                                              · refine zB zlokG 1 (pc' := 212) (ls' := [(0, .int a0), (1, .int a1), (2, .int a2)]) (st' := [.int 1]) (s' := s) rfl ?_
                                                refine zGoto (tgt := 216) rfl (by decide) ?_
                                                exact zRetI hf rfl rfl
                                            · refine zB zlokG 1 (pc' := 212) (ls' := [(0, .int a0), (1, .int a1), (2, .int a2)]) (st' := [.int 1]) (s' := s) rfl ?_
                                              refine zGoto (tgt := 216) rfl (by decide) ?_
                                              exact zRetI hf rfl rfl
                                          · refine zIte hf (fun hc hf => ?_) (fun hc hf => ?_)
                                            · refine zTabIn (tgt := 203) 57 hc rfl (by decide) (by decide) rfl (by decide) ?_
                                              refine zB zlokG 1 (pc' := 204) (ls' := [(0, .int a0), (1, .int a1), (2, .int a2)]) (st' := [.int a1]) (s' := s) rfl ?_
                                              refine zIne hf (tgt := 211) rfl (by decide) (fun hc hf => ?_) (fun hc hf => ?_)
                                              · refine zB zlokG 1 (pc' := 208) (ls' := [(0, .int a0), (1, .int a1), (2, .int a2)]) (st' := [.int a2]) (s' := s) rfl ?_
                                                refine zIeq hf (tgt := 215) rfl (by decide) (fun hc hf => ?_) (fun hc hf => ?_)
                                                · refine zB zlokG 1 (pc' := 216) (ls' := [(0, .int a0), (1, .int a1), (2, .int a2)]) (st' := [.int 0]) (s' := s) rfl ?_
                                                  exact zRetI hf rfl rfl
                                                · refine zB zlokG 1 (pc' := 212) (ls' := [(0, .int a0), (1, .int a1), (2, .int a2)]) (st' := [.int 1]) (s' := s) rfl ?_
                                                  refine zGoto (tgt := 216) rfl (by decide) ?_
                                                  exact zRetI hf rfl rfl
                                              · refine zB zlokG 1 (pc' := 212) (ls' := [(0, .int a0), (1, .int a1), (2, .int a2)]) (st' := [.int 1]) (s' := s) rfl ?_
                                                refine zGoto (tgt := 216) rfl (by decide) ?_
                                                exact zRetI hf rfl rfl
                                            · refine zIte hf (fun hc hf => ?_) (fun hc hf => ?_)
                                              · refine zTabIn (tgt := 203) 58 hc rfl (by decide) (by decide) rfl (by decide) ?_
                                                refine zB zlokG 1 (pc' := 204) (ls' := [(0, .int a0), (1, .int a1), (2, .int a2)]) (st' := [.int a1]) (s' := s) rfl ?_
                                                refine zIne hf (tgt := 211) rfl (by decide) (fun hc hf => ?_) (fun hc hf => ?_)
                                                · refine zB zlokG 1 (pc' := 208) (ls' := [(0, .int a0), (1, .int a1), (2, .int a2)]) (st' := [.int a2]) (s' := s) rfl ?_
                                                  refine zIeq hf (tgt := 215) rfl (by decide) (fun hc hf => ?_) (fun hc hf => ?_)
                                                  · refine zB zlokG 1 (pc' := 216) (ls' := [(0, .int a0), (1, .int a1), (2, .int a2)]) (st' := [.int 0]) (s' := s) rfl ?_
                                                    exact zRetI hf rfl rfl
                                                  · refine zB zlokG 1 (pc' := 212) (ls' := [(0, .int a0), (1, .int a1), (2, .int a2)]) (st' := [.int 1]) (s' := s) rfl ?_
                                                    refine zGoto (tgt := 216) rfl (by decide) ?_
                                                    exact zRetI hf rfl rfl
                                                · refine zB zlokG 1 (pc' := 212) (ls' := [(0, .int a0), (1, .int a1), (2, .int a2)]) (st' := [.int 1]) (s' := s) rfl ?_
                                                  refine zGoto (tgt := 216) rfl (by decide) ?_
                                                  exact zRetI hf rfl rfl
                                              · refine zIte hf (fun hc hf => ?_) (fun hc hf => ?_)
                                                · refine zTabIn (tgt := 203) 59 hc rfl (by decide) (by decide) rfl (by decide) ?_
                                                  refine zB zlokG 1 (pc' := 204) (ls' := [(0, .int a0), (1, .int a1), (2, .int a2)]) (st' := [.int a1]) (s' := s) rfl ?_
                                                  refine zIne hf (tgt := 211) rfl (by decide) (fun hc hf => ?_) (fun hc hf => ?_)
                                                  · refine zB zlokG 1 (pc' := 208) (ls' := [(0, .int a0), (1, .int a1), (2, .int a2)]) (st' := [.int a2]) (s' := s) rfl ?_
                                                    refine zIeq hf (tgt := 215) rfl (by decide) (fun hc hf => ?_) (fun hc hf => ?_)
                                                    · refine zB zlokG 1 (pc' := 216) (ls' := [(0, .int a0), (1, .int a1), (2, .int a2)]) (st' := [.int 0]) (s' := s) rfl ?_
                                                      exact zRetI hf rfl rfl
                                                    · refine zB zlokG 1 (pc' := 212) (ls' := [(0, .int a0), (1, .int a1), (2, .int a2)]) (st' := [.int 1]) (s' := s) rfl ?_
                                                      refine zGoto (tgt := 216) rfl (by decide) ?_
                                                      exact zRetI hf rfl rfl
                                                  · refine zB zlokG 1 (pc' := 212) (ls' := [(0, .int a0), (1, .int a1), (2, .int a2)]) (st' := [.int 1]) (s' := s) rfl ?_
                                                    refine zGoto (tgt := 216) rfl (by decide) ?_
                                                    exact zRetI hf rfl rfl
                                                · refine zIte hf (fun hc hf => ?_) (fun hc hf => ?_)
                                                  · refine zTabIn (tgt := 156) 60 hc rfl (by decide) (by decide) rfl (by decide) ?_
                                                    refine zB zlokG 2 (pc' := 158) (ls' := [(0, .int a0), (1, .int a1), (2, .int a2)]) (st' := [.int a2, .int a1]) (s' := s) rfl ?_
                                                    refine zCge hf (tgt := 165) rfl (by decide) (fun hc hf => ?_) (fun hc hf => ?_)
                                                    · refine zB zlokG 1 (pc' := 166) (ls' := [(0, .int a0), (1, .int a1), (2, .int a2)]) (st' := [.int 0]) (s' := s) rfl ?_
                                                      exact zRetI hf rfl rfl
                                                    · refine zB zlokG 1 (pc' := 162) (ls' := [(0, .int a0), (1, .int a1), (2, .int a2)]) (st' := [.int 1]) (s' := s) rfl ?_
                                                      refine zGoto (tgt := 166) rfl (by decide) ?_
                                                      exact zRetI hf rfl rfl
                                                  · refine zIte hf (fun hc hf => ?_) (fun hc hf => ?_)
                                                    · refine zTabIn (tgt := 167) 61 hc rfl (by decide) (by decide) rfl (by decide) ?_
                                                      refine zB zlokG 2 (pc' := 169) (ls' := [(0, .int a0), (1, .int a1), (2, .int a2)]) (st' := [.int a2, .int a1]) (s' := s) rfl ?_
                                                      refine zCne hf (tgt := 176) rfl (by decide) (fun hc hf => ?_) (fun hc hf => ?_)
                                                      · refine zB zlokG 1 (pc' := 173) (ls' := [(0, .int a0), (1, .int a1), (2, .int a2)]) (st' := [.int 1]) (s' := s) rfl ?_
                                                        refine zGoto (tgt := 177) rfl (by decide) ?_
                                                        exact zRetI hf rfl rfl
                                                      · refine zB zlokG 1 (pc' := 177) (ls' := [(0, .int a0), (1, .int a1), (2, .int a2)]) (st' := [.int 0]) (s' := s) rfl ?_
                                                        exact zRetI hf rfl rfl
                                                    · refine zIte hf (fun hc hf => ?_) (fun hc hf => ?_)
                                                      · refine zTabIn (tgt := 178) 62 hc rfl (by decide) (by decide) rfl (by decide) ?_
                                                        refine zB zlokG 2 (pc' := 180) (ls' := [(0, .int a0), (1, .int a1), (2, .int a2)]) (st' := [.int a2, .int a1]) (s' := s) rfl ?_
                                                        refine zCle hf (tgt := 187) rfl (by decide) (fun hc hf => ?_) (fun hc hf => ?_)
                                                        · refine zB zlokG 1 (pc' := 188) (ls' := [(0, .int a0), (1, .int a1), (2, .int a2)]) (st' := [.int 0]) (s' := s) rfl ?_
                                                          exact zRetI hf rfl rfl
                                                        · refine zB zlokG 1 (pc' := 184) (ls' := [(0, .int a0), (1, .int a1), (2, .int a2)]) (st' := [.int 1]) (s' := s) rfl ?_
                                                          refine zGoto (tgt := 188) rfl (by decide) ?_
                                                          exact zRetI hf rfl rfl
                                                      · cases hf
set_option maxRecDepth 20000 in
theorem c_f_lw_worth_177 (o : Nat) (ho : zLwAt o) {r : Int32 × zSt} (k4 : Int32 → Int32 → zSt → Option (Int32 × zSt)) (hk4 : ∀ (v2 : Int32) (v3 : Int32) (s : zSt), k4 v2 v3 s = some r → zWA zm_lw_worth ΛG 1 (some (.int r.1), r.2) 4 [(0, .ref o), (1, .ref 23), (2, .int v2), (3, .int v3)] [] s) : ∀ (v2 : Int32) (v3 : Int32) (v4 : Int32) (s : zSt), f_lw_worth_177 o k4 v2 v3 v4 s = some r → zWA zm_lw_worth ΛG 1 (some (.int r.1), r.2) 177 [(0, .ref o), (1, .ref 23), (2, .int v2), (3, .int v3), (4, .int v4)] [] s := by
  intro v2 v3 v4 s hf
  refine zB zlokG 2 (pc' := 179) (ls' := [(0, .ref o), (1, .ref 23), (2, .int v2), (3, .int v3), (4, .int v4)]) (st' := [.int 1, .int v2]) (s' := s) rfl ?_
  refine zCle hf (tgt := 215) rfl (by decide) (fun hc hf => ?_) (fun hc hf => ?_)
  · refine zB zlokG 1 (pc' := 218) (ls' := [(3, .int (v3 + 1)), (0, .ref o), (1, .ref 23), (2, .int v2), (4, .int v4)]) (st' := []) (s' := s) rfl ?_
    refine zGoto (tgt := 4) rfl (by decide) ?_
    refine zLoc [1, 2, 3, 0] rfl ?_
    exact hk4 _ _ _ hf
  · refine zB zlokG 1 (pc' := 183) (ls' := [(0, .ref o), (1, .ref 23), (2, .int v2), (3, .int v3), (4, .int v4)]) (st' := [.ref o]) (s' := s) rfl ?_
    refine zGetR (j := 1) rfl rfl ho.1 rfl ?_
    refine zB zlokG 6 (pc' := 193) (ls' := [(0, .ref o), (1, .ref 23), (2, .int v2), (3, .int v3), (4, .int v4)]) (st' := [.ref o, .int (-v4), .int (v2 - 2), .ref (o + 2)]) (s' := s) rfl ?_
    refine zGetR (j := 1) rfl rfl ho.1 rfl ?_
    refine zB zlokG 3 (pc' := 199) (ls' := [(0, .ref o), (1, .ref 23), (2, .int v2), (3, .int v3), (4, .int v4)]) (st' := [.int (v2 - 2), .ref (o + 2), .int (-v4), .int (v2 - 2), .ref (o + 2)]) (s' := s) rfl ?_
    refine zIald hf rfl ho.2.2 (fun x12 hf => ?_)
    refine zB zlokG 1 (pc' := 201) (ls' := [(0, .ref o), (1, .ref 23), (2, .int v2), (3, .int v3), (4, .int v4)]) (st' := [.ref o, .int x12, .int (-v4), .int (v2 - 2), .ref (o + 2)]) (s' := s) rfl ?_
    refine zGetR (j := 1) rfl rfl ho.1 rfl ?_
    refine zB zlokG 3 (pc' := 207) (ls' := [(0, .ref o), (1, .ref 23), (2, .int v2), (3, .int v3), (4, .int v4)]) (st' := [.int (v2 - 1), .ref (o + 2), .int x12, .int (-v4), .int (v2 - 2), .ref (o + 2)]) (s' := s) rfl ?_
    refine zIald hf rfl ho.2.2 (fun x13 hf => ?_)
    refine zSI hf (As := [.int (-v4), .int x12, .int x13]) (rest := [.int (v2 - 2), .ref (o + 2)]) 3 zmk_lw_joined zok_lw_joined zl_545 rfl rfl rfl rfl rfl (fun _ e => k_lw_joined _ _ _ _ _ e) (fun x14 hf => ?_)
    refine zIast hf rfl ho.2.2 (fun s15 hf => ?_)
    refine zB zlokG 2 (pc' := 218) (ls' := [(3, .int (v3 + 1)), (2, .int (v2 + (-1))), (0, .ref o), (1, .ref 23), (4, .int v4)]) (st' := []) (s' := s15) rfl ?_
    refine zGoto (tgt := 4) rfl (by decide) ?_
    refine zLoc [2, 3, 1, 0] rfl ?_
    exact hk4 _ _ _ hf
set_option maxRecDepth 20000 in
theorem c_f_lw_worth_146 (o : Nat) (ho : zLwAt o) {r : Int32 × zSt} (k4 : Int32 → Int32 → zSt → Option (Int32 × zSt)) (hk4 : ∀ (v2 : Int32) (v3 : Int32) (s : zSt), k4 v2 v3 s = some r → zWA zm_lw_worth ΛG 1 (some (.int r.1), r.2) 4 [(0, .ref o), (1, .ref 23), (2, .int v2), (3, .int v3)] [] s) : ∀ (v2 : Int32) (v3 : Int32) (v4 : Int32) (s : zSt), f_lw_worth_146 o k4 v2 v3 v4 s = some r → zWA zm_lw_worth ΛG 1 (some (.int r.1), r.2) 146 [(0, .ref o), (1, .ref 23), (2, .int v2), (3, .int v3), (4, .int v4)] [] s := by
  intro v2 v3 v4 s hf
  refine zB zlokG 1 (pc' := 147) (ls' := [(0, .ref o), (1, .ref 23), (2, .int v2), (3, .int v3), (4, .int v4)]) (st' := [.int v2]) (s' := s) rfl ?_
  refine zIle hf (tgt := 177) rfl (by decide) (fun hc hf => ?_) (fun hc hf => ?_)
  · refine zLoc [0, 1, 2, 3, 4] rfl ?_
    exact c_f_lw_worth_177 o ho _ hk4 _ _ _ _ hf
  · refine zB zlokG 2 (pc' := 154) (ls' := [(0, .ref o), (1, .ref 23), (2, .int v2), (3, .int v3), (4, .int v4)]) (st' := [.int (-126), .int v4]) (s' := s) rfl ?_
    refine zCne hf (tgt := 177) rfl (by decide) (fun hc hf => ?_) (fun hc hf => ?_)
    · refine zB zlokG 1 (pc' := 158) (ls' := [(0, .ref o), (1, .ref 23), (2, .int v2), (3, .int v3), (4, .int v4)]) (st' := [.ref o]) (s' := s) rfl ?_
      refine zGetR (j := 1) rfl rfl ho.1 rfl ?_
      refine zB zlokG 4 (pc' := 165) (ls' := [(0, .ref o), (1, .ref 23), (2, .int v2), (3, .int v3), (4, .int v4)]) (st' := [.ref o, .int (v2 - 1), .ref (o + 2)]) (s' := s) rfl ?_
      refine zGetR (j := 1) rfl rfl ho.1 rfl ?_
      refine zB zlokG 3 (pc' := 171) (ls' := [(0, .ref o), (1, .ref 23), (2, .int v2), (3, .int v3), (4, .int v4)]) (st' := [.int (v2 - 1), .ref (o + 2), .int (v2 - 1), .ref (o + 2)]) (s' := s) rfl ?_
      refine zIald hf rfl ho.2.2 (fun x10 hf => ?_)
      refine zB zlokG 1 (pc' := 173) (ls' := [(0, .ref o), (1, .ref 23), (2, .int v2), (3, .int v3), (4, .int v4)]) (st' := [.int (-x10), .int (v2 - 1), .ref (o + 2)]) (s' := s) rfl ?_
      refine zIast hf rfl ho.2.2 (fun s11 hf => ?_)
      refine zGoto (tgt := 215) rfl (by decide) ?_
      refine zB zlokG 1 (pc' := 218) (ls' := [(3, .int (v3 + 1)), (0, .ref o), (1, .ref 23), (2, .int v2), (4, .int v4)]) (st' := []) (s' := s11) rfl ?_
      refine zGoto (tgt := 4) rfl (by decide) ?_
      refine zLoc [1, 2, 3, 0] rfl ?_
      exact hk4 _ _ _ hf
    · refine zLoc [0, 1, 2, 3, 4] rfl ?_
      exact c_f_lw_worth_177 o ho _ hk4 _ _ _ _ hf
set_option maxRecDepth 20000 in
theorem c_f_lw_worth_44 (o : Nat) (ho : zLwAt o) {r : Int32 × zSt} (k4 : Int32 → Int32 → zSt → Option (Int32 × zSt)) (hk4 : ∀ (v2 : Int32) (v3 : Int32) (s : zSt), k4 v2 v3 s = some r → zWA zm_lw_worth ΛG 1 (some (.int r.1), r.2) 4 [(0, .ref o), (1, .ref 23), (2, .int v2), (3, .int v3)] [] s) : ∀ (v2 : Int32) (v3 : Int32) (v4 : Int32) (v5 : Int32) (s : zSt), f_lw_worth_44 o k4 v2 v3 v4 v5 s = some r → zWA zm_lw_worth ΛG 1 (some (.int r.1), r.2) 44 [(0, .ref o), (1, .ref 23), (2, .int v2), (3, .int v3), (4, .int v4), (5, .int v5)] [] s := by
  intro v2 v3 v4 v5 s hf
  refine zB zlokG 1 (pc' := 45) (ls' := [(0, .ref o), (1, .ref 23), (2, .int v2), (3, .int v3), (4, .int v4), (5, .int v5)]) (st' := [.ref o]) (s' := s) rfl ?_
  refine zGetR (j := 1) rfl rfl ho.1 rfl ?_
  refine zB zlokG 2 (pc' := 51) (ls' := [(0, .ref o), (1, .ref 23), (2, .int v2), (3, .int v3), (4, .int v4), (5, .int v5)]) (st' := [.int v4, .int v2, .ref (o + 2)]) (s' := s) rfl ?_
  refine zIlt hf (tgt := 59) rfl (by decide) (fun hc hf => ?_) (fun hc hf => ?_)
  · refine zB zlokG 2 (pc' := 62) (ls' := [(0, .ref o), (1, .ref 23), (2, .int v2), (3, .int v3), (4, .int v4), (5, .int v5)]) (st' := [.int v5, .ref 23, .int v2, .ref (o + 2)]) (s' := s) rfl ?_
    refine zIald hf rfl (by rfl) (fun x7 hf => ?_)
    refine zIast hf rfl ho.2.2 (fun s8 hf => ?_)
    refine zB zlokG 1 (pc' := 67) (ls' := [(2, .int (v2 + 1)), (0, .ref o), (1, .ref 23), (3, .int v3), (4, .int v4), (5, .int v5)]) (st' := []) (s' := s8) rfl ?_
    refine zGoto (tgt := 215) rfl (by decide) ?_
    refine zB zlokG 1 (pc' := 218) (ls' := [(3, .int (v3 + 1)), (2, .int (v2 + 1)), (0, .ref o), (1, .ref 23), (4, .int v4), (5, .int v5)]) (st' := []) (s' := s8) rfl ?_
    refine zGoto (tgt := 4) rfl (by decide) ?_
    refine zLoc [2, 3, 1, 0] rfl ?_
    exact hk4 _ _ _ hf
  · refine zB zlokG 1 (pc' := 56) (ls' := [(0, .ref o), (1, .ref 23), (2, .int v2), (3, .int v3), (4, .int v4), (5, .int v5)]) (st' := [.int v4, .int v2, .ref (o + 2)]) (s' := s) rfl ?_
    refine zGoto (tgt := 63) rfl (by decide) ?_
    refine zIast hf rfl ho.2.2 (fun s9 hf => ?_)
    refine zB zlokG 1 (pc' := 67) (ls' := [(2, .int (v2 + 1)), (0, .ref o), (1, .ref 23), (3, .int v3), (4, .int v4), (5, .int v5)]) (st' := []) (s' := s9) rfl ?_
    refine zGoto (tgt := 215) rfl (by decide) ?_
    refine zB zlokG 1 (pc' := 218) (ls' := [(3, .int (v3 + 1)), (2, .int (v2 + 1)), (0, .ref o), (1, .ref 23), (4, .int v4), (5, .int v5)]) (st' := []) (s' := s9) rfl ?_
    refine zGoto (tgt := 4) rfl (by decide) ?_
    refine zLoc [2, 3, 1, 0] rfl ?_
    exact hk4 _ _ _ hf
set_option maxRecDepth 20000 in
theorem c_f_lw_worth_4 (o : Nat) (ho : zLwAt o) {r : Int32 × zSt} : ∀ (n : Nat) (v2 : Int32) (v3 : Int32) (s : zSt), f_lw_worth_4 o n v2 v3 s = some r → zWA zm_lw_worth ΛG 1 (some (.int r.1), r.2) 4 [(0, .ref o), (1, .ref 23), (2, .int v2), (3, .int v3)] [] s := by
  intro n
  induction n with
  | zero => intro v2 v3 s hf; cases hf
  | succ n ih =>
    intro v2 v3 s hf
    refine zB zlokG 2 (pc' := 6) (ls' := [(0, .ref o), (1, .ref 23), (2, .int v2), (3, .int v3)]) (st' := [.ref o, .int v3]) (s' := s) rfl ?_
    refine zGetI (j := 2) rfl rfl ho.1 rfl ?_
    refine zCge hf (tgt := 221) rfl (by decide) (fun hc hf => ?_) (fun hc hf => ?_)
    · refine zB zlokG 1 (pc' := 222) (ls' := [(0, .ref o), (1, .ref 23), (2, .int v2), (3, .int v3)]) (st' := [.int 0]) (s' := s) rfl ?_
      exact zRetI hf rfl rfl
    · refine zB zlokG 2 (pc' := 15) (ls' := [(0, .ref o), (1, .ref 23), (2, .int v2), (3, .int v3)]) (st' := [.int 121, .int v2]) (s' := s) rfl ?_
      refine zCge hf (tgt := 221) rfl (by decide) (fun hc hf => ?_) (fun hc hf => ?_)
      · refine zB zlokG 1 (pc' := 222) (ls' := [(0, .ref o), (1, .ref 23), (2, .int v2), (3, .int v3)]) (st' := [.int 0]) (s' := s) rfl ?_
        exact zRetI hf rfl rfl
      · refine zB zlokG 1 (pc' := 19) (ls' := [(0, .ref o), (1, .ref 23), (2, .int v2), (3, .int v3)]) (st' := [.ref o]) (s' := s) rfl ?_
        refine zGetR (j := 0) rfl rfl ho.1 rfl ?_
        refine zB zlokG 1 (pc' := 23) (ls' := [(0, .ref o), (1, .ref 23), (2, .int v2), (3, .int v3)]) (st' := [.int v3, .ref (o + 1)]) (s' := s) rfl ?_
        refine zIald hf rfl ho.2.1 (fun x1 hf => ?_)
        refine zB zlokG 6 (pc' := 34) (ls' := [(5, .int ((-1) - x1)), (4, .int x1), (0, .ref o), (1, .ref 23), (2, .int v2), (3, .int v3)]) (st' := [.int x1]) (s' := s) rfl ?_
        refine zIge hf (tgt := 44) rfl (by decide) (fun hc hf => ?_) (fun hc hf => ?_)
        · refine zLoc [2, 3, 4, 5, 1, 0] rfl ?_
          exact c_f_lw_worth_44 o ho _ ih _ _ _ _ _ hf
        · refine zB zlokG 3 (pc' := 41) (ls' := [(5, .int ((-1) - x1)), (4, .int x1), (0, .ref o), (1, .ref 23), (2, .int v2), (3, .int v3)]) (st' := [.int 9, .int ((-1) - x1)]) (s' := s) rfl ?_
          refine zCge hf (tgt := 70) rfl (by decide) (fun hc hf => ?_) (fun hc hf => ?_)
          · refine zB zlokG 3 (pc' := 74) (ls' := [(5, .int ((-1) - x1)), (4, .int x1), (0, .ref o), (1, .ref 23), (2, .int v2), (3, .int v3)]) (st' := [.int v2, .int x1, .ref o]) (s' := s) rfl ?_
            refine zXI hf (As := [.int x1, .int v2]) (rest := []) 2 zmk_lw_isLineThatCounts zok_lw_isLineThatCounts zl_541 rfl ho.1 rfl rfl rfl rfl rfl rfl (fun _ e => k_lw_isLineThatCounts _ _ _ ho _ _ e) (fun x2 hf => ?_)
            refine zIeq hf (tgt := 89) rfl (by decide) (fun hc hf => ?_) (fun hc hf => ?_)
            · refine zB zlokG 2 (pc' := 93) (ls' := [(5, .int ((-1) - x1)), (4, .int x1), (0, .ref o), (1, .ref 23), (2, .int v2), (3, .int v3)]) (st' := [.int (-59), .int x1]) (s' := x2.2) rfl ?_
              refine zCeq hf (tgt := 103) rfl (by decide) (fun hc hf => ?_) (fun hc hf => ?_)
              · refine zB zlokG 2 (pc' := 105) (ls' := [(2, .int 0), (5, .int ((-1) - x1)), (4, .int x1), (0, .ref o), (1, .ref 23), (3, .int v3)]) (st' := []) (s' := x2.2) rfl ?_
                refine zGoto (tgt := 215) rfl (by decide) ?_
                refine zB zlokG 1 (pc' := 218) (ls' := [(3, .int (v3 + 1)), (2, .int 0), (5, .int ((-1) - x1)), (4, .int x1), (0, .ref o), (1, .ref 23)]) (st' := []) (s' := x2.2) rfl ?_
                refine zGoto (tgt := 4) rfl (by decide) ?_
                refine zLoc [4, 5, 1, 0] rfl ?_
                exact ih _ _ _ hf
              · refine zB zlokG 2 (pc' := 100) (ls' := [(5, .int ((-1) - x1)), (4, .int x1), (0, .ref o), (1, .ref 23), (2, .int v2), (3, .int v3)]) (st' := [.int (-63), .int x1]) (s' := x2.2) rfl ?_
                refine zCne hf (tgt := 108) rfl (by decide) (fun hc hf => ?_) (fun hc hf => ?_)
                · refine zB zlokG 2 (pc' := 105) (ls' := [(2, .int 0), (5, .int ((-1) - x1)), (4, .int x1), (0, .ref o), (1, .ref 23), (3, .int v3)]) (st' := []) (s' := x2.2) rfl ?_
                  refine zGoto (tgt := 215) rfl (by decide) ?_
                  refine zB zlokG 1 (pc' := 218) (ls' := [(3, .int (v3 + 1)), (2, .int 0), (5, .int ((-1) - x1)), (4, .int x1), (0, .ref o), (1, .ref 23)]) (st' := []) (s' := x2.2) rfl ?_
                  refine zGoto (tgt := 4) rfl (by decide) ?_
                  refine zLoc [4, 5, 1, 0] rfl ?_
                  exact ih _ _ _ hf
                · refine zB zlokG 1 (pc' := 109) (ls' := [(5, .int ((-1) - x1)), (4, .int x1), (0, .ref o), (1, .ref 23), (2, .int v2), (3, .int v3)]) (st' := [.int v2]) (s' := x2.2) rfl ?_
                  refine zIle hf (tgt := 146) rfl (by decide) (fun hc hf => ?_) (fun hc hf => ?_)
                  · refine zLoc [2, 3, 4, 5, 1] rfl ?_
                    exact c_f_lw_worth_146 o ho _ ih _ _ _ _ hf
                  · refine zB zlokG 2 (pc' := 116) (ls' := [(5, .int ((-1) - x1)), (4, .int x1), (0, .ref o), (1, .ref 23), (2, .int v2), (3, .int v3)]) (st' := [.int (-33), .int x1]) (s' := x2.2) rfl ?_
                    refine zCne hf (tgt := 146) rfl (by decide) (fun hc hf => ?_) (fun hc hf => ?_)
                    · refine zB zlokG 1 (pc' := 120) (ls' := [(5, .int ((-1) - x1)), (4, .int x1), (0, .ref o), (1, .ref 23), (2, .int v2), (3, .int v3)]) (st' := [.ref o]) (s' := x2.2) rfl ?_
                      refine zGetR (j := 1) rfl rfl ho.1 rfl ?_
                      refine zB zlokG 4 (pc' := 127) (ls' := [(5, .int ((-1) - x1)), (4, .int x1), (0, .ref o), (1, .ref 23), (2, .int v2), (3, .int v3)]) (st' := [.ref o, .int (v2 - 1), .ref (o + 2)]) (s' := x2.2) rfl ?_
                      refine zGetR (j := 1) rfl rfl ho.1 rfl ?_
                      refine zB zlokG 3 (pc' := 133) (ls' := [(5, .int ((-1) - x1)), (4, .int x1), (0, .ref o), (1, .ref 23), (2, .int v2), (3, .int v3)]) (st' := [.int (v2 - 1), .ref (o + 2), .int (v2 - 1), .ref (o + 2)]) (s' := x2.2) rfl ?_
                      refine zIald hf rfl ho.2.2 (fun x3 hf => ?_)
                      refine zIne hf (tgt := 141) rfl (by decide) (fun hc hf => ?_) (fun hc hf => ?_)
                      · refine zB zlokG 1 (pc' := 138) (ls' := [(5, .int ((-1) - x1)), (4, .int x1), (0, .ref o), (1, .ref 23), (2, .int v2), (3, .int v3)]) (st' := [.int 1, .int (v2 - 1), .ref (o + 2)]) (s' := x2.2) rfl ?_
                        refine zGoto (tgt := 142) rfl (by decide) ?_
                        refine zIast hf rfl ho.2.2 (fun s4 hf => ?_)
                        refine zGoto (tgt := 215) rfl (by decide) ?_
                        refine zB zlokG 1 (pc' := 218) (ls' := [(3, .int (v3 + 1)), (5, .int ((-1) - x1)), (4, .int x1), (0, .ref o), (1, .ref 23), (2, .int v2)]) (st' := []) (s' := s4) rfl ?_
                        refine zGoto (tgt := 4) rfl (by decide) ?_
                        refine zLoc [3, 4, 5, 0] rfl ?_
                        exact ih _ _ _ hf
                      · refine zB zlokG 1 (pc' := 142) (ls' := [(5, .int ((-1) - x1)), (4, .int x1), (0, .ref o), (1, .ref 23), (2, .int v2), (3, .int v3)]) (st' := [.int 0, .int (v2 - 1), .ref (o + 2)]) (s' := x2.2) rfl ?_
                        refine zIast hf rfl ho.2.2 (fun s5 hf => ?_)
                        refine zGoto (tgt := 215) rfl (by decide) ?_
                        refine zB zlokG 1 (pc' := 218) (ls' := [(3, .int (v3 + 1)), (5, .int ((-1) - x1)), (4, .int x1), (0, .ref o), (1, .ref 23), (2, .int v2)]) (st' := []) (s' := s5) rfl ?_
                        refine zGoto (tgt := 4) rfl (by decide) ?_
                        refine zLoc [3, 4, 5, 0] rfl ?_
                        exact ih _ _ _ hf
                    · refine zLoc [2, 3, 4, 5, 1] rfl ?_
                      exact c_f_lw_worth_146 o ho _ ih _ _ _ _ hf
            · refine zB zlokG 1 (pc' := 81) (ls' := [(5, .int ((-1) - x1)), (4, .int x1), (0, .ref o), (1, .ref 23), (2, .int v2), (3, .int v3)]) (st' := [.ref o]) (s' := x2.2) rfl ?_
              refine zGetR (j := 1) rfl rfl ho.1 rfl ?_
              refine zB zlokG 3 (pc' := 87) (ls' := [(5, .int ((-1) - x1)), (4, .int x1), (0, .ref o), (1, .ref 23), (2, .int v2), (3, .int v3)]) (st' := [.int (v2 - 1), .ref (o + 2)]) (s' := x2.2) rfl ?_
              refine zIald hf rfl ho.2.2 (fun x6 hf => ?_)
              exact zRetI hf rfl rfl
          · refine zLoc [2, 3, 4, 5, 1, 0] rfl ?_
            exact c_f_lw_worth_44 o ho _ ih _ _ _ _ _ hf
set_option maxRecDepth 20000 in
theorem k_lw_worth (o : Nat) (ho : zLwAt o) (s : zSt) (r : Int32 × zSt) (hf : f_lw_worth o s = some r) : zKp zm_lw_worth ΛG 1 [.ref o, .ref 23] s (some (.int r.1), r.2) := by
  refine zKp_of zmk_lw_worth rfl ?_
  show zWA _ _ _ _ _ [(0, .ref o), (1, .ref 23)] _ _
  refine zB zlokG 4 (pc' := 4) (ls' := [(3, .int 0), (2, .int 0), (0, .ref o), (1, .ref 23)]) (st' := []) (s' := s) rfl ?_
  refine zLoc [2, 3, 1, 0] rfl ?_
  exact c_f_lw_worth_4 o ho zFu _ _ _ hf
