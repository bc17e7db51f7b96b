/-! contracts: ls_tasteOf ls_buysOf st_isPlace st_flowAt st_passers dy_pass dy_gain dy_total gl_add gl_has gl_isUnder gl_begunKept gl_kindWithBody gl_note gl_run gl_enact lw_become ls_become ls_begin rc_allows rc_forgetOldest rc_remember rc_change rc_takeBack rc_doAgain -/
set_option maxRecDepth 20000 in
theorem k_ls_tasteOf (a0 : Int32) (a1 : Int32) (a2 : Int32) (s : zSt) (r : Int32 × zSt) (hf : f_ls_tasteOf a0 a1 a2 s = some r) : zKp zm_ls_tasteOf ΛG 2 [.ref 16, .int a0, .int a1, .int a2] s (some (.int r.1), r.2) := by
  refine zKp_of zmk_ls_tasteOf rfl ?_
  show zWA _ _ _ _ _ [(0, .ref 16), (1, .int a0), (2, .int a1), (3, .int a2)] _ _
  refine zB zlokG 3 (pc' := 5) (ls' := [(0, .ref 16), (1, .int a0), (2, .int a1), (3, .int a2)]) (st' := [.int (s.1 16 3), .int a2]) (s' := s) rfl ?_
  refine zClt hf (tgt := 10) rfl (by decide) (fun hc hf => ?_) (fun hc hf => ?_)
  · refine zB zlokG 5 (pc' := 15) (ls' := [(0, .ref 16), (1, .int a0), (2, .int a1), (3, .int a2)]) (st' := [.int 0, .int a2, .int a1, .int a0, .ref 16]) (s' := s) rfl ?_
    refine zXV hf (As := [.int a0, .int a1, .int a2, .int 0]) (rest := []) 4 zmk_ls_look zok_ls_look zl_533 rfl rfl rfl rfl rfl rfl rfl rfl (fun _ e => k_ls_look _ _ _ _ _ _ e) (fun x1 hf => ?_)
    refine zB zlokG 3 (pc' := 23) (ls' := [(0, .ref 16), (1, .int a0), (2, .int a1), (3, .int a2)]) (st' := [.int 0, .ref 23]) (s' := x1) rfl ?_
    refine zIald hf rfl (by rfl) (fun x2 hf => ?_)
    refine zB zlokG 3 (pc' := 29) (ls' := [(0, .ref 16), (1, .int a0), (2, .int a1), (3, .int a2)]) (st' := [.int 1, .ref 23, .int x2]) (s' := x1) rfl ?_
    refine zIald hf rfl (by rfl) (fun x3 hf => ?_)
    refine zB zlokG 4 (pc' := 36) (ls' := [(0, .ref 16), (1, .int a0), (2, .int a1), (3, .int a2)]) (st' := [.int 2, .ref 23, .int (x2 + x3)]) (s' := x1) rfl ?_
    refine zIald hf rfl (by rfl) (fun x4 hf => ?_)
    refine zB zlokG 7 (pc' := 49) (ls' := [(4, .int ((x2 + x3) - (x4 / 3))), (0, .ref 16), (1, .int a0), (2, .int a1), (3, .int a2)]) (st' := [.int (x1.1 17 3)]) (s' := x1) rfl ?_
    refine zIeq hf (tgt := 66) rfl (by decide) (fun hc hf => ?_) (fun hc hf => ?_)
    · refine zB zlokG 2 (pc' := 70) (ls' := [(4, .int ((x2 + x3) - (x4 / 3))), (0, .ref 16), (1, .int a0), (2, .int a1), (3, .int a2)]) (st' := [.int 9, .int ((x2 + x3) - (x4 / 3))]) (s' := x1) rfl ?_
      refine zSI hf (As := [.int ((x2 + x3) - (x4 / 3)), .int 9]) (rest := []) 2 zmk_ls_held zok_ls_held zl_548 rfl rfl rfl rfl rfl (fun _ e => k_ls_held _ _ _ _ e) (fun x5 hf => ?_)
      exact zRetI hf rfl rfl
    · refine zB zlokG 4 (pc' := 60) (ls' := [(4, .int ((x2 + x3) - (x4 / 3))), (0, .ref 16), (1, .int a0), (2, .int a1), (3, .int a2)]) (st' := [.ref 23, .ref 17]) (s' := x1) rfl ?_
      refine zXI hf (As := [.ref 23]) (rest := []) 1 zmk_lw_worth zok_lw_worth zl_537 rfl rfl rfl rfl rfl rfl rfl rfl (fun _ e => k_lw_worth _ (by exact ⟨rfl, rfl, rfl⟩) _ _ e) (fun x6 hf => ?_)
      refine zGoto (tgt := 68) rfl (by decide) ?_
      refine zB zlokG 1 (pc' := 70) (ls' := [(4, .int ((x2 + x3) - (x4 / 3))), (0, .ref 16), (1, .int a0), (2, .int a1), (3, .int a2)]) (st' := [.int 9, .int x6.1]) (s' := x6.2) rfl ?_
      refine zSI hf (As := [.int x6.1, .int 9]) (rest := []) 2 zmk_ls_held zok_ls_held zl_548 rfl rfl rfl rfl rfl (fun _ e => k_ls_held _ _ _ _ e) (fun x7 hf => ?_)
      exact zRetI hf rfl rfl
  · refine zB zlokG 1 (pc' := 9) (ls' := [(0, .ref 16), (1, .int a0), (2, .int a1), (3, .int a2)]) (st' := [.int 0]) (s' := s) rfl ?_
    exact zRetI hf rfl rfl
set_option maxRecDepth 20000 in
theorem k_ls_buysOf (a0 : Int32) (a1 : Int32) (a2 : Int32) (s : zSt) (r : Int32 × zSt) (hf : f_ls_buysOf a0 a1 a2 s = some r) : zKp zm_ls_buysOf ΛG 3 [.ref 16, .int a0, .int a1, .int a2] s (some (.int r.1), r.2) := by
  refine zKp_of zmk_ls_buysOf rfl ?_
  show zWA _ _ _ _ _ [(0, .ref 16), (1, .int a0), (2, .int a1), (3, .int a2)] _ _
  refine zB zlokG 1 (pc' := 1) (ls' := [(0, .ref 16), (1, .int a0), (2, .int a1), (3, .int a2)]) (st' := [.int a0]) (s' := s) rfl ?_
  refine zNI hf (As := [.int a0]) (rest := []) 1 zmk_g_isQuarter zok_g_isQuarter zl_559 rfl rfl rfl rfl rfl (fun _ e => k_g_isQuarter _ _ _ e) (fun x1 hf => ?_)
  refine zIeq hf (tgt := 17) rfl (by decide) (fun hc hf => ?_) (fun hc hf => ?_)
  · refine zB zlokG 1 (pc' := 18) (ls' := [(0, .ref 16), (1, .int a0), (2, .int a1), (3, .int a2)]) (st' := [.int 0]) (s' := x1.2) rfl ?_
    exact zRetI hf rfl rfl
  · refine zB zlokG 3 (pc' := 11) (ls' := [(0, .ref 16), (1, .int a0), (2, .int a1), (3, .int a2)]) (st' := [.int 32, .int 0, .int a2]) (s' := x1.2) rfl ?_
    refine zNI hf (As := [.int a2, .int 0, .int 32]) (rest := []) 3 zmk_g_isWithin zok_g_isWithin zl_560 rfl rfl rfl rfl rfl (fun _ e => k_g_isWithin _ _ _ _ _ e) (fun x2 hf => ?_)
    refine zIne hf (tgt := 19) rfl (by decide) (fun hc hf => ?_) (fun hc hf => ?_)
    · refine zB zlokG 1 (pc' := 18) (ls' := [(0, .ref 16), (1, .int a0), (2, .int a1), (3, .int a2)]) (st' := [.int 0]) (s' := x2.2) rfl ?_
      exact zRetI hf rfl rfl
    · refine zB zlokG 9 (pc' := 33) (ls' := [(4, .int ((a0 * 33) + a2)), (0, .ref 16), (1, .int a0), (2, .int a1), (3, .int a2)]) (st' := [.int ((a0 * 33) + a2), .ref 24]) (s' := x2.2) rfl ?_
      refine zIald hf rfl (by rfl) (fun x3 hf => ?_)
      refine zB zlokG 1 (pc' := 35) (ls' := [(4, .int ((a0 * 33) + a2)), (0, .ref 16), (1, .int a0), (2, .int a1), (3, .int a2)]) (st' := [.int (-1), .int x3]) (s' := x2.2) rfl ?_
      refine zCne hf (tgt := 122) rfl (by decide) (fun hc hf => ?_) (fun hc hf => ?_)
      · refine zB zlokG 4 (pc' := 42) (ls' := [(4, .int ((a0 * 33) + a2)), (0, .ref 16), (1, .int a0), (2, .int a1), (3, .int a2)]) (st' := [.int a2, .int a1, .int a0, .ref 16]) (s' := x2.2) rfl ?_
        refine zXI hf (As := [.int a0, .int a1, .int a2]) (rest := []) 3 zmk_ls_tasteOf zok_ls_tasteOf zl_561 rfl rfl rfl rfl rfl rfl rfl rfl (fun _ e => k_ls_tasteOf _ _ _ _ _ e) (fun x4 hf => ?_)
        refine zB zlokG 6 (pc' := 53) (ls' := [(5, .int x4.1), (4, .int ((a0 * 33) + a2)), (0, .ref 16), (1, .int a0), (2, .int a1), (3, .int a2)]) (st' := [.int x4.1, .int a2, .int a1, .int a0, .ref 16]) (s' := x4.2) rfl ?_
        refine zXV hf (As := [.int a0, .int a1, .int a2, .int x4.1]) (rest := []) 4 zmk_ls_look zok_ls_look zl_533 rfl rfl rfl rfl rfl rfl rfl rfl (fun _ e => k_ls_look _ _ _ _ _ _ e) (fun x5 hf => ?_)
        refine zB zlokG 8 (pc' := 68) (ls' := [(5, .int x4.1), (4, .int ((a0 * 33) + a2)), (0, .ref 16), (1, .int a0), (2, .int a1), (3, .int a2)]) (st' := [.int 6, .ref 23, .int (x4.1 + (a1 / 5))]) (s' := x5) rfl ?_
        refine zIald hf rfl (by rfl) (fun x6 hf => ?_)
        refine zB zlokG 6 (pc' := 78) (ls' := [(5, .int x4.1), (4, .int ((a0 * 33) + a2)), (0, .ref 16), (1, .int a0), (2, .int a1), (3, .int a2)]) (st' := [.int 7, .ref 23, .int ((x4.1 + (a1 / 5)) - (x6 / 4))]) (s' := x5) rfl ?_
        refine zIald hf rfl (by rfl) (fun x7 hf => ?_)
        refine zB zlokG 10 (pc' := 97) (ls' := [(6, .int (((x4.1 + (a1 / 5)) - (x6 / 4)) + (x7 / 4))), (5, .int x4.1), (4, .int ((a0 * 33) + a2)), (0, .ref 16), (1, .int a0), (2, .int a1), (3, .int a2)]) (st' := [.int (x5.1 20 3), .int ((a0 * 33) + a2), .ref 24]) (s' := x5) rfl ?_
        refine zIeq hf (tgt := 114) rfl (by decide) (fun hc hf => ?_) (fun hc hf => ?_)
        · refine zB zlokG 2 (pc' := 118) (ls' := [(6, .int (((x4.1 + (a1 / 5)) - (x6 / 4)) + (x7 / 4))), (5, .int x4.1), (4, .int ((a0 * 33) + a2)), (0, .ref 16), (1, .int a0), (2, .int a1), (3, .int a2)]) (st' := [.int 12, .int (((x4.1 + (a1 / 5)) - (x6 / 4)) + (x7 / 4)), .int ((a0 * 33) + a2), .ref 24]) (s' := x5) rfl ?_
          refine zSI hf (As := [.int (((x4.1 + (a1 / 5)) - (x6 / 4)) + (x7 / 4)), .int 12]) (rest := [.int ((a0 * 33) + a2), .ref 24]) 2 zmk_ls_held zok_ls_held zl_548 rfl rfl rfl rfl rfl (fun _ e => k_ls_held _ _ _ _ e) (fun x8 hf => ?_)
          refine zIast hf rfl (by rfl) (fun s9 hf => ?_)
          refine zB zlokG 3 (pc' := 128) (ls' := [(6, .int (((x4.1 + (a1 / 5)) - (x6 / 4)) + (x7 / 4))), (5, .int x4.1), (4, .int ((a0 * 33) + a2)), (0, .ref 16), (1, .int a0), (2, .int a1), (3, .int a2)]) (st' := [.int ((a0 * 33) + a2), .ref 24]) (s' := s9) rfl ?_
          refine zIald hf rfl (by rfl) (fun x10 hf => ?_)
          exact zRetI hf rfl rfl
        · refine zB zlokG 4 (pc' := 108) (ls' := [(6, .int (((x4.1 + (a1 / 5)) - (x6 / 4)) + (x7 / 4))), (5, .int x4.1), (4, .int ((a0 * 33) + a2)), (0, .ref 16), (1, .int a0), (2, .int a1), (3, .int a2)]) (st' := [.ref 23, .ref 20, .int ((a0 * 33) + a2), .ref 24]) (s' := x5) rfl ?_
          refine zXI hf (As := [.ref 23]) (rest := [.int ((a0 * 33) + a2), .ref 24]) 1 zmk_lw_worth zok_lw_worth zl_537 rfl rfl rfl rfl rfl rfl rfl rfl (fun _ e => k_lw_worth _ (by exact ⟨rfl, rfl, rfl⟩) _ _ e) (fun x11 hf => ?_)
          refine zGoto (tgt := 116) rfl (by decide) ?_
          refine zB zlokG 1 (pc' := 118) (ls' := [(6, .int (((x4.1 + (a1 / 5)) - (x6 / 4)) + (x7 / 4))), (5, .int x4.1), (4, .int ((a0 * 33) + a2)), (0, .ref 16), (1, .int a0), (2, .int a1), (3, .int a2)]) (st' := [.int 12, .int x11.1, .int ((a0 * 33) + a2), .ref 24]) (s' := x11.2) rfl ?_
          refine zSI hf (As := [.int x11.1, .int 12]) (rest := [.int ((a0 * 33) + a2), .ref 24]) 2 zmk_ls_held zok_ls_held zl_548 rfl rfl rfl rfl rfl (fun _ e => k_ls_held _ _ _ _ e) (fun x12 hf => ?_)
          refine zIast hf rfl (by rfl) (fun s13 hf => ?_)
          refine zB zlokG 3 (pc' := 128) (ls' := [(6, .int (((x4.1 + (a1 / 5)) - (x6 / 4)) + (x7 / 4))), (5, .int x4.1), (4, .int ((a0 * 33) + a2)), (0, .ref 16), (1, .int a0), (2, .int a1), (3, .int a2)]) (st' := [.int ((a0 * 33) + a2), .ref 24]) (s' := s13) rfl ?_
          refine zIald hf rfl (by rfl) (fun x14 hf => ?_)
          exact zRetI hf rfl rfl
      · refine zB zlokG 3 (pc' := 128) (ls' := [(4, .int ((a0 * 33) + a2)), (0, .ref 16), (1, .int a0), (2, .int a1), (3, .int a2)]) (st' := [.int ((a0 * 33) + a2), .ref 24]) (s' := x2.2) rfl ?_
        refine zIald hf rfl (by rfl) (fun x15 hf => ?_)
        exact zRetI hf rfl rfl
set_option maxRecDepth 20000 in
theorem k_st_isPlace (a0 : Int32) (s : zSt) (r : Int32 × zSt) (hf : f_st_isPlace a0 s = some r) : zKp zm_st_isPlace ΛG 1 [.ref 6, .int a0] s (some (.int r.1), r.2) := by
  refine zKp_of zmk_st_isPlace rfl ?_
  show zWA _ _ _ _ _ [(0, .ref 6), (1, .int a0)] _ _
  refine zB zlokG 6 (pc' := 8) (ls' := [(0, .ref 6), (1, .int a0)]) (st' := [.int ((s.1 6 3) - 1), .int 0, .int a0]) (s' := s) rfl ?_
  refine zNI hf (As := [.int a0, .int 0, .int ((s.1 6 3) - 1)]) (rest := []) 3 zmk_g_isWithin zok_g_isWithin zl_379 rfl rfl rfl rfl rfl (fun _ e => k_g_isWithin _ _ _ _ _ e) (fun x1 hf => ?_)
  exact zRetZb hf rfl rfl
set_option maxRecDepth 20000 in
theorem k_st_flowAt (a0 : Int32) (a1 : Int32) (s : zSt) (r : Int32 × zSt) (hf : f_st_flowAt a0 a1 s = some r) : zKp zm_st_flowAt ΛG 2 [.ref 6, .int a0, .int a1] s (some (.int r.1), r.2) := by
  refine zKp_of zmk_st_flowAt rfl ?_
  show zWA _ _ _ _ _ [(0, .ref 6), (1, .int a0), (2, .int a1)] _ _
  refine zB zlokG 2 (pc' := 2) (ls' := [(0, .ref 6), (1, .int a0), (2, .int a1)]) (st' := [.int a0, .ref 6]) (s' := s) rfl ?_
  refine zXI hf (As := [.int a0]) (rest := []) 1 zmk_st_isPlace zok_st_isPlace zl_432 rfl rfl rfl rfl rfl rfl rfl rfl (fun _ e => k_st_isPlace _ _ _ e) (fun x1 hf => ?_)
  refine zIeq hf (tgt := 29) rfl (by decide) (fun hc hf => ?_) (fun hc hf => ?_)
  · refine zB zlokG 1 (pc' := 30) (ls' := [(0, .ref 6), (1, .int a0), (2, .int a1)]) (st' := [.int 0]) (s' := x1.2) rfl ?_
    exact zRetI hf rfl rfl
  · refine zB zlokG 1 (pc' := 9) (ls' := [(0, .ref 6), (1, .int a0), (2, .int a1)]) (st' := [.int a1]) (s' := x1.2) rfl ?_
    refine zNI hf (As := [.int a1]) (rest := []) 1 zmk_g_isQuarter zok_g_isQuarter zl_433 rfl rfl rfl rfl rfl (fun _ e => k_g_isQuarter _ _ _ e) (fun x2 hf => ?_)
    refine zIeq hf (tgt := 29) rfl (by decide) (fun hc hf => ?_) (fun hc hf => ?_)
    · refine zB zlokG 1 (pc' := 30) (ls' := [(0, .ref 6), (1, .int a0), (2, .int a1)]) (st' := [.int 0]) (s' := x2.2) rfl ?_
      exact zRetI hf rfl rfl
    · refine zB zlokG 7 (pc' := 25) (ls' := [(0, .ref 6), (1, .int a0), (2, .int a1)]) (st' := [.int ((a0 * 32) + a1), .ref 9]) (s' := x2.2) rfl ?_
      refine zIald hf rfl (by rfl) (fun x3 hf => ?_)
      refine zGoto (tgt := 30) rfl (by decide) ?_
      exact zRetI hf rfl rfl
set_option maxRecDepth 20000 in
theorem k_st_passers (a0 : Int32) (s : zSt) (r : Int32 × zSt) (hf : f_st_passers a0 s = some r) : zKp zm_st_passers ΛG 3 [.ref 6, .int a0] s (some (.int r.1), r.2) := by
  refine zKp_of zmk_st_passers rfl ?_
  show zWA _ _ _ _ _ [(0, .ref 6), (1, .int a0)] _ _
  refine zB zlokG 1 (pc' := 1) (ls' := [(0, .ref 6), (1, .int a0)]) (st' := [.int a0]) (s' := s) rfl ?_
  refine zNI hf (As := [.int a0]) (rest := []) 1 zmk_g_isQuarter zok_g_isQuarter zl_433 rfl rfl rfl rfl rfl (fun _ e => k_g_isQuarter _ _ _ e) (fun x1 hf => ?_)
  refine zIeq hf (tgt := 21) rfl (by decide) (fun hc hf => ?_) (fun hc hf => ?_)
  · refine zB zlokG 1 (pc' := 22) (ls' := [(0, .ref 6), (1, .int a0)]) (st' := [.int 0]) (s' := x1.2) rfl ?_
    exact zRetI hf rfl rfl
  · refine zB zlokG 4 (pc' := 13) (ls' := [(0, .ref 6), (1, .int a0)]) (st' := [.int a0, .ref 8, .ref 6]) (s' := x1.2) rfl ?_
    refine zIald hf rfl (by rfl) (fun x2 hf => ?_)
    refine zB zlokG 1 (pc' := 15) (ls' := [(0, .ref 6), (1, .int a0)]) (st' := [.int a0, .int x2, .ref 6]) (s' := x1.2) rfl ?_
    refine zXI hf (As := [.int x2, .int a0]) (rest := []) 2 zmk_st_flowAt zok_st_flowAt zl_589 rfl rfl rfl rfl rfl rfl rfl rfl (fun _ e => k_st_flowAt _ _ _ _ e) (fun x3 hf => ?_)
    refine zGoto (tgt := 22) rfl (by decide) ?_
    exact zRetI hf rfl rfl
set_option maxRecDepth 20000 in
theorem c_f_dy_pass_26 (o : Nat) (ho : zDyAt o) {r : zSt} : ∀ (n : Nat) (v1 : Int32) (v4 : Int32) (v5 : Int32) (v6 : Int32) (s : zSt), f_dy_pass_26 o n v1 v4 v5 v6 s = some r → zWA zm_dy_pass ΛG 4 (none, r) 26 [(0, .ref o), (1, .int v1), (3, .ref 16), (4, .int v4), (5, .int v5), (6, .int v6)] [] s := by
  intro n
  induction n with
  | zero => intro v1 v4 v5 v6 s hf; cases hf
  | succ n ih =>
    intro v1 v4 v5 v6 s hf
    refine zB zlokG 2 (pc' := 30) (ls' := [(0, .ref o), (1, .int v1), (3, .ref 16), (4, .int v4), (5, .int v5), (6, .int v6)]) (st' := [.int v5, .int v6]) (s' := s) rfl ?_
    refine zCge hf (tgt := 92) rfl (by decide) (fun hc hf => ?_) (fun hc hf => ?_)
    · refine zB zlokG 1 (pc' := 93) (ls' := [(0, .ref o), (1, .int v1), (3, .ref 16), (4, .int v4), (5, .int v5), (6, .int v6)]) (st' := [.ref o]) (s' := s) rfl ?_
      refine zXI hf (As := []) (rest := []) 0 zmk_dy_draw zok_dy_draw zl_590 rfl ho.1 rfl rfl rfl rfl rfl rfl (fun _ e => k_dy_draw _ ho _ _ e) (fun x4 hf => ?_)
      refine zB zlokG 1 (pc' := 97) (ls' := [(0, .ref o), (1, .int v1), (3, .ref 16), (4, .int v4), (5, .int v5), (6, .int v6)]) (st' := [.ref o, .int x4.1]) (s' := x4.2) rfl ?_
      refine zGetI (j := 13) rfl rfl ho.1 rfl ?_
      refine zCge hf (tgt := 124) rfl (by decide) (fun hc hf => ?_) (fun hc hf => ?_)
      · refine zB zlokG 1 (pc' := 125) (ls' := [(0, .ref o), (1, .int v1), (3, .ref 16), (4, .int v4), (5, .int v5), (6, .int v6)]) (st' := [.ref o]) (s' := x4.2) rfl ?_
        refine zXV hf (As := []) (rest := []) 0 zmk_dy_grow zok_dy_grow zl_600 rfl ho.1 rfl rfl rfl rfl rfl rfl (fun _ e => k_dy_grow _ ho _ _ e) (fun x5 hf => ?_)
        exact zRetV hf rfl rfl
      · refine zB zlokG 1 (pc' := 104) (ls' := [(0, .ref o), (1, .int v1), (3, .ref 16), (4, .int v4), (5, .int v5), (6, .int v6)]) (st' := [.ref o]) (s' := x4.2) rfl ?_
        refine zGetI (j := 5) rfl rfl ho.1 rfl ?_
        refine zIle hf (tgt := 124) rfl (by decide) (fun hc hf => ?_) (fun hc hf => ?_)
        · refine zB zlokG 1 (pc' := 125) (ls' := [(0, .ref o), (1, .int v1), (3, .ref 16), (4, .int v4), (5, .int v5), (6, .int v6)]) (st' := [.ref o]) (s' := x4.2) rfl ?_
          refine zXV hf (As := []) (rest := []) 0 zmk_dy_grow zok_dy_grow zl_600 rfl ho.1 rfl rfl rfl rfl rfl rfl (fun _ e => k_dy_grow _ ho _ _ e) (fun x6 hf => ?_)
          exact zRetV hf rfl rfl
        · refine zB zlokG 2 (pc' := 112) (ls' := [(0, .ref o), (1, .int v1), (3, .ref 16), (4, .int v4), (5, .int v5), (6, .int v6)]) (st' := [.ref o, .ref o]) (s' := x4.2) rfl ?_
          refine zGetI (j := 3) rfl rfl ho.1 rfl ?_
          refine zB zlokG 2 (pc' := 117) (ls' := [(0, .ref o), (1, .int v1), (3, .ref 16), (4, .int v4), (5, .int v5), (6, .int v6)]) (st' := [.int ((x4.2.1 o 3) + 1), .ref o]) (s' := x4.2) rfl ?_
          refine zPutX zlkkG (j := 3) hf rfl rfl ho.1 rfl (Or.inl rfl) (fun s7 hf => ?_)
          refine zB zlokG 1 (pc' := 121) (ls' := [(0, .ref o), (1, .int v1), (3, .ref 16), (4, .int v4), (5, .int v5), (6, .int v6)]) (st' := [.ref o]) (s' := s7) rfl ?_
          refine zXV hf (As := []) (rest := []) 0 zmk_dy_emptyGlass zok_dy_emptyGlass zl_596 rfl ho.1 rfl rfl rfl rfl rfl rfl (fun _ e => k_dy_emptyGlass _ ho _ _ e) (fun x8 hf => ?_)
          refine zB zlokG 1 (pc' := 125) (ls' := [(0, .ref o), (1, .int v1), (3, .ref 16), (4, .int v4), (5, .int v5), (6, .int v6)]) (st' := [.ref o]) (s' := x8) rfl ?_
          refine zXV hf (As := []) (rest := []) 0 zmk_dy_grow zok_dy_grow zl_600 rfl ho.1 rfl rfl rfl rfl rfl rfl (fun _ e => k_dy_grow _ ho _ _ e) (fun x9 hf => ?_)
          exact zRetV hf rfl rfl
    · refine zB zlokG 1 (pc' := 34) (ls' := [(0, .ref o), (1, .int v1), (3, .ref 16), (4, .int v4), (5, .int v5), (6, .int v6)]) (st' := [.ref o]) (s' := s) rfl ?_
      refine zXI hf (As := []) (rest := []) 0 zmk_dy_draw zok_dy_draw zl_590 rfl ho.1 rfl rfl rfl rfl rfl rfl (fun _ e => k_dy_draw _ ho _ _ e) (fun x10 hf => ?_)
      refine zB zlokG 2 (pc' := 40) (ls' := [(7, .int x10.1), (0, .ref o), (1, .int v1), (3, .ref 16), (4, .int v4), (5, .int v5), (6, .int v6)]) (st' := [.ref o]) (s' := x10.2) rfl ?_
      refine zGetI (j := 5) rfl rfl ho.1 rfl ?_
      refine zIle hf (tgt := 86) rfl (by decide) (fun hc hf => ?_) (fun hc hf => ?_)
      · refine zB zlokG 1 (pc' := 89) (ls' := [(6, .int (v6 + 1)), (7, .int x10.1), (0, .ref o), (1, .int v1), (3, .ref 16), (4, .int v4), (5, .int v5)]) (st' := []) (s' := x10.2) rfl ?_
        refine zGoto (tgt := 26) rfl (by decide) ?_
        refine zLoc [2, 3, 4, 5, 6, 0] rfl ?_
        exact ih _ _ _ _ _ hf
      · refine zB zlokG 5 (pc' := 53) (ls' := [(7, .int x10.1), (0, .ref o), (1, .int v1), (3, .ref 16), (4, .int v4), (5, .int v5), (6, .int v6)]) (st' := [.ref o, .int v4, .int v1, .ref 16, .int x10.1]) (s' := x10.2) rfl ?_
        refine zGetI (j := 7) rfl rfl ho.1 rfl ?_
        refine zXI hf (As := [.int v1, .int v4, .int (x10.2.1 o 7)]) (rest := [.int x10.1]) 3 zmk_ls_buysOf zok_ls_buysOf zl_595 rfl rfl rfl rfl rfl rfl rfl rfl (fun _ e => k_ls_buysOf _ _ _ _ _ e) (fun x11 hf => ?_)
        refine zCge hf (tgt := 86) rfl (by decide) (fun hc hf => ?_) (fun hc hf => ?_)
        · refine zB zlokG 1 (pc' := 89) (ls' := [(6, .int (v6 + 1)), (7, .int x10.1), (0, .ref o), (1, .int v1), (3, .ref 16), (4, .int v4), (5, .int v5)]) (st' := []) (s' := x11.2) rfl ?_
          refine zGoto (tgt := 26) rfl (by decide) ?_
          refine zLoc [2, 3, 4, 5, 6, 0] rfl ?_
          exact ih _ _ _ _ _ hf
        · refine zB zlokG 1 (pc' := 63) (ls' := [(7, .int x10.1), (0, .ref o), (1, .int v1), (3, .ref 16), (4, .int v4), (5, .int v5), (6, .int v6)]) (st' := [.ref o]) (s' := x11.2) rfl ?_
          refine zGetR (j := 0) rfl rfl ho.1 rfl ?_
          refine zB zlokG 2 (pc' := 68) (ls' := [(7, .int x10.1), (0, .ref o), (1, .int v1), (3, .ref 16), (4, .int v4), (5, .int v5), (6, .int v6)]) (st' := [.int v1, .ref (o + 1), .int v1, .ref (o + 1)]) (s' := x11.2) rfl ?_
          refine zIald hf rfl ho.2 (fun x12 hf => ?_)
          refine zB zlokG 2 (pc' := 71) (ls' := [(7, .int x10.1), (0, .ref o), (1, .int v1), (3, .ref 16), (4, .int v4), (5, .int v5), (6, .int v6)]) (st' := [.int (x12 + 1), .int v1, .ref (o + 1)]) (s' := x11.2) rfl ?_
          refine zIast hf rfl ho.2 (fun s13 hf => ?_)
          refine zB zlokG 2 (pc' := 74) (ls' := [(7, .int x10.1), (0, .ref o), (1, .int v1), (3, .ref 16), (4, .int v4), (5, .int v5), (6, .int v6)]) (st' := [.ref o, .ref o]) (s' := s13) rfl ?_
          refine zGetI (j := 1) rfl rfl ho.1 rfl ?_
          refine zB zlokG 2 (pc' := 79) (ls' := [(7, .int x10.1), (0, .ref o), (1, .int v1), (3, .ref 16), (4, .int v4), (5, .int v5), (6, .int v6)]) (st' := [.int ((s13.1 o 1) + 1), .ref o]) (s' := s13) rfl ?_
          refine zPutX zlkkG (j := 1) hf rfl rfl ho.1 rfl (Or.inl rfl) (fun s14 hf => ?_)
          refine zB zlokG 1 (pc' := 83) (ls' := [(7, .int x10.1), (0, .ref o), (1, .int v1), (3, .ref 16), (4, .int v4), (5, .int v5), (6, .int v6)]) (st' := [.ref o]) (s' := s14) rfl ?_
          refine zXV hf (As := []) (rest := []) 0 zmk_dy_emptyGlass zok_dy_emptyGlass zl_596 rfl ho.1 rfl rfl rfl rfl rfl rfl (fun _ e => k_dy_emptyGlass _ ho _ _ e) (fun x15 hf => ?_)
          refine zB zlokG 1 (pc' := 89) (ls' := [(6, .int (v6 + 1)), (7, .int x10.1), (0, .ref o), (1, .int v1), (3, .ref 16), (4, .int v4), (5, .int v5)]) (st' := []) (s' := x15) rfl ?_
          refine zGoto (tgt := 26) rfl (by decide) ?_
          refine zLoc [2, 3, 4, 5, 6, 0] rfl ?_
          exact ih _ _ _ _ _ hf
set_option maxRecDepth 20000 in
theorem k_dy_pass (o : Nat) (a0 : Int32) (ho : zDyAt o) (s : zSt) (r : zSt) (hf : f_dy_pass o a0 s = some r) : zKp zm_dy_pass ΛG 4 [.ref o, .int a0, .ref 6, .ref 16] s (none, r) := by
  refine zKp_of zmk_dy_pass rfl ?_
  show zWA _ _ _ _ _ [(0, .ref o), (1, .int a0), (2, .ref 6), (3, .ref 16)] _ _
  refine zB zlokG 1 (pc' := 1) (ls' := [(0, .ref o), (1, .int a0), (2, .ref 6), (3, .ref 16)]) (st' := [.int a0]) (s' := s) rfl ?_
  refine zNI hf (As := [.int a0]) (rest := []) 1 zmk_g_isQuarter zok_g_isQuarter zl_584 rfl rfl rfl rfl rfl (fun _ e => k_g_isQuarter _ _ _ e) (fun x1 hf => ?_)
  refine zIne hf (tgt := 8) rfl (by decide) (fun hc hf => ?_) (fun hc hf => ?_)
  · exact zRetV hf rfl rfl
  · refine zB zlokG 3 (pc' := 13) (ls' := [(0, .ref o), (1, .int a0), (2, .ref 6), (3, .ref 16)]) (st' := [.int a0, .ref 7]) (s' := x1.2) rfl ?_
    refine zIald hf rfl (by rfl) (fun x2 hf => ?_)
    refine zB zlokG 3 (pc' := 18) (ls' := [(4, .int x2), (0, .ref o), (1, .int a0), (2, .ref 6), (3, .ref 16)]) (st' := [.int a0, .ref 6]) (s' := x1.2) rfl ?_
    refine zXI hf (As := [.int a0]) (rest := []) 1 zmk_st_passers zok_st_passers zl_585 rfl rfl rfl rfl rfl rfl rfl rfl (fun _ e => k_st_passers _ _ _ e) (fun x3 hf => ?_)
    refine zB zlokG 3 (pc' := 26) (ls' := [(6, .int 0), (5, .int x3.1), (4, .int x2), (0, .ref o), (1, .int a0), (2, .ref 6), (3, .ref 16)]) (st' := []) (s' := x3.2) rfl ?_
    refine zLoc [3, 4, 6, 2, 1, 0] rfl ?_
    exact c_f_dy_pass_26 o ho zFu _ _ _ _ _ hf
set_option maxRecDepth 20000 in
theorem k_dy_gain (o : Nat) (ho : zDyAt o) (s : zSt) (r : Int32 × zSt) (hf : f_dy_gain o s = some r) : zKp zm_dy_gain ΛG 0 [.ref o] s (some (.int r.1), r.2) := by
  refine zKp_of zmk_dy_gain rfl ?_
  show zWA _ _ _ _ _ [(0, .ref o)] _ _
  refine zB zlokG 1 (pc' := 1) (ls' := [(0, .ref o)]) (st' := [.ref o]) (s' := s) rfl ?_
  refine zGetI (j := 1) rfl rfl ho.1 rfl ?_
  refine zB zlokG 1 (pc' := 5) (ls' := [(0, .ref o)]) (st' := [.ref o, .int (s.1 o 1)]) (s' := s) rfl ?_
  refine zGetI (j := 2) rfl rfl ho.1 rfl ?_
  refine zB zlokG 2 (pc' := 10) (ls' := [(0, .ref o)]) (st' := [.ref o, .int ((s.1 o 1) * (s.1 o 2))]) (s' := s) rfl ?_
  refine zGetI (j := 6) rfl rfl ho.1 rfl ?_
  refine zB zlokG 1 (pc' := 14) (ls' := [(0, .ref o)]) (st' := [.ref o, .int (s.1 o 6), .int ((s.1 o 1) * (s.1 o 2))]) (s' := s) rfl ?_
  refine zGetI (j := 10) rfl rfl ho.1 rfl ?_
  refine zB zlokG 2 (pc' := 19) (ls' := [(0, .ref o)]) (st' := [.int (((s.1 o 1) * (s.1 o 2)) - ((s.1 o 6) * (s.1 o 10)))]) (s' := s) rfl ?_
  exact zRetI hf rfl rfl
set_option maxRecDepth 20000 in
theorem k_dy_total (o : Nat) (a0 : Int32) (ho : zDyAt o) (s : zSt) (r : Int32 × zSt) (hf : f_dy_total o a0 s = some r) : zKp zm_dy_total ΛG 1 [.ref o, .int a0] s (some (.int r.1), r.2) := by
  refine zKp_of zmk_dy_total rfl ?_
  show zWA _ _ _ _ _ [(0, .ref o), (1, .int a0)] _ _
  refine zB zlokG 1 (pc' := 1) (ls' := [(0, .ref o), (1, .int a0)]) (st' := [.int a0]) (s' := s) rfl ?_
  refine zIte hf (fun hc hf => ?_) (fun hc hf => ?_)
  · refine zTabOut (tgt := 89) hc rfl (by decide) ?_
    refine zB zlokG 1 (pc' := 90) (ls' := [(0, .ref o), (1, .int a0)]) (st' := [.ref o]) (s' := s) rfl ?_
    refine zXI hf (As := []) (rest := []) 0 zmk_dy_gain zok_dy_gain zl_612 rfl ho.1 rfl rfl rfl rfl rfl rfl (fun _ e => k_dy_gain _ ho _ _ e) (fun x1 hf => ?_)
    exact zRetI hf rfl rfl
  · refine zIte hf (fun hc hf => ?_) (fun hc hf => ?_)
    · refine zTabIn (tgt := 44) 0 hc rfl (by decide) (by decide) rfl (by decide) ?_
      refine zB zlokG 1 (pc' := 45) (ls' := [(0, .ref o), (1, .int a0)]) (st' := [.ref o]) (s' := s) rfl ?_
      refine zGetI (j := 1) rfl rfl ho.1 rfl ?_
      exact zRetI hf rfl rfl
    · refine zIte hf (fun hc hf => ?_) (fun hc hf => ?_)
      · refine zTabIn (tgt := 49) 1 hc rfl (by decide) (by decide) rfl (by decide) ?_
        refine zB zlokG 1 (pc' := 50) (ls' := [(0, .ref o), (1, .int a0)]) (st' := [.ref o]) (s' := s) rfl ?_
        refine zGetI (j := 1) rfl rfl ho.1 rfl ?_
        refine zB zlokG 1 (pc' := 54) (ls' := [(0, .ref o), (1, .int a0)]) (st' := [.ref o, .int (s.1 o 1)]) (s' := s) rfl ?_
        refine zGetI (j := 2) rfl rfl ho.1 rfl ?_
        refine zB zlokG 1 (pc' := 58) (ls' := [(0, .ref o), (1, .int a0)]) (st' := [.int ((s.1 o 1) * (s.1 o 2))]) (s' := s) rfl ?_
        exact zRetI hf rfl rfl
      · refine zIte hf (fun hc hf => ?_) (fun hc hf => ?_)
        · refine zTabIn (tgt := 59) 2 hc rfl (by decide) (by decide) rfl (by decide) ?_
          refine zB zlokG 1 (pc' := 60) (ls' := [(0, .ref o), (1, .int a0)]) (st' := [.ref o]) (s' := s) rfl ?_
          refine zGetI (j := 3) rfl rfl ho.1 rfl ?_
          exact zRetI hf rfl rfl
        · refine zIte hf (fun hc hf => ?_) (fun hc hf => ?_)
          · refine zTabIn (tgt := 64) 3 hc rfl (by decide) (by decide) rfl (by decide) ?_
            refine zB zlokG 1 (pc' := 65) (ls' := [(0, .ref o), (1, .int a0)]) (st' := [.ref o]) (s' := s) rfl ?_
            refine zGetI (j := 4) rfl rfl ho.1 rfl ?_
            exact zRetI hf rfl rfl
          · refine zIte hf (fun hc hf => ?_) (fun hc hf => ?_)
            · refine zTabIn (tgt := 69) 4 hc rfl (by decide) (by decide) rfl (by decide) ?_
              refine zB zlokG 1 (pc' := 70) (ls' := [(0, .ref o), (1, .int a0)]) (st' := [.ref o]) (s' := s) rfl ?_
              refine zGetI (j := 5) rfl rfl ho.1 rfl ?_
              exact zRetI hf rfl rfl
            · refine zIte hf (fun hc hf => ?_) (fun hc hf => ?_)
              · refine zTabIn (tgt := 74) 5 hc rfl (by decide) (by decide) rfl (by decide) ?_
                refine zB zlokG 1 (pc' := 75) (ls' := [(0, .ref o), (1, .int a0)]) (st' := [.ref o]) (s' := s) rfl ?_
                refine zGetI (j := 6) rfl rfl ho.1 rfl ?_
                exact zRetI hf rfl rfl
              · refine zIte hf (fun hc hf => ?_) (fun hc hf => ?_)
                · refine zTabIn (tgt := 79) 6 hc rfl (by decide) (by decide) rfl (by decide) ?_
                  refine zB zlokG 1 (pc' := 80) (ls' := [(0, .ref o), (1, .int a0)]) (st' := [.ref o]) (s' := s) rfl ?_
                  refine zGetI (j := 6) rfl rfl ho.1 rfl ?_
                  refine zB zlokG 1 (pc' := 84) (ls' := [(0, .ref o), (1, .int a0)]) (st' := [.ref o, .int (s.1 o 6)]) (s' := s) rfl ?_
                  refine zGetI (j := 10) rfl rfl ho.1 rfl ?_
                  refine zB zlokG 1 (pc' := 88) (ls' := [(0, .ref o), (1, .int a0)]) (st' := [.int ((s.1 o 6) * (s.1 o 10))]) (s' := s) rfl ?_
                  exact zRetI hf rfl rfl
                · cases hf
set_option maxRecDepth 20000 in
theorem k_gl_add (a0 : Int32) (s : zSt) (r : Int32 × zSt) (hf : f_gl_add a0 s = some r) : zKp zm_gl_add ΛG 0 [.ref 36, .int a0] s (some (.int r.1), r.2) := by
  refine zKp_of zmk_gl_add rfl ?_
  show zWA _ _ _ _ _ [(0, .ref 36), (1, .int a0)] _ _
  refine zB zlokG 3 (pc' := 6) (ls' := [(0, .ref 36), (1, .int a0)]) (st' := [.int 50, .int (s.1 36 1)]) (s' := s) rfl ?_
  refine zClt hf (tgt := 11) rfl (by decide) (fun hc hf => ?_) (fun hc hf => ?_)
  · refine zB zlokG 5 (pc' := 20) (ls' := [(0, .ref 36), (1, .int a0)]) (st' := [.int a0, .int (s.1 36 1), .ref 37]) (s' := s) rfl ?_
    refine zIast hf rfl (by rfl) (fun s1 hf => ?_)
    refine zB zlokG 7 (pc' := 32) (ls' := [(0, .ref 36), (1, .int a0)]) (st' := [.int 1]) (s' := (zw s1 36 1 ((s1.1 36 1) + 1))) rfl ?_
    exact zRetZc hf (by decide) rfl rfl
  · refine zB zlokG 1 (pc' := 10) (ls' := [(0, .ref 36), (1, .int a0)]) (st' := [.int 0]) (s' := s) rfl ?_
    exact zRetZc hf (by decide) rfl rfl
set_option maxRecDepth 20000 in
theorem k_gl_has (a0 : Int32) (s : zSt) (r : Int32 × zSt) (hf : f_gl_has a0 s = some r) : zKp zm_gl_has ΛG 1 [.ref 36, .int a0] s (some (.int r.1), r.2) := by
  refine zKp_of zmk_gl_has rfl ?_
  show zWA _ _ _ _ _ [(0, .ref 36), (1, .int a0)] _ _
  refine zB zlokG 6 (pc' := 8) (ls' := [(0, .ref 36), (1, .int a0)]) (st' := [.int ((s.1 36 1) - 1), .int 0, .int a0]) (s' := s) rfl ?_
  refine zNI hf (As := [.int a0, .int 0, .int ((s.1 36 1) - 1)]) (rest := []) 3 zmk_g_isWithin zok_g_isWithin zl_814 rfl rfl rfl rfl rfl (fun _ e => k_g_isWithin _ _ _ _ _ e) (fun x1 hf => ?_)
  exact zRetZb hf rfl rfl
set_option maxRecDepth 20000 in
theorem c_f_gl_isUnder_10 {r : Int32 × zSt} : ∀ (n : Nat) (v2 : Int32) (v3 : Int32) (v4 : Int32) (s : zSt), f_gl_isUnder_10 n v2 v3 v4 s = some r → zWA zm_gl_isUnder ΛG 0 (some (.int r.1), r.2) 10 [(2, .int v2), (3, .int v3), (4, .int v4)] [] s := by
  intro n
  induction n with
  | zero => intro v2 v3 v4 s hf; cases hf
  | succ n ih =>
    intro v2 v3 v4 s hf
    refine zB zlokG 2 (pc' := 14) (ls' := [(2, .int v2), (3, .int v3), (4, .int v4)]) (st' := [.int 8, .int v4]) (s' := s) rfl ?_
    refine zCge hf (tgt := 38) rfl (by decide) (fun hc hf => ?_) (fun hc hf => ?_)
    · refine zB zlokG 2 (pc' := 40) (ls' := [(2, .int v2), (3, .int v3), (4, .int v4)]) (st' := [.int v2, .int v3]) (s' := s) rfl ?_
      refine zCne hf (tgt := 47) rfl (by decide) (fun hc hf => ?_) (fun hc hf => ?_)
      · refine zB zlokG 1 (pc' := 44) (ls' := [(2, .int v2), (3, .int v3), (4, .int v4)]) (st' := [.int 1]) (s' := s) rfl ?_
        refine zGoto (tgt := 48) rfl (by decide) ?_
        exact zRetZc hf (by decide) rfl rfl
      · refine zB zlokG 1 (pc' := 48) (ls' := [(2, .int v2), (3, .int v3), (4, .int v4)]) (st' := [.int 0]) (s' := s) rfl ?_
        exact zRetZc hf (by decide) rfl rfl
    · refine zB zlokG 1 (pc' := 18) (ls' := [(2, .int v2), (3, .int v3), (4, .int v4)]) (st' := [.int v3]) (s' := s) rfl ?_
      refine zIle hf (tgt := 38) rfl (by decide) (fun hc hf => ?_) (fun hc hf => ?_)
      · refine zB zlokG 2 (pc' := 40) (ls' := [(2, .int v2), (3, .int v3), (4, .int v4)]) (st' := [.int v2, .int v3]) (s' := s) rfl ?_
        refine zCne hf (tgt := 47) rfl (by decide) (fun hc hf => ?_) (fun hc hf => ?_)
        · refine zB zlokG 1 (pc' := 44) (ls' := [(2, .int v2), (3, .int v3), (4, .int v4)]) (st' := [.int 1]) (s' := s) rfl ?_
          refine zGoto (tgt := 48) rfl (by decide) ?_
          exact zRetZc hf (by decide) rfl rfl
        · refine zB zlokG 1 (pc' := 48) (ls' := [(2, .int v2), (3, .int v3), (4, .int v4)]) (st' := [.int 0]) (s' := s) rfl ?_
          exact zRetZc hf (by decide) rfl rfl
      · refine zB zlokG 2 (pc' := 23) (ls' := [(2, .int v2), (3, .int v3), (4, .int v4)]) (st' := [.int v2, .int v3]) (s' := s) rfl ?_
        refine zCeq hf (tgt := 38) rfl (by decide) (fun hc hf => ?_) (fun hc hf => ?_)
        · refine zB zlokG 2 (pc' := 40) (ls' := [(2, .int v2), (3, .int v3), (4, .int v4)]) (st' := [.int v2, .int v3]) (s' := s) rfl ?_
          refine zCne hf (tgt := 47) rfl (by decide) (fun hc hf => ?_) (fun hc hf => ?_)
          · refine zB zlokG 1 (pc' := 44) (ls' := [(2, .int v2), (3, .int v3), (4, .int v4)]) (st' := [.int 1]) (s' := s) rfl ?_
            refine zGoto (tgt := 48) rfl (by decide) ?_
            exact zRetZc hf (by decide) rfl rfl
          · refine zB zlokG 1 (pc' := 48) (ls' := [(2, .int v2), (3, .int v3), (4, .int v4)]) (st' := [.int 0]) (s' := s) rfl ?_
            exact zRetZc hf (by decide) rfl rfl
        · refine zB zlokG 2 (pc' := 30) (ls' := [(2, .int v2), (3, .int v3), (4, .int v4)]) (st' := [.int v3, .ref 1004]) (s' := s) rfl ?_
          refine zTald (j := 4) hf rfl rfl (fun x2 hf => ?_)
          refine zB zlokG 2 (pc' := 35) (ls' := [(4, .int (v4 + 1)), (3, .int x2), (2, .int v2)]) (st' := []) (s' := s) rfl ?_
          refine zGoto (tgt := 10) rfl (by decide) ?_
          refine zLoc [2, 1, 0] rfl ?_
          exact ih _ _ _ _ hf
set_option maxRecDepth 20000 in
theorem k_gl_isUnder (a0 : Int32) (a1 : Int32) (s : zSt) (r : Int32 × zSt) (hf : f_gl_isUnder a0 a1 s = some r) : zKp zm_gl_isUnder ΛG 0 [.ref 36, .int a0, .int a1] s (some (.int r.1), r.2) := by
  refine zKp_of zmk_gl_isUnder rfl ?_
  show zWA _ _ _ _ _ [(0, .ref 36), (1, .int a0), (2, .int a1)] _ _
  refine zB zlokG 3 (pc' := 5) (ls' := [(0, .ref 36), (1, .int a0), (2, .int a1)]) (st' := [.int a0, .ref 37]) (s' := s) rfl ?_
  refine zIald hf rfl (by rfl) (fun x1 hf => ?_)
  refine zB zlokG 3 (pc' := 10) (ls' := [(4, .int 0), (3, .int x1), (0, .ref 36), (1, .int a0), (2, .int a1)]) (st' := []) (s' := s) rfl ?_
  refine zLoc [4, 1, 0] rfl ?_
  exact c_f_gl_isUnder_10 zFu _ _ _ _ hf
set_option maxRecDepth 20000 in
theorem k_gl_begunKept (s : zSt) (r : Int32 × zSt) (hf : f_gl_begunKept s = some r) : zKp zm_gl_begunKept ΛG 1 [.ref 36] s (some (.int r.1), r.2) := by
  refine zKp_of zmk_gl_begunKept rfl ?_
  show zWA _ _ _ _ _ [(0, .ref 36)] _ _
  refine zB zlokG 3 (pc' := 6) (ls' := [(0, .ref 36)]) (st' := [.int 24, .int (s.1 36 3)]) (s' := s) rfl ?_
  refine zMinI zl_839 rfl rfl rfl ?_
  exact zRetI hf rfl rfl
set_option maxRecDepth 20000 in
theorem c_f_gl_kindWithBody_4 {r : Int32 × zSt} : ∀ (n : Nat) (v1 : Int32) (v2 : Int32) (v3 : Int32) (s : zSt), f_gl_kindWithBody_4 n v1 v2 v3 s = some r → zWA zm_gl_kindWithBody ΛG 1 (some (.int r.1), r.2) 4 [(1, .int v1), (2, .int v2), (3, .int v3)] [] s := by
  intro n
  induction n with
  | zero => intro v1 v2 v3 s hf; cases hf
  | succ n ih =>
    intro v1 v2 v3 s hf
    refine zB zlokG 2 (pc' := 7) (ls' := [(1, .int v1), (2, .int v2), (3, .int v3)]) (st' := [.int 8, .int v3]) (s' := s) rfl ?_
    refine zCge hf (tgt := 38) rfl (by decide) (fun hc hf => ?_) (fun hc hf => ?_)
    · refine zB zlokG 2 (pc' := 40) (ls' := [(1, .int v1), (2, .int v2), (3, .int v3)]) (st' := [.int 0, .int v2]) (s' := s) rfl ?_
      refine zMaxI zl_826 rfl rfl rfl ?_
      exact zRetI hf rfl rfl
    · refine zB zlokG 1 (pc' := 11) (ls' := [(1, .int v1), (2, .int v2), (3, .int v3)]) (st' := [.int v2]) (s' := s) rfl ?_
      refine zIle hf (tgt := 38) rfl (by decide) (fun hc hf => ?_) (fun hc hf => ?_)
      · refine zB zlokG 2 (pc' := 40) (ls' := [(1, .int v1), (2, .int v2), (3, .int v3)]) (st' := [.int 0, .int v2]) (s' := s) rfl ?_
        refine zMaxI zl_826 rfl rfl rfl ?_
        exact zRetI hf rfl rfl
      · refine zB zlokG 6 (pc' := 22) (ls' := [(1, .int v1), (2, .int v2), (3, .int v3)]) (st' := [.int ((v2 * 4) + v1), .ref 1003]) (s' := s) rfl ?_
        refine zTald (j := 3) hf rfl rfl (fun x1 hf => ?_)
        refine zIne hf (tgt := 38) rfl (by decide) (fun hc hf => ?_) (fun hc hf => ?_)
        · refine zB zlokG 2 (pc' := 30) (ls' := [(1, .int v1), (2, .int v2), (3, .int v3)]) (st' := [.int v2, .ref 1004]) (s' := s) rfl ?_
          refine zTald (j := 4) hf rfl rfl (fun x2 hf => ?_)
          refine zB zlokG 2 (pc' := 35) (ls' := [(3, .int (v3 + 1)), (2, .int x2), (1, .int v1)]) (st' := []) (s' := s) rfl ?_
          refine zGoto (tgt := 4) rfl (by decide) ?_
          refine zLoc [2, 1, 0] rfl ?_
          exact ih _ _ _ _ hf
        · refine zB zlokG 2 (pc' := 40) (ls' := [(1, .int v1), (2, .int v2), (3, .int v3)]) (st' := [.int 0, .int v2]) (s' := s) rfl ?_
          refine zMaxI zl_826 rfl rfl rfl ?_
          exact zRetI hf rfl rfl
set_option maxRecDepth 20000 in
theorem k_gl_kindWithBody (a0 : Int32) (a1 : Int32) (s : zSt) (r : Int32 × zSt) (hf : f_gl_kindWithBody a0 a1 s = some r) : zKp zm_gl_kindWithBody ΛG 1 [.int a0, .int a1] s (some (.int r.1), r.2) := by
  refine zKp_of zmk_gl_kindWithBody rfl ?_
  show zWA _ _ _ _ _ [(0, .int a0), (1, .int a1)] _ _
  refine zB zlokG 4 (pc' := 4) (ls' := [(3, .int 0), (2, .int a0), (0, .int a0), (1, .int a1)]) (st' := []) (s' := s) rfl ?_
  refine zLoc [3, 1, 0] rfl ?_
  exact c_f_gl_kindWithBody_4 zFu _ _ _ _ hf
set_option maxRecDepth 20000 in
theorem k_gl_note (a0 : Int32) (s : zSt) (r : zSt) (hf : f_gl_note a0 s = some r) : zKp zm_gl_note ΛG 0 [.ref 36, .int a0] s (none, r) := by
  refine zKp_of zmk_gl_note rfl ?_
  show zWA _ _ _ _ _ [(0, .ref 36), (1, .int a0)] _ _
  refine zB zlokG 3 (pc' := 6) (ls' := [(0, .ref 36), (1, .int a0)]) (st' := [.int 24, .int (s.1 36 3)]) (s' := s) rfl ?_
  refine zCge hf (tgt := 19) rfl (by decide) (fun hc hf => ?_) (fun hc hf => ?_)
  · refine zB zlokG 6 (pc' := 29) (ls' := [(0, .ref 36), (1, .int a0)]) (st' := []) (s' := (zw s 36 3 ((s.1 36 3) + 1))) rfl ?_
    exact zRetV hf rfl rfl
  · refine zB zlokG 5 (pc' := 18) (ls' := [(0, .ref 36), (1, .int a0)]) (st' := [.int a0, .int (s.1 36 3), .ref 38]) (s' := s) rfl ?_
    refine zIast hf rfl (by rfl) (fun s1 hf => ?_)
    refine zB zlokG 6 (pc' := 29) (ls' := [(0, .ref 36), (1, .int a0)]) (st' := []) (s' := (zw s1 36 3 ((s1.1 36 3) + 1))) rfl ?_
    exact zRetV hf rfl rfl
set_option maxRecDepth 20000 in
theorem kb_gl_run (c_gl_run : Int32 → Int32 → Int32 → Int32 → zSt → Option (Int32 × zSt)) {dd : Nat} (hdd : 9 ≤ dd) (hk_gl_run : ∀ (a0 a1 a2 a3 : Int32) (s : zSt) (r : Int32 × zSt), c_gl_run a0 a1 a2 a3 s = some r → zKp zm_gl_run ΛG dd [.ref 36, .int a0, .int a1, .int a2, .int a3] s (some (.int r.1), r.2)) (a0 : Int32) (a1 : Int32) (a2 : Int32) (a3 : Int32) (s : zSt) (r : Int32 × zSt) (hf : b_gl_run c_gl_run a0 a1 a2 a3 s = some r) : zKp zm_gl_run ΛG (dd + 1) [.ref 36, .int a0, .int a1, .int a2, .int a3] s (some (.int r.1), r.2) := by
  refine zKp_of zmk_gl_run rfl ?_
  show zWA _ _ _ _ _ [(0, .ref 36), (1, .int a0), (2, .int a1), (3, .int a2), (4, .int a3)] _ _
  refine zB zlokG 2 (pc' := 4) (ls' := [(0, .ref 36), (1, .int a0), (2, .int a1), (3, .int a2), (4, .int a3)]) (st' := [.int 40, .int a3]) (s' := s) rfl ?_
  refine zCle hf (tgt := 9) rfl (by decide) (fun hc hf => ?_) (fun hc hf => ?_)
  · refine zB zlokG 2 (pc' := 11) (ls' := [(0, .ref 36), (1, .int a0), (2, .int a1), (3, .int a2), (4, .int a3)]) (st' := [.int a1, .int a0]) (s' := s) rfl ?_
    refine zSI hf (As := [.int a0, .int a1]) (rest := []) 2 zmk_gl_kindWithBody zok_gl_kindWithBody zl_819 rfl (zdr (by omega) rfl) rfl rfl rfl (fun _ e => k_gl_kindWithBody _ _ _ _ e) (fun x1 hf => ?_)
    refine zB zlokG 9 (pc' := 30) (ls' := [(6, .int (a3 + 1)), (5, .int x1.1), (0, .ref 36), (1, .int a0), (2, .int a1), (3, .int a2), (4, .int a3)]) (st' := [.int (x1.2.1 36 4), .ref 37]) (s' := x1.2) rfl ?_
    refine zIald hf rfl (by rfl) (fun x2 hf => ?_)
    refine zB zlokG 3 (pc' := 38) (ls' := [(7, .int x2), (6, .int (a3 + 1)), (5, .int x1.1), (0, .ref 36), (1, .int a0), (2, .int a1), (3, .int a2), (4, .int a3)]) (st' := [.int x1.1, .ref 1004]) (s' := x1.2) rfl ?_
    refine zTald (j := 4) hf rfl rfl (fun x3 hf => ?_)
    refine zB zlokG 7 (pc' := 50) (ls' := [(8, .int x3), (7, .int x2), (6, .int (a3 + 1)), (5, .int x1.1), (0, .ref 36), (1, .int a0), (2, .int a1), (3, .int a2), (4, .int a3)]) (st' := [.int ((x1.1 * 4) + a1), .ref 1003]) (s' := x1.2) rfl ?_
    refine zTald (j := 3) hf rfl rfl (fun x4 hf => ?_)
    refine zB zlokG 3 (pc' := 56) (ls' := [(9, .int x4), (8, .int x3), (7, .int x2), (6, .int (a3 + 1)), (5, .int x1.1), (0, .ref 36), (1, .int a0), (2, .int a1), (3, .int a2), (4, .int a3)]) (st' := [.int x4, .ref 36]) (s' := x1.2) rfl ?_
    refine zXV hf (As := [.int x4]) (rest := []) 1 zmk_gl_note zok_gl_note zl_827 rfl rfl rfl rfl (zdr (by omega) rfl) rfl rfl rfl (fun _ e => k_gl_note _ _ _ e) (fun x5 hf => ?_)
    refine zB zlokG 1 (pc' := 61) (ls' := [(9, .int x4), (8, .int x3), (7, .int x2), (6, .int (a3 + 1)), (5, .int x1.1), (0, .ref 36), (1, .int a0), (2, .int a1), (3, .int a2), (4, .int a3)]) (st' := [.int x4]) (s' := x5) rfl ?_
    refine zIte hf (fun hc hf => ?_) (fun hc hf => ?_)
    · refine zLook (off := 115) (tgt := 176) 1 hc rfl (by decide) (by decide) (by decide) ?_
      refine zB zlokG 4 (pc' := 182) (ls' := [(9, .int x4), (8, .int x3), (7, .int x2), (6, .int (a3 + 1)), (5, .int x1.1), (0, .ref 36), (1, .int a0), (2, .int a1), (3, .int a2), (4, .int a3)]) (st' := [.int (a2 + (x5.1 36 4))]) (s' := x5) rfl ?_
      exact zRetI hf rfl rfl
    · refine zIte hf (fun hc hf => ?_) (fun hc hf => ?_)
      · refine zLook (off := 142) (tgt := 203) 2 hc rfl (by decide) (by decide) (by decide) ?_
        refine zB zlokG 5 (pc' := 210) (ls' := [(9, .int x4), (8, .int x3), (7, .int x2), (6, .int (a3 + 1)), (5, .int x1.1), (0, .ref 36), (1, .int a0), (2, .int a1), (3, .int a2), (4, .int a3)]) (st' := [.int (a3 + 1), .int a2, .int 1, .int x2, .ref 36]) (s' := x5) rfl ?_
        refine zXI hf (As := [.int x2, .int 1, .int a2, .int (a3 + 1)]) (rest := []) 4 zmk_gl_run zok_gl_run zl_815 rfl rfl rfl rfl (zdr (by omega) rfl) rfl rfl rfl (fun _ e => hk_gl_run _ _ _ _ _ _ e) (fun x6 hf => ?_)
        refine zB zlokG 5 (pc' := 220) (ls' := [(9, .int x4), (8, .int x3), (7, .int x2), (6, .int (a3 + 1)), (5, .int x1.1), (0, .ref 36), (1, .int a0), (2, .int a1), (3, .int a2), (4, .int a3)]) (st' := [.int (a3 + 1), .int 1, .int 2, .int x2, .ref 36, .int x6.1]) (s' := x6.2) rfl ?_
        refine zXI hf (As := [.int x2, .int 2, .int 1, .int (a3 + 1)]) (rest := [.int x6.1]) 4 zmk_gl_run zok_gl_run zl_815 rfl rfl rfl rfl (zdr (by omega) rfl) rfl rfl rfl (fun _ e => hk_gl_run _ _ _ _ _ _ e) (fun x7 hf => ?_)
        refine zB zlokG 1 (pc' := 224) (ls' := [(9, .int x4), (8, .int x3), (7, .int x2), (6, .int (a3 + 1)), (5, .int x1.1), (0, .ref 36), (1, .int a0), (2, .int a1), (3, .int a2), (4, .int a3)]) (st' := [.int (x6.1 - x7.1)]) (s' := x7.2) rfl ?_
        exact zRetI hf rfl rfl
      · refine zIte hf (fun hc hf => ?_) (fun hc hf => ?_)
        · refine zLook (off := 122) (tgt := 183) 10 hc rfl (by decide) (by decide) (by decide) ?_
          refine zB zlokG 5 (pc' := 190) (ls' := [(9, .int x4), (8, .int x3), (7, .int x2), (6, .int (a3 + 1)), (5, .int x1.1), (0, .ref 36), (1, .int a0), (2, .int a1), (3, .int a2), (4, .int a3)]) (st' := [.int (a3 + 1), .int a2, .int 0, .int x2, .ref 36]) (s' := x5) rfl ?_
          refine zXI hf (As := [.int x2, .int 0, .int a2, .int (a3 + 1)]) (rest := []) 4 zmk_gl_run zok_gl_run zl_815 rfl rfl rfl rfl (zdr (by omega) rfl) rfl rfl rfl (fun _ e => hk_gl_run _ _ _ _ _ _ e) (fun x8 hf => ?_)
          refine zB zlokG 2 (pc' := 195) (ls' := [(9, .int x4), (8, .int x3), (7, .int x2), (6, .int (a3 + 1)), (5, .int x1.1), (0, .ref 36), (1, .int a0), (2, .int a1), (3, .int a2), (4, .int a3)]) (st' := [.int (x8.1 * 2)]) (s' := x8.2) rfl ?_
          exact zRetI hf rfl rfl
        · refine zIte hf (fun hc hf => ?_) (fun hc hf => ?_)
          · refine zLook (off := 135) (tgt := 196) 11 hc rfl (by decide) (by decide) (by decide) ?_
            refine zB zlokG 4 (pc' := 202) (ls' := [(9, .int x4), (8, .int x3), (7, .int x2), (6, .int (a3 + 1)), (5, .int x1.1), (0, .ref 36), (1, .int a0), (2, .int a1), (3, .int a2), (4, .int a3)]) (st' := [.int (a2 ^^^ (x5.1 36 4))]) (s' := x5) rfl ?_
            exact zRetI hf rfl rfl
          · refine zIte hf (fun hc hf => ?_) (fun hc hf => ?_)
            · refine zLook (off := 164) (tgt := 225) 20 hc rfl (by decide) (by decide) (by decide) ?_
              refine zB zlokG 5 (pc' := 232) (ls' := [(9, .int x4), (8, .int x3), (7, .int x2), (6, .int (a3 + 1)), (5, .int x1.1), (0, .ref 36), (1, .int a0), (2, .int a1), (3, .int a2), (4, .int a3)]) (st' := [.int (a3 + 1), .int a2, .int 0, .int x3, .ref 36]) (s' := x5) rfl ?_
              refine zXI hf (As := [.int x3, .int 0, .int a2, .int (a3 + 1)]) (rest := []) 4 zmk_gl_run zok_gl_run zl_815 rfl rfl rfl rfl (zdr (by omega) rfl) rfl rfl rfl (fun _ e => hk_gl_run _ _ _ _ _ _ e) (fun x9 hf => ?_)
              refine zB zlokG 2 (pc' := 237) (ls' := [(9, .int x4), (8, .int x3), (7, .int x2), (6, .int (a3 + 1)), (5, .int x1.1), (0, .ref 36), (1, .int a0), (2, .int a1), (3, .int a2), (4, .int a3)]) (st' := [.int (x9.1 + 3)]) (s' := x9.2) rfl ?_
              exact zRetI hf rfl rfl
            · refine zIte hf (fun hc hf => ?_) (fun hc hf => ?_)
              · refine zLook (off := 177) (tgt := 238) 30 hc rfl (by decide) (by decide) (by decide) ?_
                refine zB zlokG 5 (pc' := 245) (ls' := [(9, .int x4), (8, .int x3), (7, .int x2), (6, .int (a3 + 1)), (5, .int x1.1), (0, .ref 36), (1, .int a0), (2, .int a1), (3, .int a2), (4, .int a3)]) (st' := [.int (a3 + 1), .int a2, .int 1, .int x3, .ref 36]) (s' := x5) rfl ?_
                refine zXI hf (As := [.int x3, .int 1, .int a2, .int (a3 + 1)]) (rest := []) 4 zmk_gl_run zok_gl_run zl_815 rfl rfl rfl rfl (zdr (by omega) rfl) rfl rfl rfl (fun _ e => hk_gl_run _ _ _ _ _ _ e) (fun x10 hf => ?_)
                refine zB zlokG 1 (pc' := 249) (ls' := [(9, .int x4), (8, .int x3), (7, .int x2), (6, .int (a3 + 1)), (5, .int x1.1), (0, .ref 36), (1, .int a0), (2, .int a1), (3, .int a2), (4, .int a3)]) (st' := [.int (-x10.1)]) (s' := x10.2) rfl ?_
                exact zRetI hf rfl rfl
              · refine zIte hf (fun hc hf => ?_) (fun hc hf => ?_)
                · refine zLook (off := 189) (tgt := 250) 40 hc rfl (by decide) (by decide) (by decide) ?_
                  refine zB zlokG 5 (pc' := 257) (ls' := [(9, .int x4), (8, .int x3), (7, .int x2), (6, .int (a3 + 1)), (5, .int x1.1), (0, .ref 36), (1, .int a0), (2, .int a1), (3, .int a2), (4, .int a3)]) (st' := [.int (a3 + 1), .int a2, .int 2, .int x3, .ref 36]) (s' := x5) rfl ?_
                  refine zXI hf (As := [.int x3, .int 2, .int a2, .int (a3 + 1)]) (rest := []) 4 zmk_gl_run zok_gl_run zl_815 rfl rfl rfl rfl (zdr (by omega) rfl) rfl rfl rfl (fun _ e => hk_gl_run _ _ _ _ _ _ e) (fun x11 hf => ?_)
                  refine zB zlokG 2 (pc' := 262) (ls' := [(9, .int x4), (8, .int x3), (7, .int x2), (6, .int (a3 + 1)), (5, .int x1.1), (0, .ref 36), (1, .int a0), (2, .int a1), (3, .int a2), (4, .int a3)]) (st' := [.int (x11.1 * 3)]) (s' := x11.2) rfl ?_
                  exact zRetI hf rfl rfl
                · refine zIte hf (fun hc hf => ?_) (fun hc hf => ?_)
                  · refine zLook (off := 202) (tgt := 263) 41 hc rfl (by decide) (by decide) (by decide) ?_
                    refine zB zlokG 7 (pc' := 272) (ls' := [(9, .int x4), (8, .int x3), (7, .int x2), (6, .int (a3 + 1)), (5, .int x1.1), (0, .ref 36), (1, .int a0), (2, .int a1), (3, .int a2), (4, .int a3)]) (st' := [.int (a3 + 1), .int (a2 + 1), .int 1, .int x3, .ref 36]) (s' := x5) rfl ?_
                    refine zXI hf (As := [.int x3, .int 1, .int (a2 + 1), .int (a3 + 1)]) (rest := []) 4 zmk_gl_run zok_gl_run zl_815 rfl rfl rfl rfl (zdr (by omega) rfl) rfl rfl rfl (fun _ e => hk_gl_run _ _ _ _ _ _ e) (fun x12 hf => ?_)
                    exact zRetI hf rfl rfl
                  · refine zIte hf (fun hc hf => ?_) (fun hc hf => ?_)
                    · refine zLook (off := 215) (tgt := 276) 50 hc rfl (by decide) (by decide) (by decide) ?_
                      refine zB zlokG 5 (pc' := 283) (ls' := [(9, .int x4), (8, .int x3), (7, .int x2), (6, .int (a3 + 1)), (5, .int x1.1), (0, .ref 36), (1, .int a0), (2, .int a1), (3, .int a2), (4, .int a3)]) (st' := [.int (a3 + 1), .int a2, .int 2, .int x3, .ref 36]) (s' := x5) rfl ?_
                      refine zXI hf (As := [.int x3, .int 2, .int a2, .int (a3 + 1)]) (rest := []) 4 zmk_gl_run zok_gl_run zl_815 rfl rfl rfl rfl (zdr (by omega) rfl) rfl rfl rfl (fun _ e => hk_gl_run _ _ _ _ _ _ e) (fun x13 hf => ?_)
                      refine zB zlokG 5 (pc' := 293) (ls' := [(9, .int x4), (8, .int x3), (7, .int x2), (6, .int (a3 + 1)), (5, .int x1.1), (0, .ref 36), (1, .int a0), (2, .int a1), (3, .int a2), (4, .int a3)]) (st' := [.int (a3 + 1), .int 2, .int 0, .int x2, .ref 36, .int x13.1]) (s' := x13.2) rfl ?_
                      refine zXI hf (As := [.int x2, .int 0, .int 2, .int (a3 + 1)]) (rest := [.int x13.1]) 4 zmk_gl_run zok_gl_run zl_815 rfl rfl rfl rfl (zdr (by omega) rfl) rfl rfl rfl (fun _ e => hk_gl_run _ _ _ _ _ _ e) (fun x14 hf => ?_)
                      refine zB zlokG 1 (pc' := 297) (ls' := [(9, .int x4), (8, .int x3), (7, .int x2), (6, .int (a3 + 1)), (5, .int x1.1), (0, .ref 36), (1, .int a0), (2, .int a1), (3, .int a2), (4, .int a3)]) (st' := [.int (x13.1 - x14.1)]) (s' := x14.2) rfl ?_
                      exact zRetI hf rfl rfl
                    · refine zIte hf (fun hc hf => ?_) (fun hc hf => ?_)
                      · refine zLook (off := 237) (tgt := 298) 60 hc rfl (by decide) (by decide) (by decide) ?_
                        refine zB zlokG 5 (pc' := 305) (ls' := [(9, .int x4), (8, .int x3), (7, .int x2), (6, .int (a3 + 1)), (5, .int x1.1), (0, .ref 36), (1, .int a0), (2, .int a1), (3, .int a2), (4, .int a3)]) (st' := [.int (a3 + 1), .int a2, .int 3, .int x3, .ref 36]) (s' := x5) rfl ?_
                        refine zXI hf (As := [.int x3, .int 3, .int a2, .int (a3 + 1)]) (rest := []) 4 zmk_gl_run zok_gl_run zl_815 rfl rfl rfl rfl (zdr (by omega) rfl) rfl rfl rfl (fun _ e => hk_gl_run _ _ _ _ _ _ e) (fun x15 hf => ?_)
                        refine zB zlokG 2 (pc' := 310) (ls' := [(9, .int x4), (8, .int x3), (7, .int x2), (6, .int (a3 + 1)), (5, .int x1.1), (0, .ref 36), (1, .int a0), (2, .int a1), (3, .int a2), (4, .int a3)]) (st' := [.int (x15.1 ^^^ 5)]) (s' := x15.2) rfl ?_
                        exact zRetI hf rfl rfl
                      · refine zIte hf (fun hc hf => ?_) (fun hc hf => ?_)
                        · refine zLook (off := 250) (tgt := 311) 70 hc rfl (by decide) (by decide) (by decide) ?_
                          refine zB zlokG 5 (pc' := 318) (ls' := [(9, .int x4), (8, .int x3), (7, .int x2), (6, .int (a3 + 1)), (5, .int x1.1), (0, .ref 36), (1, .int a0), (2, .int a1), (3, .int a2), (4, .int a3)]) (st' := [.int (a3 + 1), .int a2, .int 0, .int x3, .ref 36]) (s' := x5) rfl ?_
                          refine zXI hf (As := [.int x3, .int 0, .int a2, .int (a3 + 1)]) (rest := []) 4 zmk_gl_run zok_gl_run zl_815 rfl rfl rfl rfl (zdr (by omega) rfl) rfl rfl rfl (fun _ e => hk_gl_run _ _ _ _ _ _ e) (fun x16 hf => ?_)
                          refine zB zlokG 2 (pc' := 323) (ls' := [(9, .int x4), (8, .int x3), (7, .int x2), (6, .int (a3 + 1)), (5, .int x1.1), (0, .ref 36), (1, .int a0), (2, .int a1), (3, .int a2), (4, .int a3)]) (st' := [.int (x16.1 * 2)]) (s' := x16.2) rfl ?_
                          exact zRetI hf rfl rfl
                        · refine zIte hf (fun hc hf => ?_) (fun hc hf => ?_)
                          · refine zLook (off := 263) (tgt := 324) 80 hc rfl (by decide) (by decide) (by decide) ?_
                            refine zB zlokG 5 (pc' := 331) (ls' := [(9, .int x4), (8, .int x3), (7, .int x2), (6, .int (a3 + 1)), (5, .int x1.1), (0, .ref 36), (1, .int a0), (2, .int a1), (3, .int a2), (4, .int a3)]) (st' := [.int (a3 + 1), .int a2, .int 1, .int x3, .ref 36]) (s' := x5) rfl ?_
                            refine zXI hf (As := [.int x3, .int 1, .int a2, .int (a3 + 1)]) (rest := []) 4 zmk_gl_run zok_gl_run zl_815 rfl rfl rfl rfl (zdr (by omega) rfl) rfl rfl rfl (fun _ e => hk_gl_run _ _ _ _ _ _ e) (fun x17 hf => ?_)
                            refine zB zlokG 5 (pc' := 341) (ls' := [(9, .int x4), (8, .int x3), (7, .int x2), (6, .int (a3 + 1)), (5, .int x1.1), (0, .ref 36), (1, .int a0), (2, .int a1), (3, .int a2), (4, .int a3)]) (st' := [.int (a3 + 1), .int 2, .int 2, .int x2, .ref 36, .int x17.1]) (s' := x17.2) rfl ?_
                            refine zXI hf (As := [.int x2, .int 2, .int 2, .int (a3 + 1)]) (rest := [.int x17.1]) 4 zmk_gl_run zok_gl_run zl_815 rfl rfl rfl rfl (zdr (by omega) rfl) rfl rfl rfl (fun _ e => hk_gl_run _ _ _ _ _ _ e) (fun x18 hf => ?_)
                            refine zB zlokG 1 (pc' := 345) (ls' := [(9, .int x4), (8, .int x3), (7, .int x2), (6, .int (a3 + 1)), (5, .int x1.1), (0, .ref 36), (1, .int a0), (2, .int a1), (3, .int a2), (4, .int a3)]) (st' := [.int (x17.1 + x18.1)]) (s' := x18.2) rfl ?_
                            exact zRetI hf rfl rfl
                          · refine zIte hf (fun hc hf => ?_) (fun hc hf => ?_)
                            · refine zLook (off := 285) (tgt := 346) 81 hc rfl (by decide) (by decide) (by decide) ?_
                              refine zB zlokG 5 (pc' := 353) (ls' := [(9, .int x4), (8, .int x3), (7, .int x2), (6, .int (a3 + 1)), (5, .int x1.1), (0, .ref 36), (1, .int a0), (2, .int a1), (3, .int a2), (4, .int a3)]) (st' := [.int (a3 + 1), .int a2, .int 3, .int x3, .ref 36]) (s' := x5) rfl ?_
                              refine zXI hf (As := [.int x3, .int 3, .int a2, .int (a3 + 1)]) (rest := []) 4 zmk_gl_run zok_gl_run zl_815 rfl rfl rfl rfl (zdr (by omega) rfl) rfl rfl rfl (fun _ e => hk_gl_run _ _ _ _ _ _ e) (fun x19 hf => ?_)
                              refine zB zlokG 2 (pc' := 358) (ls' := [(9, .int x4), (8, .int x3), (7, .int x2), (6, .int (a3 + 1)), (5, .int x1.1), (0, .ref 36), (1, .int a0), (2, .int a1), (3, .int a2), (4, .int a3)]) (st' := [.int (x19.1 - 1)]) (s' := x19.2) rfl ?_
                              exact zRetI hf rfl rfl
                            · cases hf
  · refine zB zlokG 1 (pc' := 8) (ls' := [(0, .ref 36), (1, .int a0), (2, .int a1), (3, .int a2), (4, .int a3)]) (st' := [.int 0]) (s' := s) rfl ?_
    exact zRetI hf rfl rfl
theorem K_gl : ∀ n : Nat, ∀ a b c d s r, F_gl n a b c d s = some r → zKp zm_gl_run ΛG (n + 9) [.ref 36, .int a, .int b, .int c, .int d] s (some (.int r.1), r.2)
  | 0 => fun _ _ _ _ _ _ h => (by cases h)
  | n + 1 => by
    have h0 := K_gl n
    have e : n + 1 + 9 = n + 9 + 1 := by omega
    rw [e]
    exact fun a b c d s r h => kb_gl_run _ (by omega) h0 a b c d s r h
theorem k_gl_run (a0 a1 a2 a3 : Int32) (s : zSt) (r : Int32 × zSt) (hf : f_gl_run a0 a1 a2 a3 s = some r) : zKp zm_gl_run ΛG 69 [.ref 36, .int a0, .int a1, .int a2, .int a3] s (some (.int r.1), r.2) := K_gl 60 a0 a1 a2 a3 s r hf
set_option maxRecDepth 20000 in
theorem k_gl_enact (a0 : Int32) (a1 : Int32) (a2 : Int32) (s : zSt) (r : Int32 × zSt) (hf : f_gl_enact a0 a1 a2 s = some r) : zKp zm_gl_enact ΛG 70 [.ref 36, .int a0, .int a1, .int a2] s (some (.int r.1), r.2) := by
  refine zKp_of zmk_gl_enact rfl ?_
  show zWA _ _ _ _ _ [(0, .ref 36), (1, .int a0), (2, .int a1), (3, .int a2)] _ _
  refine zB zlokG 5 (pc' := 7) (ls' := [(0, .ref 36), (1, .int a0), (2, .int a1), (3, .int a2)]) (st' := [.int a0, .ref 36]) (s' := (zw s 36 3 0)) rfl ?_
  refine zXI hf (As := [.int a0]) (rest := []) 1 zmk_gl_has zok_gl_has zl_810 rfl rfl rfl rfl rfl rfl rfl rfl (fun _ e => k_gl_has _ _ _ e) (fun x1 hf => ?_)
  refine zIeq hf (tgt := 22) rfl (by decide) (fun hc hf => ?_) (fun hc hf => ?_)
  · refine zB zlokG 1 (pc' := 23) (ls' := [(0, .ref 36), (1, .int a0), (2, .int a1), (3, .int a2)]) (st' := [.int 0]) (s' := x1.2) rfl ?_
    exact zRetI hf rfl rfl
  · refine zB zlokG 3 (pc' := 16) (ls' := [(0, .ref 36), (1, .int a0), (2, .int a1), (3, .int a2)]) (st' := [.int 3, .int 0, .int a1]) (s' := x1.2) rfl ?_
    refine zNI hf (As := [.int a1, .int 0, .int 3]) (rest := []) 3 zmk_g_isWithin zok_g_isWithin zl_814 rfl rfl rfl rfl rfl (fun _ e => k_g_isWithin _ _ _ _ _ e) (fun x2 hf => ?_)
    refine zIne hf (tgt := 24) rfl (by decide) (fun hc hf => ?_) (fun hc hf => ?_)
    · refine zB zlokG 1 (pc' := 23) (ls' := [(0, .ref 36), (1, .int a0), (2, .int a1), (3, .int a2)]) (st' := [.int 0]) (s' := x2.2) rfl ?_
      exact zRetI hf rfl rfl
    · refine zB zlokG 7 (pc' := 35) (ls' := [(0, .ref 36), (1, .int a0), (2, .int a1), (3, .int a2)]) (st' := [.int a0, .ref 37, .ref 36]) (s' := (zw x2.2 36 4 a0)) rfl ?_
      refine zIald hf rfl (by rfl) (fun x3 hf => ?_)
      refine zB zlokG 3 (pc' := 39) (ls' := [(0, .ref 36), (1, .int a0), (2, .int a1), (3, .int a2)]) (st' := [.int 0, .int a2, .int a1, .int x3, .ref 36]) (s' := (zw x2.2 36 4 a0)) rfl ?_
      refine zXI hf (As := [.int x3, .int a1, .int a2, .int 0]) (rest := []) 4 zmk_gl_run zok_gl_run zl_815 rfl rfl rfl rfl rfl rfl rfl rfl (fun _ e => k_gl_run _ _ _ _ _ _ e) (fun x4 hf => ?_)
      exact zRetI hf rfl rfl
set_option maxRecDepth 20000 in
theorem k_lw_become (o : Nat) (ho : zLwAt o) (s : zSt) (r : zSt) (hf : f_lw_become o s = some r) : zKp zm_lw_become ΛG 1 [.ref o, .ref 13] s (none, r) := by
  refine zKp_of zmk_lw_become rfl ?_
  show zWA _ _ _ _ _ [(0, .ref o), (1, .ref 13)] _ _
  refine zB zlokG 4 (pc' := 7) (ls' := [(0, .ref o), (1, .ref 13)]) (st' := [.int 121, .int (s.1 13 3), .ref o]) (s' := s) rfl ?_
  refine zMinI zl_511 rfl rfl rfl ?_
  refine zPutX zlkkG (j := 2) hf rfl rfl ho.1 rfl (Or.inl rfl) (fun s1 hf => ?_)
  refine zB zlokG 4 (pc' := 19) (ls' := [(0, .ref o), (1, .ref 13)]) (st' := [.ref o, .int 0, .ref 15]) (s' := s1) rfl ?_
  refine zGetR (j := 0) rfl rfl ho.1 rfl ?_
  refine zB zlokG 2 (pc' := 24) (ls' := [(0, .ref o), (1, .ref 13)]) (st' := [.ref o, .int 0, .ref (o + 1), .int 0, .ref 15]) (s' := s1) rfl ?_
  refine zGetI (j := 2) rfl rfl ho.1 rfl ?_
  refine zCpyI hf zl_514 rfl rfl rfl (by rfl) ho.2.1 (fun s2 hf => ?_)
  refine zB zlokG 2 (pc' := 32) (ls' := [(0, .ref o), (1, .ref 13)]) (st' := [.int 1, .ref o]) (s' := s2) rfl ?_
  refine zPutX zlkkG (j := 3) hf rfl rfl ho.1 rfl (Or.inr (by decide)) (fun s3 hf => ?_)
  exact zRetV hf rfl rfl
set_option maxRecDepth 20000 in
theorem k_ls_become (a0 : Int32) (s : zSt) (r : zSt) (hf : f_ls_become a0 s = some r) : zKp zm_ls_become ΛG 2 [.ref 16, .int a0, .ref 13] s (none, r) := by
  refine zKp_of zmk_ls_become rfl ?_
  show zWA _ _ _ _ _ [(0, .ref 16), (1, .int a0), (2, .ref 13)] _ _
  refine zB zlokG 1 (pc' := 1) (ls' := [(0, .ref 16), (1, .int a0), (2, .ref 13)]) (st' := [.int a0]) (s' := s) rfl ?_
  refine zIne hf (tgt := 15) rfl (by decide) (fun hc hf => ?_) (fun hc hf => ?_)
  · refine zB zlokG 3 (pc' := 9) (ls' := [(0, .ref 16), (1, .int a0), (2, .ref 13)]) (st' := [.ref 13, .ref 17]) (s' := s) rfl ?_
    refine zXV hf (As := [.ref 13]) (rest := []) 1 zmk_lw_become zok_lw_become zl_507 rfl rfl rfl rfl rfl rfl rfl rfl (fun _ e => k_lw_become _ (by exact ⟨rfl, rfl, rfl⟩) _ _ e) (fun x1 hf => ?_)
    refine zGoto (tgt := 23) rfl (by decide) ?_
    exact zRetV hf rfl rfl
  · refine zB zlokG 3 (pc' := 20) (ls' := [(0, .ref 16), (1, .int a0), (2, .ref 13)]) (st' := [.ref 13, .ref 20]) (s' := s) rfl ?_
    refine zXV hf (As := [.ref 13]) (rest := []) 1 zmk_lw_become zok_lw_become zl_507 rfl rfl rfl rfl rfl rfl rfl rfl (fun _ e => k_lw_become _ (by exact ⟨rfl, rfl, rfl⟩) _ _ e) (fun x2 hf => ?_)
    exact zRetV hf rfl rfl
set_option maxRecDepth 20000 in
theorem k_ls_begin (a1 : Int32) (s : zSt) (r : zSt) (hf : f_ls_begin a1 s = some r) : zKp zm_ls_begin ΛG 1 [.ref 16, .ref 1, .int a1] s (none, r) := by
  refine zKp_of zmk_ls_begin rfl ?_
  show zWA _ _ _ _ _ [(0, .ref 16), (1, .ref 1), (2, .int a1)] _ _
  refine zB zlokG 7 (pc' := 11) (ls' := [(0, .ref 16), (1, .ref 1), (2, .int a1)]) (st' := [.int 3, .int 0, .ref 23, .int 0, .ref 2]) (s' := s) rfl ?_
  refine zCpyI hf zl_527 rfl rfl rfl (by rfl) (by rfl) (fun s1 hf => ?_)
  refine zB zlokG 4 (pc' := 21) (ls' := [(0, .ref 16), (1, .ref 1), (2, .int a1)]) (st' := [.int a1, .int 6, .ref 23]) (s' := s1) rfl ?_
  refine zIast hf rfl (by rfl) (fun s2 hf => ?_)
  refine zB zlokG 6 (pc' := 33) (ls' := [(0, .ref 16), (1, .ref 1), (2, .int a1)]) (st' := [.int 4, .ref 2, .int 7, .ref 23]) (s' := s2) rfl ?_
  refine zIald hf rfl (by rfl) (fun x3 hf => ?_)
  refine zIast hf rfl (by rfl) (fun s4 hf => ?_)
  refine zB zlokG 4 (pc' := 41) (ls' := [(0, .ref 16), (1, .ref 1), (2, .int a1)]) (st' := [.int 5, .ref 2, .ref 16]) (s' := s4) rfl ?_
  refine zIald hf rfl (by rfl) (fun x5 hf => ?_)
  refine zB zlokG 4 (pc' := 50) (ls' := [(0, .ref 16), (1, .ref 1), (2, .int a1)]) (st' := [.int (-1), .ref 24]) (s' := (zw s4 16 3 x5)) rfl ?_
  refine zFillI zlokG hf zl_528 rfl rfl rfl (by rfl) (by decide) (fun s6 hf => ?_)
  exact zRetV hf rfl rfl
set_option maxRecDepth 20000 in
theorem k_rc_allows (a0 : Int32) (a1 : Int32) (s : zSt) (r : Int32 × zSt) (hf : f_rc_allows a0 a1 s = some r) : zKp zm_rc_allows ΛG 1 [.ref 1, .int a0, .int a1] s (some (.int r.1), r.2) := by
  refine zKp_of zmk_rc_allows rfl ?_
  show zWA _ _ _ _ _ [(0, .ref 1), (1, .int a0), (2, .int a1)] _ _
  refine zB zlokG 3 (pc' := 4) (ls' := [(0, .ref 1), (1, .int a0), (2, .int a1)]) (st' := [.int 7, .int 0, .int a0]) (s' := s) rfl ?_
  refine zNI hf (As := [.int a0, .int 0, .int 7]) (rest := []) 3 zmk_g_isWithin zok_g_isWithin zl_395 rfl rfl rfl rfl rfl (fun _ e => k_g_isWithin _ _ _ _ _ e) (fun x1 hf => ?_)
  refine zIeq hf (tgt := 31) rfl (by decide) (fun hc hf => ?_) (fun hc hf => ?_)
  · refine zB zlokG 1 (pc' := 32) (ls' := [(0, .ref 1), (1, .int a0), (2, .int a1)]) (st' := [.int 0]) (s' := x1.2) rfl ?_
    exact zRetZc hf (by decide) rfl rfl
  · refine zB zlokG 3 (pc' := 15) (ls' := [(0, .ref 1), (1, .int a0), (2, .int a1)]) (st' := [.int a0, .ref 1001, .int a1]) (s' := x1.2) rfl ?_
    refine zTald (j := 1) hf rfl rfl (fun x2 hf => ?_)
    refine zB zlokG 2 (pc' := 20) (ls' := [(0, .ref 1), (1, .int a0), (2, .int a1)]) (st' := [.int a0, .ref 1002, .int x2, .int a1]) (s' := x1.2) rfl ?_
    refine zTald (j := 2) hf rfl rfl (fun x3 hf => ?_)
    refine zNI hf (As := [.int a1, .int x2, .int x3]) (rest := []) 3 zmk_g_isWithin zok_g_isWithin zl_395 rfl rfl rfl rfl rfl (fun _ e => k_g_isWithin _ _ _ _ _ e) (fun x4 hf => ?_)
    refine zIeq hf (tgt := 31) rfl (by decide) (fun hc hf => ?_) (fun hc hf => ?_)
    · refine zB zlokG 1 (pc' := 32) (ls' := [(0, .ref 1), (1, .int a0), (2, .int a1)]) (st' := [.int 0]) (s' := x4.2) rfl ?_
      exact zRetZc hf (by decide) rfl rfl
    · refine zB zlokG 1 (pc' := 28) (ls' := [(0, .ref 1), (1, .int a0), (2, .int a1)]) (st' := [.int 1]) (s' := x4.2) rfl ?_
      refine zGoto (tgt := 32) rfl (by decide) ?_
      exact zRetZc hf (by decide) rfl rfl
set_option maxRecDepth 20000 in
theorem k_rc_forgetOldest (s : zSt) (r : zSt) (hf : f_rc_forgetOldest s = some r) : zKp zm_rc_forgetOldest ΛG 1 [.ref 1] s (none, r) := by
  refine zKp_of zmk_rc_forgetOldest rfl ?_
  show zWA _ _ _ _ _ [(0, .ref 1)] _ _
  refine zB zlokG 7 (pc' := 12) (ls' := [(0, .ref 1)]) (st' := [.int 39, .int 0, .ref 3, .int 1, .ref 3]) (s' := s) rfl ?_
  refine zCpyI hf zl_412 rfl rfl rfl (by rfl) (by rfl) (fun s1 hf => ?_)
  refine zB zlokG 7 (pc' := 27) (ls' := [(0, .ref 1)]) (st' := [.int 39, .int 0, .ref 4, .int 1, .ref 4]) (s' := s1) rfl ?_
  refine zCpyI hf zl_412 rfl rfl rfl (by rfl) (by rfl) (fun s2 hf => ?_)
  refine zB zlokG 7 (pc' := 42) (ls' := [(0, .ref 1)]) (st' := [.int 39, .int 0, .ref 5, .int 1, .ref 5]) (s' := s2) rfl ?_
  refine zCpyI hf zl_412 rfl rfl rfl (by rfl) (by rfl) (fun s3 hf => ?_)
  refine zB zlokG 6 (pc' := 55) (ls' := [(0, .ref 1)]) (st' := []) (s' := (zw s3 1 4 ((s3.1 1 4) - 1))) rfl ?_
  exact zRetV hf rfl rfl
set_option maxRecDepth 20000 in
theorem c_f_rc_remember_13 {r : zSt} : ∀ (v1 : Int32) (v2 : Int32) (v3 : Int32) (s : zSt), f_rc_remember_13 v1 v2 v3 s = some r → zWA zm_rc_remember ΛG 2 (none, r) 13 [(0, .ref 1), (1, .int v1), (2, .int v2), (3, .int v3)] [] s := by
  intro v1 v2 v3 s hf
  refine zB zlokG 5 (pc' := 22) (ls' := [(0, .ref 1), (1, .int v1), (2, .int v2), (3, .int v3)]) (st' := [.int v1, .int (s.1 1 4), .ref 3]) (s' := s) rfl ?_
  refine zIast hf rfl (by rfl) (fun s2 hf => ?_)
  refine zB zlokG 5 (pc' := 32) (ls' := [(0, .ref 1), (1, .int v1), (2, .int v2), (3, .int v3)]) (st' := [.int v2, .int (s2.1 1 4), .ref 4]) (s' := s2) rfl ?_
  refine zIast hf rfl (by rfl) (fun s3 hf => ?_)
  refine zB zlokG 5 (pc' := 42) (ls' := [(0, .ref 1), (1, .int v1), (2, .int v2), (3, .int v3)]) (st' := [.int v3, .int (s3.1 1 4), .ref 5]) (s' := s3) rfl ?_
  refine zIast hf rfl (by rfl) (fun s4 hf => ?_)
  refine zB zlokG 10 (pc' := 61) (ls' := [(0, .ref 1), (1, .int v1), (2, .int v2), (3, .int v3)]) (st' := []) (s' := (zw (zw s4 1 4 ((s4.1 1 4) + 1)) 1 5 ((zw s4 1 4 ((s4.1 1 4) + 1)).1 1 4))) rfl ?_
  exact zRetV hf rfl rfl
set_option maxRecDepth 20000 in
theorem k_rc_remember (a0 : Int32) (a1 : Int32) (a2 : Int32) (s : zSt) (r : zSt) (hf : f_rc_remember a0 a1 a2 s = some r) : zKp zm_rc_remember ΛG 2 [.ref 1, .int a0, .int a1, .int a2] s (none, r) := by
  refine zKp_of zmk_rc_remember rfl ?_
  show zWA _ _ _ _ _ [(0, .ref 1), (1, .int a0), (2, .int a1), (3, .int a2)] _ _
  refine zB zlokG 3 (pc' := 6) (ls' := [(0, .ref 1), (1, .int a0), (2, .int a1), (3, .int a2)]) (st' := [.int 40, .int (s.1 1 4)]) (s' := s) rfl ?_
  refine zCne hf (tgt := 13) rfl (by decide) (fun hc hf => ?_) (fun hc hf => ?_)
  · refine zB zlokG 1 (pc' := 10) (ls' := [(0, .ref 1), (1, .int a0), (2, .int a1), (3, .int a2)]) (st' := [.ref 1]) (s' := s) rfl ?_
    refine zXV hf (As := []) (rest := []) 0 zmk_rc_forgetOldest zok_rc_forgetOldest zl_408 rfl rfl rfl rfl rfl rfl rfl rfl (fun _ e => k_rc_forgetOldest _ _ e) (fun x1 hf => ?_)
    refine zLoc [0, 1, 2, 3] rfl ?_
    exact c_f_rc_remember_13 _ _ _ _ hf
  · refine zLoc [0, 1, 2, 3] rfl ?_
    exact c_f_rc_remember_13 _ _ _ _ hf
set_option maxRecDepth 20000 in
theorem k_rc_change (a0 : Int32) (a1 : Int32) (s : zSt) (r : Int32 × zSt) (hf : f_rc_change a0 a1 s = some r) : zKp zm_rc_change ΛG 3 [.ref 1, .int a0, .int a1] s (some (.int r.1), r.2) := by
  refine zKp_of zmk_rc_change rfl ?_
  show zWA _ _ _ _ _ [(0, .ref 1), (1, .int a0), (2, .int a1)] _ _
  refine zB zlokG 3 (pc' := 5) (ls' := [(0, .ref 1), (1, .int a0), (2, .int a1)]) (st' := [.int a0, .ref 2]) (s' := s) rfl ?_
  refine zIald hf rfl (by rfl) (fun x1 hf => ?_)
  refine zB zlokG 3 (pc' := 9) (ls' := [(3, .int x1), (0, .ref 1), (1, .int a0), (2, .int a1)]) (st' := [.int a1, .int x1]) (s' := s) rfl ?_
  refine zCeq hf (tgt := 26) rfl (by decide) (fun hc hf => ?_) (fun hc hf => ?_)
  · refine zB zlokG 1 (pc' := 27) (ls' := [(3, .int x1), (0, .ref 1), (1, .int a0), (2, .int a1)]) (st' := [.int x1]) (s' := s) rfl ?_
    exact zRetI hf rfl rfl
  · refine zB zlokG 4 (pc' := 16) (ls' := [(3, .int x1), (0, .ref 1), (1, .int a0), (2, .int a1)]) (st' := [.int a1, .int x1, .int a0, .ref 1]) (s' := s) rfl ?_
    refine zXV hf (As := [.int a0, .int x1, .int a1]) (rest := []) 3 zmk_rc_remember zok_rc_remember zl_404 rfl rfl rfl rfl rfl rfl rfl rfl (fun _ e => k_rc_remember _ _ _ _ _ e) (fun x2 hf => ?_)
    refine zB zlokG 4 (pc' := 25) (ls' := [(3, .int x1), (0, .ref 1), (1, .int a0), (2, .int a1)]) (st' := [.int a1, .int a0, .ref 2]) (s' := x2) rfl ?_
    refine zIast hf rfl (by rfl) (fun s3 hf => ?_)
    refine zB zlokG 1 (pc' := 27) (ls' := [(3, .int x1), (0, .ref 1), (1, .int a0), (2, .int a1)]) (st' := [.int x1]) (s' := s3) rfl ?_
    exact zRetI hf rfl rfl
set_option maxRecDepth 20000 in
theorem k_rc_takeBack (s : zSt) (r : Int32 × zSt) (hf : f_rc_takeBack s = some r) : zKp zm_rc_takeBack ΛG 0 [.ref 1] s (some (.int r.1), r.2) := by
  refine zKp_of zmk_rc_takeBack rfl ?_
  show zWA _ _ _ _ _ [(0, .ref 1)] _ _
  refine zB zlokG 2 (pc' := 4) (ls' := [(0, .ref 1)]) (st' := [.int (s.1 1 4)]) (s' := s) rfl ?_
  refine zIne hf (tgt := 9) rfl (by decide) (fun hc hf => ?_) (fun hc hf => ?_)
  · refine zB zlokG 1 (pc' := 8) (ls' := [(0, .ref 1)]) (st' := [.int 0]) (s' := s) rfl ?_
    exact zRetZc hf (by decide) rfl rfl
  · refine zB zlokG 12 (pc' := 31) (ls' := [(0, .ref 1)]) (st' := [.int ((zw s 1 4 ((s.1 1 4) - 1)).1 1 4), .ref 3, .ref 2]) (s' := (zw s 1 4 ((s.1 1 4) - 1))) rfl ?_
    refine zIald hf rfl (by rfl) (fun x1 hf => ?_)
    refine zB zlokG 4 (pc' := 40) (ls' := [(0, .ref 1)]) (st' := [.int ((zw s 1 4 ((s.1 1 4) - 1)).1 1 4), .ref 4, .int x1, .ref 2]) (s' := (zw s 1 4 ((s.1 1 4) - 1))) rfl ?_
    refine zIald hf rfl (by rfl) (fun x2 hf => ?_)
    refine zIast hf rfl (by rfl) (fun s3 hf => ?_)
    refine zB zlokG 1 (pc' := 43) (ls' := [(0, .ref 1)]) (st' := [.int 1]) (s' := s3) rfl ?_
    exact zRetZc hf (by decide) rfl rfl
set_option maxRecDepth 20000 in
theorem k_rc_doAgain (s : zSt) (r : Int32 × zSt) (hf : f_rc_doAgain s = some r) : zKp zm_rc_doAgain ΛG 0 [.ref 1] s (some (.int r.1), r.2) := by
  refine zKp_of zmk_rc_doAgain rfl ?_
  show zWA _ _ _ _ _ [(0, .ref 1)] _ _
  refine zB zlokG 4 (pc' := 8) (ls' := [(0, .ref 1)]) (st' := [.int (s.1 1 5), .int (s.1 1 4)]) (s' := s) rfl ?_
  refine zCne hf (tgt := 13) rfl (by decide) (fun hc hf => ?_) (fun hc hf => ?_)
  · refine zB zlokG 1 (pc' := 12) (ls' := [(0, .ref 1)]) (st' := [.int 0]) (s' := s) rfl ?_
    exact zRetZc hf (by decide) rfl rfl
  · refine zB zlokG 6 (pc' := 25) (ls' := [(0, .ref 1)]) (st' := [.int (s.1 1 4), .ref 3, .ref 2]) (s' := s) rfl ?_
    refine zIald hf rfl (by rfl) (fun x1 hf => ?_)
    refine zB zlokG 4 (pc' := 34) (ls' := [(0, .ref 1)]) (st' := [.int (s.1 1 4), .ref 5, .int x1, .ref 2]) (s' := s) rfl ?_
    refine zIald hf rfl (by rfl) (fun x2 hf => ?_)
    refine zIast hf rfl (by rfl) (fun s3 hf => ?_)
    refine zB zlokG 7 (pc' := 47) (ls' := [(0, .ref 1)]) (st' := [.int 1]) (s' := (zw s3 1 4 ((s3.1 1 4) + 1))) rfl ?_
    exact zRetZc hf (by decide) rfl rfl
