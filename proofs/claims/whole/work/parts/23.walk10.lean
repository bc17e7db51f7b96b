/-! contracts: m_sellsAs m_tellsAs m_act m_trace m_keep m_row m_refusal m_asSort m_put m_element m_shift m_taken m_count -/
set_option maxRecDepth 20000 in
theorem kb_m_sellsAs (c_m_sellsAs : Int32 → Int32 → zSt → Option (Int32 × zSt)) {dd : Nat} (hdd : 60 ≤ dd) (hk_m_sellsAs : ∀ (a0 a1 : Int32) (s : zSt) (r : Int32 × zSt), c_m_sellsAs a0 a1 s = some r → zKp zm_m_sellsAs ΛM dd [.ref 0, .int a0, .int a1] s (some (.int r.1), r.2)) (a0 : Int32) (a1 : Int32) (s : zSt) (r : Int32 × zSt) (hf : b_m_sellsAs c_m_sellsAs a0 a1 s = some r) : zKp zm_m_sellsAs ΛM (dd + 1) [.ref 0, .int a0, .int a1] s (some (.int r.1), r.2) := by
  refine zKp_of zmk_m_sellsAs rfl ?_
  show zWA _ _ _ _ _ [(0, .ref 0), (1, .int a0), (2, .int a1)] _ _
  refine zB zlokM 2 (pc' := 2) (ls' := [(0, .ref 0), (1, .int a0), (2, .int a1)]) (st' := [.int 3, .int a0]) (s' := s) rfl ?_
  refine zCeq hf (tgt := 10) rfl (by decide) (fun hc hf => ?_) (fun hc hf => ?_)
  · refine zB zlokM 2 (pc' := 13) (ls' := [(0, .ref 0), (1, .int a0), (2, .int a1)]) (st' := [.int 41, .ref 0]) (s' := s) rfl ?_
    refine zXV hf (As := [.int 41]) (rest := []) 1 zmk_m_begins zok_m_begins zl_1352 rfl rfl rfl rfl (zdr (by omega) rfl) rfl rfl rfl (fun _ e => k_m_begins _ _ _ e) (fun x1 hf => ?_)
    refine zB zlokM 5 (pc' := 21) (ls' := [(0, .ref 0), (1, .int a0), (2, .int a1)]) (st' := [.int (a1 + 1), .int 2, .ref 0]) (s' := x1) rfl ?_
    refine zXI hf (As := [.int 2, .int (a1 + 1)]) (rest := []) 2 zmk_m_sellsAs zok_m_sellsAs zl_1356 rfl rfl rfl rfl (zdr (by omega) rfl) rfl rfl rfl (fun _ e => hk_m_sellsAs _ _ _ _ e) (fun x2 hf => ?_)
    exact zRetI hf rfl rfl
  · refine zB zlokM 2 (pc' := 7) (ls' := [(0, .ref 0), (1, .int a0), (2, .int a1)]) (st' := [.int 5, .int a0]) (s' := s) rfl ?_
    refine zCne hf (tgt := 25) rfl (by decide) (fun hc hf => ?_) (fun hc hf => ?_)
    · refine zB zlokM 2 (pc' := 13) (ls' := [(0, .ref 0), (1, .int a0), (2, .int a1)]) (st' := [.int 41, .ref 0]) (s' := s) rfl ?_
      refine zXV hf (As := [.int 41]) (rest := []) 1 zmk_m_begins zok_m_begins zl_1352 rfl rfl rfl rfl (zdr (by omega) rfl) rfl rfl rfl (fun _ e => k_m_begins _ _ _ e) (fun x3 hf => ?_)
      refine zB zlokM 5 (pc' := 21) (ls' := [(0, .ref 0), (1, .int a0), (2, .int a1)]) (st' := [.int (a1 + 1), .int 2, .ref 0]) (s' := x3) rfl ?_
      refine zXI hf (As := [.int 2, .int (a1 + 1)]) (rest := []) 2 zmk_m_sellsAs zok_m_sellsAs zl_1356 rfl rfl rfl rfl (zdr (by omega) rfl) rfl rfl rfl (fun _ e => hk_m_sellsAs _ _ _ _ e) (fun x4 hf => ?_)
      exact zRetI hf rfl rfl
    · refine zB zlokM 2 (pc' := 27) (ls' := [(0, .ref 0), (1, .int a0), (2, .int a1)]) (st' := [.int 2, .int a0]) (s' := s) rfl ?_
      refine zCne hf (tgt := 44) rfl (by decide) (fun hc hf => ?_) (fun hc hf => ?_)
      · refine zB zlokM 2 (pc' := 33) (ls' := [(0, .ref 0), (1, .int a0), (2, .int a1)]) (st' := [.int 30, .ref 0]) (s' := s) rfl ?_
        refine zXV hf (As := [.int 30]) (rest := []) 1 zmk_m_begins zok_m_begins zl_1352 rfl rfl rfl rfl (zdr (by omega) rfl) rfl rfl rfl (fun _ e => k_m_begins _ _ _ e) (fun x5 hf => ?_)
        refine zB zlokM 3 (pc' := 39) (ls' := [(0, .ref 0), (1, .int a0), (2, .int a1)]) (st' := [.int a1, .int 0, .ref 0]) (s' := x5) rfl ?_
        refine zXI hf (As := [.int 0, .int a1]) (rest := []) 2 zmk_m_sellsAs zok_m_sellsAs zl_1356 rfl rfl rfl rfl (zdr (by omega) rfl) rfl rfl rfl (fun _ e => hk_m_sellsAs _ _ _ _ e) (fun x6 hf => ?_)
        refine zB zlokM 1 (pc' := 43) (ls' := [(0, .ref 0), (1, .int a0), (2, .int a1)]) (st' := [.int (-x6.1)]) (s' := x6.2) rfl ?_
        exact zRetI hf rfl rfl
      · refine zB zlokM 2 (pc' := 47) (ls' := [(0, .ref 0), (1, .int a0), (2, .int a1)]) (st' := [.int 7, .int a0]) (s' := s) rfl ?_
        refine zCne hf (tgt := 75) rfl (by decide) (fun hc hf => ?_) (fun hc hf => ?_)
        · refine zB zlokM 2 (pc' := 53) (ls' := [(0, .ref 0), (1, .int a0), (2, .int a1)]) (st' := [.int 80, .ref 0]) (s' := s) rfl ?_
          refine zXV hf (As := [.int 80]) (rest := []) 1 zmk_m_begins zok_m_begins zl_1352 rfl rfl rfl rfl (zdr (by omega) rfl) rfl rfl rfl (fun _ e => k_m_begins _ _ _ e) (fun x7 hf => ?_)
          refine zB zlokM 3 (pc' := 59) (ls' := [(0, .ref 0), (1, .int a0), (2, .int a1)]) (st' := [.int a1, .int 4, .ref 0]) (s' := x7) rfl ?_
          refine zXI hf (As := [.int 4, .int a1]) (rest := []) 2 zmk_m_sellsAs zok_m_sellsAs zl_1356 rfl rfl rfl rfl (zdr (by omega) rfl) rfl rfl rfl (fun _ e => hk_m_sellsAs _ _ _ _ e) (fun x8 hf => ?_)
          refine zB zlokM 6 (pc' := 70) (ls' := [(3, .int x8.1), (0, .ref 0), (1, .int a0), (2, .int a1)]) (st' := [.int 2, .int (x8.2.1 0 45), .ref 0, .int x8.1]) (s' := x8.2) rfl ?_
          refine zXI hf (As := [.int (x8.2.1 0 45), .int 2]) (rest := [.int x8.1]) 2 zmk_m_sharesAs zok_m_sharesAs zl_1360 rfl rfl rfl rfl (zdr (by omega) rfl) rfl rfl rfl (fun _ e => k_m_sharesAs _ _ _ _ e) (fun x9 hf => ?_)
          refine zB zlokM 1 (pc' := 74) (ls' := [(3, .int x8.1), (0, .ref 0), (1, .int a0), (2, .int a1)]) (st' := [.int (x8.1 + x9.1)]) (s' := x9.2) rfl ?_
          exact zRetI hf rfl rfl
        · refine zB zlokM 2 (pc' := 78) (ls' := [(0, .ref 0), (1, .int a0), (2, .int a1)]) (st' := [.int 10, .ref 0]) (s' := s) rfl ?_
          refine zXV hf (As := [.int 10]) (rest := []) 1 zmk_m_begins zok_m_begins zl_1352 rfl rfl rfl rfl (zdr (by omega) rfl) rfl rfl rfl (fun _ e => k_m_begins _ _ _ e) (fun x10 hf => ?_)
          refine zB zlokM 4 (pc' := 87) (ls' := [(0, .ref 0), (1, .int a0), (2, .int a1)]) (st' := [.int a1, .int (x10.1 0 45), .ref 0]) (s' := x10) rfl ?_
          refine zXI hf (As := [.int (x10.1 0 45), .int a1]) (rest := []) 2 zmk_m_makesAs zok_m_makesAs zl_1348 rfl rfl rfl rfl (zdr (by omega) rfl) rfl rfl rfl (fun _ e => k_m_makesAs _ _ _ _ e) (fun x11 hf => ?_)
          refine zB zlokM 2 (pc' := 92) (ls' := [(0, .ref 0), (1, .int a0), (2, .int a1)]) (st' := [.int (x11.1 * 2)]) (s' := x11.2) rfl ?_
          exact zRetI hf rfl rfl
theorem K_sl : ∀ n : Nat, ∀ a b s r, F_sl n a b s = some r → zKp zm_m_sellsAs ΛM (n + 60) [.ref 0, .int a, .int b] s (some (.int r.1), r.2)
  | 0 => fun _ _ _ _ h => (by cases h)
  | n + 1 => by
    have h0 := K_sl n
    have e : n + 1 + 60 = n + 60 + 1 := by omega
    rw [e]
    exact fun a b s r h => kb_m_sellsAs _ (by omega) h0 a b s r h
theorem k_m_sellsAs (a0 a1 : Int32) (s : zSt) (r : Int32 × zSt) (hf : f_m_sellsAs a0 a1 s = some r) : zKp zm_m_sellsAs ΛM 80 [.ref 0, .int a0, .int a1] s (some (.int r.1), r.2) := K_sl 20 a0 a1 s r hf
set_option maxRecDepth 20000 in
theorem kb_m_tellsAs (c_m_tellsAs : Int32 → Int32 → zSt → Option (Int32 × zSt)) {dd : Nat} (hdd : 90 ≤ dd) (hk_m_tellsAs : ∀ (a0 a1 : Int32) (s : zSt) (r : Int32 × zSt), c_m_tellsAs a0 a1 s = some r → zKp zm_m_tellsAs ΛM dd [.ref 0, .int a0, .int a1] s (some (.int r.1), r.2)) (a0 : Int32) (a1 : Int32) (s : zSt) (r : Int32 × zSt) (hf : b_m_tellsAs c_m_tellsAs a0 a1 s = some r) : zKp zm_m_tellsAs ΛM (dd + 1) [.ref 0, .int a0, .int a1] s (some (.int r.1), r.2) := by
  refine zKp_of zmk_m_tellsAs rfl ?_
  show zWA _ _ _ _ _ [(0, .ref 0), (1, .int a0), (2, .int a1)] _ _
  refine zB zlokM 2 (pc' := 2) (ls' := [(0, .ref 0), (1, .int a0), (2, .int a1)]) (st' := [.int 5, .int a0]) (s' := s) rfl ?_
  refine zCne hf (tgt := 20) rfl (by decide) (fun hc hf => ?_) (fun hc hf => ?_)
  · refine zB zlokM 2 (pc' := 8) (ls' := [(0, .ref 0), (1, .int a0), (2, .int a1)]) (st' := [.int 60, .ref 0]) (s' := s) rfl ?_
    refine zXV hf (As := [.int 60]) (rest := []) 1 zmk_m_begins zok_m_begins zl_1352 rfl rfl rfl rfl (zdr (by omega) rfl) rfl rfl rfl (fun _ e => k_m_begins _ _ _ e) (fun x1 hf => ?_)
    refine zB zlokM 3 (pc' := 14) (ls' := [(0, .ref 0), (1, .int a0), (2, .int a1)]) (st' := [.int a1, .int 3, .ref 0]) (s' := x1) rfl ?_
    refine zXI hf (As := [.int 3, .int a1]) (rest := []) 2 zmk_m_tellsAs zok_m_tellsAs zl_1364 rfl rfl rfl rfl (zdr (by omega) rfl) rfl rfl rfl (fun _ e => hk_m_tellsAs _ _ _ _ e) (fun x2 hf => ?_)
    refine zB zlokM 2 (pc' := 19) (ls' := [(0, .ref 0), (1, .int a0), (2, .int a1)]) (st' := [.int (x2.1 ^^^ 5)]) (s' := x2.2) rfl ?_
    exact zRetI hf rfl rfl
  · refine zB zlokM 2 (pc' := 23) (ls' := [(0, .ref 0), (1, .int a0), (2, .int a1)]) (st' := [.int 7, .int a0]) (s' := s) rfl ?_
    refine zCne hf (tgt := 41) rfl (by decide) (fun hc hf => ?_) (fun hc hf => ?_)
    · refine zB zlokM 2 (pc' := 29) (ls' := [(0, .ref 0), (1, .int a0), (2, .int a1)]) (st' := [.int 81, .ref 0]) (s' := s) rfl ?_
      refine zXV hf (As := [.int 81]) (rest := []) 1 zmk_m_begins zok_m_begins zl_1352 rfl rfl rfl rfl (zdr (by omega) rfl) rfl rfl rfl (fun _ e => k_m_begins _ _ _ e) (fun x3 hf => ?_)
      refine zB zlokM 3 (pc' := 35) (ls' := [(0, .ref 0), (1, .int a0), (2, .int a1)]) (st' := [.int a1, .int 4, .ref 0]) (s' := x3) rfl ?_
      refine zXI hf (As := [.int 4, .int a1]) (rest := []) 2 zmk_m_tellsAs zok_m_tellsAs zl_1364 rfl rfl rfl rfl (zdr (by omega) rfl) rfl rfl rfl (fun _ e => hk_m_tellsAs _ _ _ _ e) (fun x4 hf => ?_)
      refine zB zlokM 2 (pc' := 40) (ls' := [(0, .ref 0), (1, .int a0), (2, .int a1)]) (st' := [.int (x4.1 - 1)]) (s' := x4.2) rfl ?_
      exact zRetI hf rfl rfl
    · refine zB zlokM 2 (pc' := 43) (ls' := [(0, .ref 0), (1, .int a0), (2, .int a1)]) (st' := [.int 2, .ref 0]) (s' := s) rfl ?_
      refine zXV hf (As := [.int 2]) (rest := []) 1 zmk_m_begins zok_m_begins zl_1352 rfl rfl rfl rfl (zdr (by omega) rfl) rfl rfl rfl (fun _ e => k_m_begins _ _ _ e) (fun x5 hf => ?_)
      refine zB zlokM 4 (pc' := 52) (ls' := [(0, .ref 0), (1, .int a0), (2, .int a1)]) (st' := [.int a1, .int (x5.1 0 45), .ref 0]) (s' := x5) rfl ?_
      refine zXI hf (As := [.int (x5.1 0 45), .int a1]) (rest := []) 2 zmk_m_sellsAs zok_m_sellsAs zl_1356 rfl rfl rfl rfl (zdr (by omega) rfl) rfl rfl rfl (fun _ e => k_m_sellsAs _ _ _ _ e) (fun x6 hf => ?_)
      refine zB zlokM 6 (pc' := 63) (ls' := [(3, .int x6.1), (0, .ref 0), (1, .int a0), (2, .int a1)]) (st' := [.int 1, .int (x6.2.1 0 45), .ref 0, .int x6.1]) (s' := x6.2) rfl ?_
      refine zXI hf (As := [.int (x6.2.1 0 45), .int 1]) (rest := [.int x6.1]) 2 zmk_m_sharesAs zok_m_sharesAs zl_1360 rfl rfl rfl rfl (zdr (by omega) rfl) rfl rfl rfl (fun _ e => k_m_sharesAs _ _ _ _ e) (fun x7 hf => ?_)
      refine zB zlokM 1 (pc' := 67) (ls' := [(3, .int x6.1), (0, .ref 0), (1, .int a0), (2, .int a1)]) (st' := [.int (x6.1 - x7.1)]) (s' := x7.2) rfl ?_
      exact zRetI hf rfl rfl
theorem K_tl : ∀ n : Nat, ∀ a b s r, F_tl n a b s = some r → zKp zm_m_tellsAs ΛM (n + 90) [.ref 0, .int a, .int b] s (some (.int r.1), r.2)
  | 0 => fun _ _ _ _ h => (by cases h)
  | n + 1 => by
    have h0 := K_tl n
    have e : n + 1 + 90 = n + 90 + 1 := by omega
    rw [e]
    exact fun a b s r h => kb_m_tellsAs _ (by omega) h0 a b s r h
theorem k_m_tellsAs (a0 a1 : Int32) (s : zSt) (r : Int32 × zSt) (hf : f_m_tellsAs a0 a1 s = some r) : zKp zm_m_tellsAs ΛM 110 [.ref 0, .int a0, .int a1] s (some (.int r.1), r.2) := K_tl 20 a0 a1 s r hf
set_option maxRecDepth 20000 in
theorem k_m_act (a0 : Int32) (a1 : Int32) (a2 : Int32) (s : zSt) (r : Int32 × zSt) (hf : f_m_act a0 a1 a2 s = some r) : zKp zm_m_act ΛM 111 [.ref 0, .int a0, .int a1, .int a2] s (some (.int r.1), r.2) := by
  refine zKp_of zmk_m_act rfl ?_
  show zWA _ _ _ _ _ [(0, .ref 0), (1, .int a0), (2, .int a1), (3, .int a2)] _ _
  refine zB zlokM 5 (pc' := 7) (ls' := [(0, .ref 0), (1, .int a0), (2, .int a1), (3, .int a2)]) (st' := [.int a0, .ref 0]) (s' := (zw s 0 44 0)) rfl ?_
  refine zXI hf (As := [.int a0]) (rest := []) 1 zmk_m_isBody zok_m_isBody zl_1344 rfl rfl rfl rfl rfl rfl rfl rfl (fun _ e => k_m_isBody _ _ _ e) (fun x1 hf => ?_)
  refine zIne hf (tgt := 15) rfl (by decide) (fun hc hf => ?_) (fun hc hf => ?_)
  · refine zB zlokM 1 (pc' := 14) (ls' := [(0, .ref 0), (1, .int a0), (2, .int a1), (3, .int a2)]) (st' := [.int 0]) (s' := x1.2) rfl ?_
    exact zRetI hf rfl rfl
  · refine zB zlokM 4 (pc' := 21) (ls' := [(0, .ref 0), (1, .int a0), (2, .int a1), (3, .int a2)]) (st' := [.int a0, .ref 24, .ref 0]) (s' := x1.2) rfl ?_
    refine zIald hf rfl (by rfl) (fun x2 hf => ?_)
    refine zB zlokM 5 (pc' := 31) (ls' := [(0, .ref 0), (1, .int a0), (2, .int a1), (3, .int a2)]) (st' := [.int a1]) (s' := (zw (zw x1.2 0 45 x2) 0 46 a0)) rfl ?_
    refine zIte hf (fun hc hf => ?_) (fun hc hf => ?_)
    · refine zTabOut (tgt := 100) hc rfl (by decide) ?_
      refine zB zlokM 1 (pc' := 101) (ls' := [(0, .ref 0), (1, .int a0), (2, .int a1), (3, .int a2)]) (st' := [.int 0]) (s' := (zw (zw x1.2 0 45 x2) 0 46 a0)) rfl ?_
      exact zRetI hf rfl rfl
    · refine zIte hf (fun hc hf => ?_) (fun hc hf => ?_)
      · refine zTabIn (tgt := 60) 0 hc rfl (by decide) (by decide) rfl (by decide) ?_
        refine zB zlokM 4 (pc' := 66) (ls' := [(0, .ref 0), (1, .int a0), (2, .int a1), (3, .int a2)]) (st' := [.int a2, .int ((zw (zw x1.2 0 45 x2) 0 46 a0).1 0 45), .ref 0]) (s' := (zw (zw x1.2 0 45 x2) 0 46 a0)) rfl ?_
        refine zXI hf (As := [.int ((zw (zw x1.2 0 45 x2) 0 46 a0).1 0 45), .int a2]) (rest := []) 2 zmk_m_makesAs zok_m_makesAs zl_1348 rfl rfl rfl rfl rfl rfl rfl rfl (fun _ e => k_m_makesAs _ _ _ _ e) (fun x3 hf => ?_)
        exact zRetI hf rfl rfl
      · refine zIte hf (fun hc hf => ?_) (fun hc hf => ?_)
        · refine zTabIn (tgt := 70) 1 hc rfl (by decide) (by decide) rfl (by decide) ?_
          refine zB zlokM 4 (pc' := 76) (ls' := [(0, .ref 0), (1, .int a0), (2, .int a1), (3, .int a2)]) (st' := [.int a2, .int ((zw (zw x1.2 0 45 x2) 0 46 a0).1 0 45), .ref 0]) (s' := (zw (zw x1.2 0 45 x2) 0 46 a0)) rfl ?_
          refine zXI hf (As := [.int ((zw (zw x1.2 0 45 x2) 0 46 a0).1 0 45), .int a2]) (rest := []) 2 zmk_m_sellsAs zok_m_sellsAs zl_1356 rfl rfl rfl rfl rfl rfl rfl rfl (fun _ e => k_m_sellsAs _ _ _ _ e) (fun x4 hf => ?_)
          exact zRetI hf rfl rfl
        · refine zIte hf (fun hc hf => ?_) (fun hc hf => ?_)
          · refine zTabIn (tgt := 80) 2 hc rfl (by decide) (by decide) rfl (by decide) ?_
            refine zB zlokM 4 (pc' := 86) (ls' := [(0, .ref 0), (1, .int a0), (2, .int a1), (3, .int a2)]) (st' := [.int a2, .int ((zw (zw x1.2 0 45 x2) 0 46 a0).1 0 45), .ref 0]) (s' := (zw (zw x1.2 0 45 x2) 0 46 a0)) rfl ?_
            refine zXI hf (As := [.int ((zw (zw x1.2 0 45 x2) 0 46 a0).1 0 45), .int a2]) (rest := []) 2 zmk_m_sharesAs zok_m_sharesAs zl_1360 rfl rfl rfl rfl rfl rfl rfl rfl (fun _ e => k_m_sharesAs _ _ _ _ e) (fun x5 hf => ?_)
            exact zRetI hf rfl rfl
          · refine zIte hf (fun hc hf => ?_) (fun hc hf => ?_)
            · refine zTabIn (tgt := 90) 3 hc rfl (by decide) (by decide) rfl (by decide) ?_
              refine zB zlokM 4 (pc' := 96) (ls' := [(0, .ref 0), (1, .int a0), (2, .int a1), (3, .int a2)]) (st' := [.int a2, .int ((zw (zw x1.2 0 45 x2) 0 46 a0).1 0 45), .ref 0]) (s' := (zw (zw x1.2 0 45 x2) 0 46 a0)) rfl ?_
              refine zXI hf (As := [.int ((zw (zw x1.2 0 45 x2) 0 46 a0).1 0 45), .int a2]) (rest := []) 2 zmk_m_tellsAs zok_m_tellsAs zl_1364 rfl rfl rfl rfl rfl rfl rfl rfl (fun _ e => k_m_tellsAs _ _ _ _ e) (fun x6 hf => ?_)
              exact zRetI hf rfl rfl
            · cases hf
set_option maxRecDepth 20000 in
theorem k_m_trace (a0 : Int32) (s : zSt) (r : Int32 × zSt) (hf : f_m_trace a0 s = some r) : zKp zm_m_trace ΛM 0 [.ref 0, .int a0] s (some (.int r.1), r.2) := by
  refine zKp_of zmk_m_trace rfl ?_
  show zWA _ _ _ _ _ [(0, .ref 0), (1, .int a0)] _ _
  refine zB zlokM 1 (pc' := 1) (ls' := [(0, .ref 0), (1, .int a0)]) (st' := [.int a0]) (s' := s) rfl ?_
  refine zIlt hf (tgt := 27) rfl (by decide) (fun hc hf => ?_) (fun hc hf => ?_)
  · refine zB zlokM 1 (pc' := 28) (ls' := [(0, .ref 0), (1, .int a0)]) (st' := [.int (-1)]) (s' := s) rfl ?_
    exact zRetI hf rfl rfl
  · refine zB zlokM 3 (pc' := 9) (ls' := [(0, .ref 0), (1, .int a0)]) (st' := [.int (s.1 0 44), .int a0]) (s' := s) rfl ?_
    refine zCge hf (tgt := 27) rfl (by decide) (fun hc hf => ?_) (fun hc hf => ?_)
    · refine zB zlokM 1 (pc' := 28) (ls' := [(0, .ref 0), (1, .int a0)]) (st' := [.int (-1)]) (s' := s) rfl ?_
      exact zRetI hf rfl rfl
    · refine zB zlokM 2 (pc' := 15) (ls' := [(0, .ref 0), (1, .int a0)]) (st' := [.int 24, .int a0]) (s' := s) rfl ?_
      refine zCge hf (tgt := 27) rfl (by decide) (fun hc hf => ?_) (fun hc hf => ?_)
      · refine zB zlokM 1 (pc' := 28) (ls' := [(0, .ref 0), (1, .int a0)]) (st' := [.int (-1)]) (s' := s) rfl ?_
        exact zRetI hf rfl rfl
      · refine zB zlokM 3 (pc' := 23) (ls' := [(0, .ref 0), (1, .int a0)]) (st' := [.int a0, .ref 25]) (s' := s) rfl ?_
        refine zIald hf rfl (by rfl) (fun x1 hf => ?_)
        refine zGoto (tgt := 28) rfl (by decide) ?_
        exact zRetI hf rfl rfl
set_option maxRecDepth 20000 in
theorem c_f_m_keep_22 {r : Int32 × zSt} : ∀ (v1 : Int32) (v2 : Int32) (s : zSt), f_m_keep_22 v1 v2 s = some r → zWA zm_m_keep ΛM 2 (some (.int r.1), r.2) 22 [(0, .ref 0), (1, .int v1), (2, .int v2)] [] s := by
  intro v1 v2 s hf
  refine zB zlokM 4 (pc' := 28) (ls' := [(0, .ref 0), (1, .int v1), (2, .int v2)]) (st' := [.int v2, .int v1, .ref 26]) (s' := s) rfl ?_
  refine zIast hf rfl (by rfl) (fun s3 hf => ?_)
  refine zB zlokM 4 (pc' := 35) (ls' := [(0, .ref 0), (1, .int v1), (2, .int v2)]) (st' := [.int 0, .int v1, .ref 27]) (s' := s3) rfl ?_
  refine zIast hf rfl (by rfl) (fun s4 hf => ?_)
  refine zB zlokM 1 (pc' := 37) (ls' := [(0, .ref 0), (1, .int v1), (2, .int v2)]) (st' := [.int 1]) (s' := s4) rfl ?_
  exact zRetI hf rfl rfl
set_option maxRecDepth 20000 in
theorem k_m_keep (a0 : Int32) (a1 : Int32) (s : zSt) (r : Int32 × zSt) (hf : f_m_keep a0 a1 s = some r) : zKp zm_m_keep ΛM 2 [.ref 0, .int a0, .int a1] s (some (.int r.1), r.2) := by
  refine zKp_of zmk_m_keep rfl ?_
  show zWA _ _ _ _ _ [(0, .ref 0), (1, .int a0), (2, .int a1)] _ _
  refine zB zlokM 1 (pc' := 1) (ls' := [(0, .ref 0), (1, .int a0), (2, .int a1)]) (st' := [.int a0]) (s' := s) rfl ?_
  refine zSI hf (As := [.int a0]) (rest := []) 1 zmk_m_isShelf zok_m_isShelf zl_1080 rfl rfl rfl rfl rfl (fun _ e => k_m_isShelf _ _ _ e) (fun x1 hf => ?_)
  refine zIeq hf (tgt := 20) rfl (by decide) (fun hc hf => ?_) (fun hc hf => ?_)
  · refine zB zlokM 1 (pc' := 21) (ls' := [(0, .ref 0), (1, .int a0), (2, .int a1)]) (st' := [.int (-1)]) (s' := x1.2) rfl ?_
    exact zRetI hf rfl rfl
  · refine zB zlokM 2 (pc' := 9) (ls' := [(0, .ref 0), (1, .int a0), (2, .int a1)]) (st' := [.int (-1), .int a1]) (s' := x1.2) rfl ?_
    refine zCeq hf (tgt := 22) rfl (by decide) (fun hc hf => ?_) (fun hc hf => ?_)
    · refine zLoc [0, 1, 2] rfl ?_
      exact c_f_m_keep_22 _ _ _ hf
    · refine zB zlokM 2 (pc' := 14) (ls' := [(0, .ref 0), (1, .int a0), (2, .int a1)]) (st' := [.int a1, .ref 0]) (s' := x1.2) rfl ?_
      refine zXI hf (As := [.int a1]) (rest := []) 1 zmk_m_isBody zok_m_isBody zl_1344 rfl rfl rfl rfl rfl rfl rfl rfl (fun _ e => k_m_isBody _ _ _ e) (fun x2 hf => ?_)
      refine zIne hf (tgt := 22) rfl (by decide) (fun hc hf => ?_) (fun hc hf => ?_)
      · refine zB zlokM 1 (pc' := 21) (ls' := [(0, .ref 0), (1, .int a0), (2, .int a1)]) (st' := [.int (-1)]) (s' := x2.2) rfl ?_
        exact zRetI hf rfl rfl
      · refine zLoc [0, 1, 2] rfl ?_
        exact c_f_m_keep_22 _ _ _ hf
set_option maxRecDepth 20000 in
theorem c_f_m_row_57 {r : Int32 × zSt} : ∀ (n : Nat) (v1 : Int32) (v4 : Int32) (s : zSt), f_m_row_57 n v1 v4 s = some r → zWA zm_m_row ΛM 2 (some (.int r.1), r.2) 57 [(0, .ref 0), (1, .int v1), (4, .int v4)] [] s := by
  intro n
  induction n with
  | zero => intro v1 v4 s hf; cases hf
  | succ n ih =>
    intro v1 v4 s hf
    refine zB zlokM 6 (pc' := 66) (ls' := [(0, .ref 0), (1, .int v1), (4, .int v4)]) (st' := [.int ((60 * v1) + 60), .int v4]) (s' := s) rfl ?_
    refine zCge hf (tgt := 83) rfl (by decide) (fun hc hf => ?_) (fun hc hf => ?_)
    · refine zB zlokM 1 (pc' := 84) (ls' := [(0, .ref 0), (1, .int v1), (4, .int v4)]) (st' := [.int 1]) (s' := s) rfl ?_
      exact zRetI hf rfl rfl
    · refine zB zlokM 4 (pc' := 76) (ls' := [(0, .ref 0), (1, .int v1), (4, .int v4)]) (st' := [.long 0, .int v4, .ref 28]) (s' := s) rfl ?_
      refine zLast hf rfl (by rfl) (fun s5 hf => ?_)
      refine zB zlokM 1 (pc' := 80) (ls' := [(4, .int (v4 + 1)), (0, .ref 0), (1, .int v1)]) (st' := []) (s' := s5) rfl ?_
      refine zGoto (tgt := 57) rfl (by decide) ?_
      refine zLoc [1, 2, 0] rfl ?_
      exact ih _ _ _ hf
set_option maxRecDepth 20000 in
theorem k_m_row (a0 : Int32) (a1 : Int32) (a2 : Int32) (s : zSt) (r : Int32 × zSt) (hf : f_m_row a0 a1 a2 s = some r) : zKp zm_m_row ΛM 2 [.ref 0, .int a0, .int a1, .int a2] s (some (.int r.1), r.2) := by
  refine zKp_of zmk_m_row rfl ?_
  show zWA _ _ _ _ _ [(0, .ref 0), (1, .int a0), (2, .int a1), (3, .int a2)] _ _
  refine zB zlokM 1 (pc' := 1) (ls' := [(0, .ref 0), (1, .int a0), (2, .int a1), (3, .int a2)]) (st' := [.int a0]) (s' := s) rfl ?_
  refine zSI hf (As := [.int a0]) (rest := []) 1 zmk_m_isShelf zok_m_isShelf zl_1080 rfl rfl rfl rfl rfl (fun _ e => k_m_isShelf _ _ _ e) (fun x1 hf => ?_)
  refine zIeq hf (tgt := 25) rfl (by decide) (fun hc hf => ?_) (fun hc hf => ?_)
  · refine zB zlokM 1 (pc' := 26) (ls' := [(0, .ref 0), (1, .int a0), (2, .int a1), (3, .int a2)]) (st' := [.int (-1)]) (s' := x1.2) rfl ?_
    exact zRetI hf rfl rfl
  · refine zB zlokM 4 (pc' := 13) (ls' := [(0, .ref 0), (1, .int a0), (2, .int a1), (3, .int a2)]) (st' := [.long 4, .long 0, .long (a1 : Int32).toInt64]) (s' := x1.2) rfl ?_
    refine zSI hf (As := [.long (a1 : Int32).toInt64, .long 0, .long 4]) (rest := []) 3 zmk_m_within zok_m_within zl_1072 rfl rfl rfl rfl rfl (fun _ e => k_m_within _ _ _ _ _ e) (fun x2 hf => ?_)
    refine zIeq hf (tgt := 25) rfl (by decide) (fun hc hf => ?_) (fun hc hf => ?_)
    · refine zB zlokM 1 (pc' := 26) (ls' := [(0, .ref 0), (1, .int a0), (2, .int a1), (3, .int a2)]) (st' := [.int (-1)]) (s' := x2.2) rfl ?_
      exact zRetI hf rfl rfl
    · refine zB zlokM 2 (pc' := 22) (ls' := [(0, .ref 0), (1, .int a0), (2, .int a1), (3, .int a2)]) (st' := [.int 60, .int a2]) (s' := x2.2) rfl ?_
      refine zCle hf (tgt := 27) rfl (by decide) (fun hc hf => ?_) (fun hc hf => ?_)
      · refine zB zlokM 1 (pc' := 28) (ls' := [(0, .ref 0), (1, .int a0), (2, .int a1), (3, .int a2)]) (st' := [.int a2]) (s' := x2.2) rfl ?_
        refine zIge hf (tgt := 34) rfl (by decide) (fun hc hf => ?_) (fun hc hf => ?_)
        · refine zB zlokM 6 (pc' := 43) (ls' := [(0, .ref 0), (1, .int a0), (2, .int a1), (3, .int a2)]) (st' := [.int (50 + a1), .int a0, .ref 26]) (s' := x2.2) rfl ?_
          refine zIast hf rfl (by rfl) (fun s3 hf => ?_)
          refine zB zlokM 4 (pc' := 50) (ls' := [(0, .ref 0), (1, .int a0), (2, .int a1), (3, .int a2)]) (st' := [.int a2, .int a0, .ref 27]) (s' := s3) rfl ?_
          refine zIast hf rfl (by rfl) (fun s4 hf => ?_)
          refine zB zlokM 4 (pc' := 57) (ls' := [(4, .int (60 * a0)), (0, .ref 0), (1, .int a0), (2, .int a1), (3, .int a2)]) (st' := []) (s' := s4) rfl ?_
          refine zLoc [1, 2, 0] rfl ?_
          exact c_f_m_row_57 zFu _ _ _ hf
        · refine zB zlokM 1 (pc' := 33) (ls' := [(0, .ref 0), (1, .int a0), (2, .int a1), (3, .int a2)]) (st' := [.int (-14)]) (s' := x2.2) rfl ?_
          exact zRetI hf rfl rfl
      · refine zB zlokM 1 (pc' := 26) (ls' := [(0, .ref 0), (1, .int a0), (2, .int a1), (3, .int a2)]) (st' := [.int (-1)]) (s' := x2.2) rfl ?_
        exact zRetI hf rfl rfl
set_option maxRecDepth 20000 in
theorem k_m_refusal (a0 : Int32) (a1 : Int32) (s : zSt) (r : Int32 × zSt) (hf : f_m_refusal a0 a1 s = some r) : zKp zm_m_refusal ΛM 2 [.ref 0, .int a0, .int a1] s (some (.int r.1), r.2) := by
  refine zKp_of zmk_m_refusal rfl ?_
  show zWA _ _ _ _ _ [(0, .ref 0), (1, .int a0), (2, .int a1)] _ _
  refine zB zlokM 1 (pc' := 1) (ls' := [(0, .ref 0), (1, .int a0), (2, .int a1)]) (st' := [.int a0]) (s' := s) rfl ?_
  refine zSI hf (As := [.int a0]) (rest := []) 1 zmk_m_isShelf zok_m_isShelf zl_1080 rfl rfl rfl rfl rfl (fun _ e => k_m_isShelf _ _ _ e) (fun x1 hf => ?_)
  refine zIne hf (tgt := 9) rfl (by decide) (fun hc hf => ?_) (fun hc hf => ?_)
  · refine zB zlokM 1 (pc' := 8) (ls' := [(0, .ref 0), (1, .int a0), (2, .int a1)]) (st' := [.int (-1)]) (s' := x1.2) rfl ?_
    exact zRetI hf rfl rfl
  · refine zB zlokM 3 (pc' := 14) (ls' := [(0, .ref 0), (1, .int a0), (2, .int a1)]) (st' := [.int a0, .ref 26]) (s' := x1.2) rfl ?_
    refine zIald hf rfl (by rfl) (fun x2 hf => ?_)
    refine zIge hf (tgt := 21) rfl (by decide) (fun hc hf => ?_) (fun hc hf => ?_)
    · refine zB zlokM 3 (pc' := 26) (ls' := [(0, .ref 0), (1, .int a0), (2, .int a1)]) (st' := [.int a0, .ref 26]) (s' := x1.2) rfl ?_
      refine zIald hf rfl (by rfl) (fun x3 hf => ?_)
      refine zB zlokM 1 (pc' := 29) (ls' := [(0, .ref 0), (1, .int a0), (2, .int a1)]) (st' := [.int 50, .int x3]) (s' := x1.2) rfl ?_
      refine zCge hf (tgt := 35) rfl (by decide) (fun hc hf => ?_) (fun hc hf => ?_)
      · refine zB zlokM 1 (pc' := 36) (ls' := [(0, .ref 0), (1, .int a0), (2, .int a1)]) (st' := [.int a1]) (s' := x1.2) rfl ?_
        refine zIlt hf (tgt := 53) rfl (by decide) (fun hc hf => ?_) (fun hc hf => ?_)
        · refine zB zlokM 1 (pc' := 55) (ls' := [(0, .ref 0), (1, .int a0), (2, .int a1)]) (st' := [.int (-13)]) (s' := x1.2) rfl ?_
          exact zRetI hf rfl rfl
        · refine zB zlokM 4 (pc' := 45) (ls' := [(0, .ref 0), (1, .int a0), (2, .int a1)]) (st' := [.int a0, .ref 27, .int a1]) (s' := x1.2) rfl ?_
          refine zIald hf rfl (by rfl) (fun x4 hf => ?_)
          refine zCge hf (tgt := 53) rfl (by decide) (fun hc hf => ?_) (fun hc hf => ?_)
          · refine zB zlokM 1 (pc' := 55) (ls' := [(0, .ref 0), (1, .int a0), (2, .int a1)]) (st' := [.int (-13)]) (s' := x1.2) rfl ?_
            exact zRetI hf rfl rfl
          · refine zB zlokM 1 (pc' := 50) (ls' := [(0, .ref 0), (1, .int a0), (2, .int a1)]) (st' := [.int 0]) (s' := x1.2) rfl ?_
            refine zGoto (tgt := 55) rfl (by decide) ?_
            exact zRetI hf rfl rfl
      · refine zB zlokM 1 (pc' := 34) (ls' := [(0, .ref 0), (1, .int a0), (2, .int a1)]) (st' := [.int (-12)]) (s' := x1.2) rfl ?_
        exact zRetI hf rfl rfl
    · refine zB zlokM 1 (pc' := 20) (ls' := [(0, .ref 0), (1, .int a0), (2, .int a1)]) (st' := [.int (-11)]) (s' := x1.2) rfl ?_
      exact zRetI hf rfl rfl
set_option maxRecDepth 20000 in
theorem k_m_asSort (a0 : Int32) (a1 : Int64) (s : zSt) (r : Int64 × zSt) (hf : f_m_asSort a0 a1 s = some r) : zKp zm_m_asSort ΛM 0 [.int a0, .long a1] s (some (.long r.1), r.2) := by
  refine zKp_of zmk_m_asSort rfl ?_
  show zWA _ _ _ _ _ [(0, .int a0), (1, .long a1)] _ _
  refine zB zlokM 1 (pc' := 1) (ls' := [(0, .int a0), (1, .long a1)]) (st' := [.int a0]) (s' := s) rfl ?_
  refine zIne hf (tgt := 11) rfl (by decide) (fun hc hf => ?_) (fun hc hf => ?_)
  · refine zB zlokM 4 (pc' := 8) (ls' := [(0, .int a0), (1, .long a1)]) (st' := [.long (((a1 : Int64).toInt32).toInt8.toInt32 : Int32).toInt64]) (s' := s) rfl ?_
    refine zGoto (tgt := 54) rfl (by decide) ?_
    exact zRetL hf rfl rfl
  · refine zB zlokM 2 (pc' := 13) (ls' := [(0, .int a0), (1, .long a1)]) (st' := [.int 1, .int a0]) (s' := s) rfl ?_
    refine zCne hf (tgt := 23) rfl (by decide) (fun hc hf => ?_) (fun hc hf => ?_)
    · refine zB zlokM 4 (pc' := 20) (ls' := [(0, .int a0), (1, .long a1)]) (st' := [.long (((a1 : Int64).toInt32).toInt16.toInt32 : Int32).toInt64]) (s' := s) rfl ?_
      refine zGoto (tgt := 54) rfl (by decide) ?_
      exact zRetL hf rfl rfl
    · refine zB zlokM 2 (pc' := 25) (ls' := [(0, .int a0), (1, .long a1)]) (st' := [.int 2, .int a0]) (s' := s) rfl ?_
      refine zCne hf (tgt := 34) rfl (by decide) (fun hc hf => ?_) (fun hc hf => ?_)
      · refine zB zlokM 3 (pc' := 31) (ls' := [(0, .int a0), (1, .long a1)]) (st' := [.long ((a1 : Int64).toInt32 : Int32).toInt64]) (s' := s) rfl ?_
        refine zGoto (tgt := 54) rfl (by decide) ?_
        exact zRetL hf rfl rfl
      · refine zB zlokM 2 (pc' := 36) (ls' := [(0, .int a0), (1, .long a1)]) (st' := [.int 4, .int a0]) (s' := s) rfl ?_
        refine zCne hf (tgt := 53) rfl (by decide) (fun hc hf => ?_) (fun hc hf => ?_)
        · refine zB zlokM 3 (pc' := 42) (ls' := [(0, .int a0), (1, .long a1)]) (st' := [.int (lg_cmp a1 0)]) (s' := s) rfl ?_
          refine zIeq hf (tgt := 49) rfl (by decide) (fun hc hf => ?_) (fun hc hf => ?_)
          · refine zB zlokM 1 (pc' := 50) (ls' := [(0, .int a0), (1, .long a1)]) (st' := [.long 0]) (s' := s) rfl ?_
            refine zGoto (tgt := 54) rfl (by decide) ?_
            exact zRetL hf rfl rfl
          · refine zB zlokM 1 (pc' := 46) (ls' := [(0, .int a0), (1, .long a1)]) (st' := [.long 1]) (s' := s) rfl ?_
            refine zGoto (tgt := 54) rfl (by decide) ?_
            exact zRetL hf rfl rfl
        · refine zB zlokM 1 (pc' := 54) (ls' := [(0, .int a0), (1, .long a1)]) (st' := [.long a1]) (s' := s) rfl ?_
          exact zRetL hf rfl rfl
set_option maxRecDepth 20000 in
theorem k_m_put (a0 : Int32) (a1 : Int32) (a2 : Int64) (s : zSt) (r : Int32 × zSt) (hf : f_m_put a0 a1 a2 s = some r) : zKp zm_m_put ΛM 3 [.ref 0, .int a0, .int a1, .long a2] s (some (.int r.1), r.2) := by
  refine zKp_of zmk_m_put rfl ?_
  show zWA _ _ _ _ _ [(0, .ref 0), (1, .int a0), (2, .int a1), (3, .long a2)] _ _
  refine zB zlokM 3 (pc' := 3) (ls' := [(0, .ref 0), (1, .int a0), (2, .int a1), (3, .long a2)]) (st' := [.int a1, .int a0, .ref 0]) (s' := s) rfl ?_
  refine zXI hf (As := [.int a0, .int a1]) (rest := []) 2 zmk_m_refusal zok_m_refusal zl_1385 rfl rfl rfl rfl rfl rfl rfl rfl (fun _ e => k_m_refusal _ _ _ _ e) (fun x1 hf => ?_)
  refine zB zlokM 2 (pc' := 10) (ls' := [(5, .int x1.1), (0, .ref 0), (1, .int a0), (2, .int a1), (3, .long a2)]) (st' := [.int x1.1]) (s' := x1.2) rfl ?_
  refine zIne hf (tgt := 37) rfl (by decide) (fun hc hf => ?_) (fun hc hf => ?_)
  · refine zB zlokM 10 (pc' := 28) (ls' := [(5, .int x1.1), (0, .ref 0), (1, .int a0), (2, .int a1), (3, .long a2)]) (st' := [.int a0, .ref 26, .int ((60 * a0) + a1), .ref 28]) (s' := x1.2) rfl ?_
    refine zIald hf rfl (by rfl) (fun x2 hf => ?_)
    refine zB zlokM 3 (pc' := 33) (ls' := [(5, .int x1.1), (0, .ref 0), (1, .int a0), (2, .int a1), (3, .long a2)]) (st' := [.long a2, .int (x2 - 50), .int ((60 * a0) + a1), .ref 28]) (s' := x1.2) rfl ?_
    refine zSL hf (As := [.int (x2 - 50), .long a2]) (rest := [.int ((60 * a0) + a1), .ref 28]) 2 zmk_m_asSort zok_m_asSort zl_1389 rfl rfl rfl rfl rfl (fun _ e => k_m_asSort _ _ _ _ e) (fun x3 hf => ?_)
    refine zLast hf rfl (by rfl) (fun s4 hf => ?_)
    refine zB zlokM 1 (pc' := 39) (ls' := [(5, .int x1.1), (0, .ref 0), (1, .int a0), (2, .int a1), (3, .long a2)]) (st' := [.int x1.1]) (s' := s4) rfl ?_
    refine zIne hf (tgt := 46) rfl (by decide) (fun hc hf => ?_) (fun hc hf => ?_)
    · refine zB zlokM 1 (pc' := 43) (ls' := [(5, .int x1.1), (0, .ref 0), (1, .int a0), (2, .int a1), (3, .long a2)]) (st' := [.int 1]) (s' := s4) rfl ?_
      refine zGoto (tgt := 48) rfl (by decide) ?_
      exact zRetI hf rfl rfl
    · refine zB zlokM 1 (pc' := 48) (ls' := [(5, .int x1.1), (0, .ref 0), (1, .int a0), (2, .int a1), (3, .long a2)]) (st' := [.int x1.1]) (s' := s4) rfl ?_
      exact zRetI hf rfl rfl
  · refine zB zlokM 1 (pc' := 39) (ls' := [(5, .int x1.1), (0, .ref 0), (1, .int a0), (2, .int a1), (3, .long a2)]) (st' := [.int x1.1]) (s' := x1.2) rfl ?_
    refine zIne hf (tgt := 46) rfl (by decide) (fun hc hf => ?_) (fun hc hf => ?_)
    · refine zB zlokM 1 (pc' := 43) (ls' := [(5, .int x1.1), (0, .ref 0), (1, .int a0), (2, .int a1), (3, .long a2)]) (st' := [.int 1]) (s' := x1.2) rfl ?_
      refine zGoto (tgt := 48) rfl (by decide) ?_
      exact zRetI hf rfl rfl
    · refine zB zlokM 1 (pc' := 48) (ls' := [(5, .int x1.1), (0, .ref 0), (1, .int a0), (2, .int a1), (3, .long a2)]) (st' := [.int x1.1]) (s' := x1.2) rfl ?_
      exact zRetI hf rfl rfl
set_option maxRecDepth 20000 in
theorem k_m_element (a0 : Int32) (a1 : Int32) (s : zSt) (r : Int64 × zSt) (hf : f_m_element a0 a1 s = some r) : zKp zm_m_element ΛM 3 [.ref 0, .int a0, .int a1] s (some (.long r.1), r.2) := by
  refine zKp_of zmk_m_element rfl ?_
  show zWA _ _ _ _ _ [(0, .ref 0), (1, .int a0), (2, .int a1)] _ _
  refine zB zlokM 3 (pc' := 3) (ls' := [(0, .ref 0), (1, .int a0), (2, .int a1)]) (st' := [.int a1, .int a0, .ref 0]) (s' := s) rfl ?_
  refine zXI hf (As := [.int a0, .int a1]) (rest := []) 2 zmk_m_refusal zok_m_refusal zl_1385 rfl rfl rfl rfl rfl rfl rfl rfl (fun _ e => k_m_refusal _ _ _ _ e) (fun x1 hf => ?_)
  refine zIeq hf (tgt := 15) rfl (by decide) (fun hc hf => ?_) (fun hc hf => ?_)
  · refine zB zlokM 7 (pc' := 25) (ls' := [(0, .ref 0), (1, .int a0), (2, .int a1)]) (st' := [.int ((60 * a0) + a1), .ref 28]) (s' := x1.2) rfl ?_
    refine zLald hf rfl (by rfl) (fun x2 hf => ?_)
    exact zRetL hf rfl rfl
  · refine zB zlokM 1 (pc' := 12) (ls' := [(0, .ref 0), (1, .int a0), (2, .int a1)]) (st' := [.long (-9223372036854775808)]) (s' := x1.2) rfl ?_
    refine zGoto (tgt := 26) rfl (by decide) ?_
    exact zRetL hf rfl rfl
set_option maxRecDepth 20000 in
theorem c_f_m_shift_150 {r : Int32 × zSt} : ∀ (n : Nat) (v3 : Int32) (v4 : Int32) (v5 : Int32) (v6 : Int32) (s : zSt), f_m_shift_150 n v3 v4 v5 v6 s = some r → zWA zm_m_shift ΛM 2 (some (.int r.1), r.2) 150 [(0, .ref 0), (3, .int v3), (4, .int v4), (5, .int v5), (6, .int v6)] [] s := by
  intro n
  induction n with
  | zero => intro v3 v4 v5 v6 s hf; cases hf
  | succ n ih =>
    intro v3 v4 v5 v6 s hf
    refine zB zlokM 2 (pc' := 154) (ls' := [(0, .ref 0), (3, .int v3), (4, .int v4), (5, .int v5), (6, .int v6)]) (st' := [.int v5, .int v6]) (s' := s) rfl ?_
    refine zCge hf (tgt := 185) rfl (by decide) (fun hc hf => ?_) (fun hc hf => ?_)
    · refine zB zlokM 1 (pc' := 187) (ls' := [(0, .ref 0), (3, .int v3), (4, .int v4), (5, .int v5), (6, .int v6)]) (st' := [.int v5]) (s' := s) rfl ?_
      exact zRetI hf rfl rfl
    · refine zB zlokM 12 (pc' := 177) (ls' := [(0, .ref 0), (3, .int v3), (4, .int v4), (5, .int v5), (6, .int v6)]) (st' := [.int v6, .ref 29, .int (((60 * v3) + v4) + v6), .ref 28]) (s' := s) rfl ?_
      refine zLald hf rfl (by rfl) (fun x12 hf => ?_)
      refine zLast hf rfl (by rfl) (fun s13 hf => ?_)
      refine zB zlokM 1 (pc' := 182) (ls' := [(6, .int (v6 + 1)), (0, .ref 0), (3, .int v3), (4, .int v4), (5, .int v5)]) (st' := []) (s' := s13) rfl ?_
      refine zGoto (tgt := 150) rfl (by decide) ?_
      refine zLoc [1, 2, 3, 4, 0] rfl ?_
      exact ih _ _ _ _ _ hf
set_option maxRecDepth 20000 in
theorem c_f_m_shift_113 {r : Int32 × zSt} : ∀ (n : Nat) (v1 : Int32) (v2 : Int32) (v3 : Int32) (v4 : Int32) (v5 : Int32) (v6 : Int32) (s : zSt), f_m_shift_113 n v1 v2 v3 v4 v5 v6 s = some r → zWA zm_m_shift ΛM 2 (some (.int r.1), r.2) 113 [(0, .ref 0), (1, .int v1), (2, .int v2), (3, .int v3), (4, .int v4), (5, .int v5), (6, .int v6)] [] s := by
  intro n
  induction n with
  | zero => intro v1 v2 v3 v4 v5 v6 s hf; cases hf
  | succ n ih =>
    intro v1 v2 v3 v4 v5 v6 s hf
    refine zB zlokM 2 (pc' := 117) (ls' := [(0, .ref 0), (1, .int v1), (2, .int v2), (3, .int v3), (4, .int v4), (5, .int v5), (6, .int v6)]) (st' := [.int v5, .int v6]) (s' := s) rfl ?_
    refine zCge hf (tgt := 147) rfl (by decide) (fun hc hf => ?_) (fun hc hf => ?_)
    · refine zB zlokM 2 (pc' := 150) (ls' := [(6, .int 0), (0, .ref 0), (1, .int v1), (2, .int v2), (3, .int v3), (4, .int v4), (5, .int v5)]) (st' := []) (s' := s) rfl ?_
      refine zLoc [1, 4, 5, 6, 0] rfl ?_
      exact c_f_m_shift_150 zFu _ _ _ _ _ hf
    · refine zB zlokM 12 (pc' := 139) (ls' := [(0, .ref 0), (1, .int v1), (2, .int v2), (3, .int v3), (4, .int v4), (5, .int v5), (6, .int v6)]) (st' := [.int (((60 * v1) + v2) + v6), .ref 28, .int v6, .ref 29]) (s' := s) rfl ?_
      refine zLald hf rfl (by rfl) (fun x10 hf => ?_)
      refine zLast hf rfl (by rfl) (fun s11 hf => ?_)
      refine zB zlokM 1 (pc' := 144) (ls' := [(6, .int (v6 + 1)), (0, .ref 0), (1, .int v1), (2, .int v2), (3, .int v3), (4, .int v4), (5, .int v5)]) (st' := []) (s' := s11) rfl ?_
      refine zGoto (tgt := 113) rfl (by decide) ?_
      refine zLoc [1, 2, 3, 4, 5, 6, 0] rfl ?_
      exact ih _ _ _ _ _ _ _ hf
set_option maxRecDepth 20000 in
theorem k_m_shift (a0 : Int32) (a1 : Int32) (a2 : Int32) (a3 : Int32) (a4 : Int32) (s : zSt) (r : Int32 × zSt) (hf : f_m_shift a0 a1 a2 a3 a4 s = some r) : zKp zm_m_shift ΛM 2 [.ref 0, .int a0, .int a1, .int a2, .int a3, .int a4] s (some (.int r.1), r.2) := by
  refine zKp_of zmk_m_shift rfl ?_
  show zWA _ _ _ _ _ [(0, .ref 0), (1, .int a0), (2, .int a1), (3, .int a2), (4, .int a3), (5, .int a4)] _ _
  refine zB zlokM 1 (pc' := 1) (ls' := [(0, .ref 0), (1, .int a0), (2, .int a1), (3, .int a2), (4, .int a3), (5, .int a4)]) (st' := [.int a0]) (s' := s) rfl ?_
  refine zSI hf (As := [.int a0]) (rest := []) 1 zmk_m_isShelf zok_m_isShelf zl_1080 rfl rfl rfl rfl rfl (fun _ e => k_m_isShelf _ _ _ e) (fun x1 hf => ?_)
  refine zIeq hf (tgt := 14) rfl (by decide) (fun hc hf => ?_) (fun hc hf => ?_)
  · refine zB zlokM 1 (pc' := 15) (ls' := [(0, .ref 0), (1, .int a0), (2, .int a1), (3, .int a2), (4, .int a3), (5, .int a4)]) (st' := [.int (-1)]) (s' := x1.2) rfl ?_
    exact zRetI hf rfl rfl
  · refine zB zlokM 1 (pc' := 8) (ls' := [(0, .ref 0), (1, .int a0), (2, .int a1), (3, .int a2), (4, .int a3), (5, .int a4)]) (st' := [.int a2]) (s' := x1.2) rfl ?_
    refine zSI hf (As := [.int a2]) (rest := []) 1 zmk_m_isShelf zok_m_isShelf zl_1080 rfl rfl rfl rfl rfl (fun _ e => k_m_isShelf _ _ _ e) (fun x2 hf => ?_)
    refine zIne hf (tgt := 16) rfl (by decide) (fun hc hf => ?_) (fun hc hf => ?_)
    · refine zB zlokM 1 (pc' := 15) (ls' := [(0, .ref 0), (1, .int a0), (2, .int a1), (3, .int a2), (4, .int a3), (5, .int a4)]) (st' := [.int (-1)]) (s' := x2.2) rfl ?_
      exact zRetI hf rfl rfl
    · refine zB zlokM 3 (pc' := 21) (ls' := [(0, .ref 0), (1, .int a0), (2, .int a1), (3, .int a2), (4, .int a3), (5, .int a4)]) (st' := [.int a0, .ref 26]) (s' := x2.2) rfl ?_
      refine zIald hf rfl (by rfl) (fun x3 hf => ?_)
      refine zIlt hf (tgt := 34) rfl (by decide) (fun hc hf => ?_) (fun hc hf => ?_)
      · refine zB zlokM 1 (pc' := 36) (ls' := [(0, .ref 0), (1, .int a0), (2, .int a1), (3, .int a2), (4, .int a3), (5, .int a4)]) (st' := [.int (-11)]) (s' := x2.2) rfl ?_
        exact zRetI hf rfl rfl
      · refine zB zlokM 3 (pc' := 30) (ls' := [(0, .ref 0), (1, .int a0), (2, .int a1), (3, .int a2), (4, .int a3), (5, .int a4)]) (st' := [.int a2, .ref 26]) (s' := x2.2) rfl ?_
        refine zIald hf rfl (by rfl) (fun x4 hf => ?_)
        refine zIge hf (tgt := 37) rfl (by decide) (fun hc hf => ?_) (fun hc hf => ?_)
        · refine zB zlokM 3 (pc' := 42) (ls' := [(0, .ref 0), (1, .int a0), (2, .int a1), (3, .int a2), (4, .int a3), (5, .int a4)]) (st' := [.int a0, .ref 26]) (s' := x2.2) rfl ?_
          refine zIald hf rfl (by rfl) (fun x5 hf => ?_)
          refine zB zlokM 1 (pc' := 45) (ls' := [(0, .ref 0), (1, .int a0), (2, .int a1), (3, .int a2), (4, .int a3), (5, .int a4)]) (st' := [.int 50, .int x5]) (s' := x2.2) rfl ?_
          refine zClt hf (tgt := 63) rfl (by decide) (fun hc hf => ?_) (fun hc hf => ?_)
          · refine zB zlokM 1 (pc' := 65) (ls' := [(0, .ref 0), (1, .int a0), (2, .int a1), (3, .int a2), (4, .int a3), (5, .int a4)]) (st' := [.int (-12)]) (s' := x2.2) rfl ?_
            exact zRetI hf rfl rfl
          · refine zB zlokM 3 (pc' := 53) (ls' := [(0, .ref 0), (1, .int a0), (2, .int a1), (3, .int a2), (4, .int a3), (5, .int a4)]) (st' := [.int a0, .ref 26]) (s' := x2.2) rfl ?_
            refine zIald hf rfl (by rfl) (fun x6 hf => ?_)
            refine zB zlokM 3 (pc' := 59) (ls' := [(0, .ref 0), (1, .int a0), (2, .int a1), (3, .int a2), (4, .int a3), (5, .int a4)]) (st' := [.int a2, .ref 26, .int x6]) (s' := x2.2) rfl ?_
            refine zIald hf rfl (by rfl) (fun x7 hf => ?_)
            refine zCeq hf (tgt := 66) rfl (by decide) (fun hc hf => ?_) (fun hc hf => ?_)
            · refine zB zlokM 1 (pc' := 68) (ls' := [(0, .ref 0), (1, .int a0), (2, .int a1), (3, .int a2), (4, .int a3), (5, .int a4)]) (st' := [.int a4]) (s' := x2.2) rfl ?_
              refine zIlt hf (tgt := 107) rfl (by decide) (fun hc hf => ?_) (fun hc hf => ?_)
              · refine zB zlokM 1 (pc' := 109) (ls' := [(0, .ref 0), (1, .int a0), (2, .int a1), (3, .int a2), (4, .int a3), (5, .int a4)]) (st' := [.int (-13)]) (s' := x2.2) rfl ?_
                exact zRetI hf rfl rfl
              · refine zB zlokM 1 (pc' := 72) (ls' := [(0, .ref 0), (1, .int a0), (2, .int a1), (3, .int a2), (4, .int a3), (5, .int a4)]) (st' := [.int a1]) (s' := x2.2) rfl ?_
                refine zIlt hf (tgt := 107) rfl (by decide) (fun hc hf => ?_) (fun hc hf => ?_)
                · refine zB zlokM 1 (pc' := 109) (ls' := [(0, .ref 0), (1, .int a0), (2, .int a1), (3, .int a2), (4, .int a3), (5, .int a4)]) (st' := [.int (-13)]) (s' := x2.2) rfl ?_
                  exact zRetI hf rfl rfl
                · refine zB zlokM 1 (pc' := 77) (ls' := [(0, .ref 0), (1, .int a0), (2, .int a1), (3, .int a2), (4, .int a3), (5, .int a4)]) (st' := [.int a3]) (s' := x2.2) rfl ?_
                  refine zIlt hf (tgt := 107) rfl (by decide) (fun hc hf => ?_) (fun hc hf => ?_)
                  · refine zB zlokM 1 (pc' := 109) (ls' := [(0, .ref 0), (1, .int a0), (2, .int a1), (3, .int a2), (4, .int a3), (5, .int a4)]) (st' := [.int (-13)]) (s' := x2.2) rfl ?_
                    exact zRetI hf rfl rfl
                  · refine zB zlokM 4 (pc' := 86) (ls' := [(0, .ref 0), (1, .int a0), (2, .int a1), (3, .int a2), (4, .int a3), (5, .int a4)]) (st' := [.int a0, .ref 27, .int a1]) (s' := x2.2) rfl ?_
                    refine zIald hf rfl (by rfl) (fun x8 hf => ?_)
                    refine zB zlokM 2 (pc' := 90) (ls' := [(0, .ref 0), (1, .int a0), (2, .int a1), (3, .int a2), (4, .int a3), (5, .int a4)]) (st' := [.int (x8 - a4), .int a1]) (s' := x2.2) rfl ?_
                    refine zCgt hf (tgt := 107) rfl (by decide) (fun hc hf => ?_) (fun hc hf => ?_)
                    · refine zB zlokM 1 (pc' := 109) (ls' := [(0, .ref 0), (1, .int a0), (2, .int a1), (3, .int a2), (4, .int a3), (5, .int a4)]) (st' := [.int (-13)]) (s' := x2.2) rfl ?_
                      exact zRetI hf rfl rfl
                    · refine zB zlokM 4 (pc' := 100) (ls' := [(0, .ref 0), (1, .int a0), (2, .int a1), (3, .int a2), (4, .int a3), (5, .int a4)]) (st' := [.int a2, .ref 27, .int a3]) (s' := x2.2) rfl ?_
                      refine zIald hf rfl (by rfl) (fun x9 hf => ?_)
                      refine zB zlokM 2 (pc' := 104) (ls' := [(0, .ref 0), (1, .int a0), (2, .int a1), (3, .int a2), (4, .int a3), (5, .int a4)]) (st' := [.int (x9 - a4), .int a3]) (s' := x2.2) rfl ?_
                      refine zCle hf (tgt := 110) rfl (by decide) (fun hc hf => ?_) (fun hc hf => ?_)
                      · refine zB zlokM 2 (pc' := 113) (ls' := [(6, .int 0), (0, .ref 0), (1, .int a0), (2, .int a1), (3, .int a2), (4, .int a3), (5, .int a4)]) (st' := []) (s' := x2.2) rfl ?_
                        refine zLoc [1, 2, 3, 4, 5, 6, 0] rfl ?_
                        exact c_f_m_shift_113 zFu _ _ _ _ _ _ _ hf
                      · refine zB zlokM 1 (pc' := 109) (ls' := [(0, .ref 0), (1, .int a0), (2, .int a1), (3, .int a2), (4, .int a3), (5, .int a4)]) (st' := [.int (-13)]) (s' := x2.2) rfl ?_
                        exact zRetI hf rfl rfl
            · refine zB zlokM 1 (pc' := 65) (ls' := [(0, .ref 0), (1, .int a0), (2, .int a1), (3, .int a2), (4, .int a3), (5, .int a4)]) (st' := [.int (-12)]) (s' := x2.2) rfl ?_
              exact zRetI hf rfl rfl
        · refine zB zlokM 1 (pc' := 36) (ls' := [(0, .ref 0), (1, .int a0), (2, .int a1), (3, .int a2), (4, .int a3), (5, .int a4)]) (st' := [.int (-11)]) (s' := x2.2) rfl ?_
          exact zRetI hf rfl rfl
set_option maxRecDepth 20000 in
theorem c_f_m_taken_75 {r : Int32 × zSt} : ∀ (v1 : Int32) (v2 : Int32) (v3 : Int32) (s : zSt), f_m_taken_75 v1 v2 v3 s = some r → zWA zm_m_taken ΛM 2 (some (.int r.1), r.2) 75 [(0, .ref 0), (1, .int v1), (2, .int v2), (3, .int v3)] [] s := by
  intro v1 v2 v3 s hf
  refine zB zlokM 2 (pc' := 77) (ls' := [(0, .ref 0), (1, .int v1), (2, .int v2), (3, .int v3)]) (st' := [.int v2, .int v3]) (s' := s) rfl ?_
  refine zCne hf (tgt := 93) rfl (by decide) (fun hc hf => ?_) (fun hc hf => ?_)
  · refine zB zlokM 4 (pc' := 86) (ls' := [(0, .ref 0), (1, .int v1), (2, .int v2), (3, .int v3)]) (st' := [.int v1, .ref 26, .ref 0]) (s' := s) rfl ?_
    refine zIald hf rfl (by rfl) (fun x8 hf => ?_)
    refine zXI hf (As := [.int x8]) (rest := []) 1 zmk_m_kindOf zok_m_kindOf zl_1404 rfl rfl rfl rfl rfl rfl rfl rfl (fun _ e => k_m_kindOf _ _ _ e) (fun x9 hf => ?_)
    refine zGoto (tgt := 95) rfl (by decide) ?_
    exact zRetI hf rfl rfl
  · refine zB zlokM 1 (pc' := 95) (ls' := [(0, .ref 0), (1, .int v1), (2, .int v2), (3, .int v3)]) (st' := [.int (-12)]) (s' := s) rfl ?_
    exact zRetI hf rfl rfl
set_option maxRecDepth 20000 in
theorem c_f_m_taken_58 {r : Int32 × zSt} : ∀ (n : Nat) (v1 : Int32) (v2 : Int32) (v3 : Int32) (s : zSt), f_m_taken_58 n v1 v2 v3 s = some r → zWA zm_m_taken ΛM 2 (some (.int r.1), r.2) 58 [(0, .ref 0), (1, .int v1), (2, .int v2), (3, .int v3)] [] s := by
  intro n
  induction n with
  | zero => intro v1 v2 v3 s hf; cases hf
  | succ n ih =>
    intro v1 v2 v3 s hf
    refine zB zlokM 2 (pc' := 60) (ls' := [(0, .ref 0), (1, .int v1), (2, .int v2), (3, .int v3)]) (st' := [.int v2, .int v3]) (s' := s) rfl ?_
    refine zCeq hf (tgt := 75) rfl (by decide) (fun hc hf => ?_) (fun hc hf => ?_)
    · refine zLoc [0, 1, 2, 3] rfl ?_
      exact c_f_m_taken_75 _ _ _ _ hf
    · refine zB zlokM 1 (pc' := 64) (ls' := [(0, .ref 0), (1, .int v1), (2, .int v2), (3, .int v3)]) (st' := [.int v3]) (s' := s) rfl ?_
      refine zIle hf (tgt := 75) rfl (by decide) (fun hc hf => ?_) (fun hc hf => ?_)
      · refine zLoc [0, 1, 2, 3] rfl ?_
        exact c_f_m_taken_75 _ _ _ _ hf
      · refine zB zlokM 1 (pc' := 68) (ls' := [(0, .ref 0), (1, .int v1), (2, .int v2), (3, .int v3)]) (st' := [.int v3]) (s' := s) rfl ?_
        refine zSI hf (As := [.int v3]) (rest := []) 1 zmk_m_above zok_m_above zl_1408 rfl rfl rfl rfl rfl (fun _ e => k_m_above _ _ _ e) (fun x7 hf => ?_)
        refine zB zlokM 1 (pc' := 72) (ls' := [(3, .int x7.1), (0, .ref 0), (1, .int v1), (2, .int v2)]) (st' := []) (s' := x7.2) rfl ?_
        refine zGoto (tgt := 58) rfl (by decide) ?_
        refine zLoc [1, 2, 3, 0] rfl ?_
        exact ih _ _ _ _ hf
set_option maxRecDepth 20000 in
theorem k_m_taken (a0 : Int32) (a1 : Int32) (s : zSt) (r : Int32 × zSt) (hf : f_m_taken a0 a1 s = some r) : zKp zm_m_taken ΛM 2 [.ref 0, .int a0, .int a1] s (some (.int r.1), r.2) := by
  refine zKp_of zmk_m_taken rfl ?_
  show zWA _ _ _ _ _ [(0, .ref 0), (1, .int a0), (2, .int a1)] _ _
  refine zB zlokM 1 (pc' := 1) (ls' := [(0, .ref 0), (1, .int a0), (2, .int a1)]) (st' := [.int a0]) (s' := s) rfl ?_
  refine zSI hf (As := [.int a0]) (rest := []) 1 zmk_m_isShelf zok_m_isShelf zl_1080 rfl rfl rfl rfl rfl (fun _ e => k_m_isShelf _ _ _ e) (fun x1 hf => ?_)
  refine zIeq hf (tgt := 19) rfl (by decide) (fun hc hf => ?_) (fun hc hf => ?_)
  · refine zB zlokM 1 (pc' := 20) (ls' := [(0, .ref 0), (1, .int a0), (2, .int a1)]) (st' := [.int (-1)]) (s' := x1.2) rfl ?_
    exact zRetI hf rfl rfl
  · refine zB zlokM 4 (pc' := 13) (ls' := [(0, .ref 0), (1, .int a0), (2, .int a1)]) (st' := [.long 7, .long 0, .long (a1 : Int32).toInt64]) (s' := x1.2) rfl ?_
    refine zSI hf (As := [.long (a1 : Int32).toInt64, .long 0, .long 7]) (rest := []) 3 zmk_m_within zok_m_within zl_1072 rfl rfl rfl rfl rfl (fun _ e => k_m_within _ _ _ _ _ e) (fun x2 hf => ?_)
    refine zIne hf (tgt := 21) rfl (by decide) (fun hc hf => ?_) (fun hc hf => ?_)
    · refine zB zlokM 1 (pc' := 20) (ls' := [(0, .ref 0), (1, .int a0), (2, .int a1)]) (st' := [.int (-1)]) (s' := x2.2) rfl ?_
      exact zRetI hf rfl rfl
    · refine zB zlokM 3 (pc' := 26) (ls' := [(0, .ref 0), (1, .int a0), (2, .int a1)]) (st' := [.int a0, .ref 26]) (s' := x2.2) rfl ?_
      refine zIald hf rfl (by rfl) (fun x3 hf => ?_)
      refine zIge hf (tgt := 33) rfl (by decide) (fun hc hf => ?_) (fun hc hf => ?_)
      · refine zB zlokM 3 (pc' := 38) (ls' := [(0, .ref 0), (1, .int a0), (2, .int a1)]) (st' := [.int a0, .ref 26]) (s' := x2.2) rfl ?_
        refine zIald hf rfl (by rfl) (fun x4 hf => ?_)
        refine zB zlokM 1 (pc' := 41) (ls' := [(0, .ref 0), (1, .int a0), (2, .int a1)]) (st' := [.int 50, .int x4]) (s' := x2.2) rfl ?_
        refine zClt hf (tgt := 47) rfl (by decide) (fun hc hf => ?_) (fun hc hf => ?_)
        · refine zB zlokM 4 (pc' := 53) (ls' := [(0, .ref 0), (1, .int a0), (2, .int a1)]) (st' := [.int a0, .ref 26, .ref 0]) (s' := x2.2) rfl ?_
          refine zIald hf rfl (by rfl) (fun x5 hf => ?_)
          refine zXI hf (As := [.int x5]) (rest := []) 1 zmk_m_kindOf zok_m_kindOf zl_1404 rfl rfl rfl rfl rfl rfl rfl rfl (fun _ e => k_m_kindOf _ _ _ e) (fun x6 hf => ?_)
          refine zB zlokM 1 (pc' := 58) (ls' := [(3, .int x6.1), (0, .ref 0), (1, .int a0), (2, .int a1)]) (st' := []) (s' := x6.2) rfl ?_
          refine zLoc [1, 2, 3, 0] rfl ?_
          exact c_f_m_taken_58 zFu _ _ _ _ hf
        · refine zB zlokM 1 (pc' := 46) (ls' := [(0, .ref 0), (1, .int a0), (2, .int a1)]) (st' := [.int (-12)]) (s' := x2.2) rfl ?_
          exact zRetI hf rfl rfl
      · refine zB zlokM 1 (pc' := 32) (ls' := [(0, .ref 0), (1, .int a0), (2, .int a1)]) (st' := [.int (-11)]) (s' := x2.2) rfl ?_
        exact zRetI hf rfl rfl
set_option maxRecDepth 20000 in
theorem k_m_count (a0 : Int32) (s : zSt) (r : Int32 × zSt) (hf : f_m_count a0 s = some r) : zKp zm_m_count ΛM 0 [.ref 0, .int a0] s (some (.int r.1), r.2) := by
  refine zKp_of zmk_m_count rfl ?_
  show zWA _ _ _ _ _ [(0, .ref 0), (1, .int a0)] _ _
  refine zB zlokM 1 (pc' := 1) (ls' := [(0, .ref 0), (1, .int a0)]) (st' := [.int a0]) (s' := s) rfl ?_
  refine zIte hf (fun hc hf => ?_) (fun hc hf => ?_)
  · refine zTabOut (tgt := 61) hc rfl (by decide) ?_
    refine zB zlokM 1 (pc' := 62) (ls' := [(0, .ref 0), (1, .int a0)]) (st' := [.int (-1)]) (s' := s) rfl ?_
    exact zRetI hf rfl rfl
  · refine zIte hf (fun hc hf => ?_) (fun hc hf => ?_)
    · refine zTabIn (tgt := 36) 0 hc rfl (by decide) (by decide) rfl (by decide) ?_
      refine zB zlokM 2 (pc' := 40) (ls' := [(0, .ref 0), (1, .int a0)]) (st' := [.int (s.1 0 8)]) (s' := s) rfl ?_
      exact zRetI hf rfl rfl
    · refine zIte hf (fun hc hf => ?_) (fun hc hf => ?_)
      · refine zTabIn (tgt := 41) 1 hc rfl (by decide) (by decide) rfl (by decide) ?_
        refine zB zlokM 2 (pc' := 45) (ls' := [(0, .ref 0), (1, .int a0)]) (st' := [.int (s.1 0 11)]) (s' := s) rfl ?_
        exact zRetI hf rfl rfl
      · refine zIte hf (fun hc hf => ?_) (fun hc hf => ?_)
        · refine zTabIn (tgt := 46) 2 hc rfl (by decide) (by decide) rfl (by decide) ?_
          refine zB zlokM 2 (pc' := 50) (ls' := [(0, .ref 0), (1, .int a0)]) (st' := [.int (s.1 0 5)]) (s' := s) rfl ?_
          exact zRetI hf rfl rfl
        · refine zIte hf (fun hc hf => ?_) (fun hc hf => ?_)
          · refine zTabIn (tgt := 51) 3 hc rfl (by decide) (by decide) rfl (by decide) ?_
            refine zB zlokM 2 (pc' := 55) (ls' := [(0, .ref 0), (1, .int a0)]) (st' := [.int (s.1 0 41)]) (s' := s) rfl ?_
            exact zRetI hf rfl rfl
          · refine zIte hf (fun hc hf => ?_) (fun hc hf => ?_)
            · refine zTabIn (tgt := 56) 4 hc rfl (by decide) (by decide) rfl (by decide) ?_
              refine zB zlokM 2 (pc' := 60) (ls' := [(0, .ref 0), (1, .int a0)]) (st' := [.int (s.1 0 44)]) (s' := s) rfl ?_
              exact zRetI hf rfl rfl
            · cases hf
