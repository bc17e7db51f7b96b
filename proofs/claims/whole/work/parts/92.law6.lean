/-! THE LAW'S BODY 3: its cases (printed by wip/whole/gen_law.py) -/
theorem lc_0 {Y : zLx} (C : zLc Y) {i : Nat} {s t : zSt} (hi : i + 6 ≤ yL Y) (h : yR s t) (next : ∀ s' t', yR s' t' → zLA Y 1376 (lsi Y i) [] s' t') : zLA Y 200 (lsi Y i) [] s t := by
  obtain ⟨r, s', t', e1, e2, hr⟩ := op_heat h (yXs Y (i + 1)) (yXs Y (i + 2))
  refine zl_ld (j := 2) C (zdl zlwk_0 rfl) rfl rfl ?_
  refine zl_arg (kk := 1) C hi (by decide) rfl (zdl zlwk_0 rfl) (zdl zlwk_0 rfl) (zdl zlwk_0 rfl) (zdl zlwk_0 rfl) (zdl zlwk_0 rfl) ?_
  refine zl_arg (kk := 2) C hi (by decide) rfl (zdl zlwk_0 rfl) (zdl zlwk_0 rfl) (zdl zlwk_0 rfl) (zdl zlwk_0 rfl) (zdl zlwk_0 rfl) ?_
  refine zl_callG (As := [.int (yXs Y (i + 1)), .int (yXs Y (i + 2))]) (rest := []) C (k_g_heat _ _ s (r, s') e1) zmk_g_heat zok_g_heat zlm_13 rfl ⟨rfl, rfl⟩ (zdl zlwk_0 rfl) (fun _ => rfl) (fun _ => rfl) rfl rfl rfl ?_
  show zLA Y 214 (lsi Y i) [.int r] s' t
  refine zl_ld (j := 1) C (zdl zlwk_0 rfl) rfl rfl ?_
  refine zl_arg (kk := 1) C hi (by decide) rfl (zdl zlwk_0 rfl) (zdl zlwk_0 rfl) (zdl zlwk_0 rfl) (zdl zlwk_0 rfl) (zdl zlwk_0 rfl) ?_
  refine zl_arg (kk := 2) C hi (by decide) rfl (zdl zlwk_0 rfl) (zdl zlwk_0 rfl) (zdl zlwk_0 rfl) (zdl zlwk_0 rfl) (zdl zlwk_0 rfl) ?_
  refine zl_callM (As := [.int (yXs Y (i + 1)), .int (yXs Y (i + 2))]) (rest := [.int r]) C (k_m_heat _ _ t (r, t') e2) zmk_m_heat zok_m_heat zlm_17 rfl ⟨rfl, rfl⟩ (zdl zlwk_0 rfl) (fun _ => rfl) (fun _ => rfl) rfl rfl rfl ?_
  show zLA Y 228 (lsi Y i) [.int r, .int r] s' t'
  exact zl_end C (zdl zlwk_0 rfl) (by decide) (next s' t' hr)
theorem lc_1 {Y : zLx} (C : zLc Y) {i : Nat} {s t : zSt} (hi : i + 6 ≤ yL Y) (h : yR s t) (next : ∀ s' t', yR s' t' → zLA Y 1376 (lsi Y i) [] s' t') : zLA Y 233 (lsi Y i) [] s t := by
  obtain ⟨r, s', t', e1, e2, hr⟩ := op_heats h (yXs Y (i + 1)) (yXs Y (i + 2)) (yXs Y (i + 3))
  refine zl_ld (j := 2) C (zdl zlwk_1 rfl) rfl rfl ?_
  refine zl_arg (kk := 1) C hi (by decide) rfl (zdl zlwk_1 rfl) (zdl zlwk_1 rfl) (zdl zlwk_1 rfl) (zdl zlwk_1 rfl) (zdl zlwk_1 rfl) ?_
  refine zl_arg (kk := 2) C hi (by decide) rfl (zdl zlwk_1 rfl) (zdl zlwk_1 rfl) (zdl zlwk_1 rfl) (zdl zlwk_1 rfl) (zdl zlwk_1 rfl) ?_
  refine zl_arg (kk := 3) C hi (by decide) rfl (zdl zlwk_1 rfl) (zdl zlwk_1 rfl) (zdl zlwk_1 rfl) (zdl zlwk_1 rfl) (zdl zlwk_1 rfl) ?_
  refine zl_callG (As := [.int (yXs Y (i + 1)), .int (yXs Y (i + 2)), .int (yXs Y (i + 3))]) (rest := []) C (k_g_heats _ _ _ s (r, s') e1) zmk_g_heats zok_g_heats zlm_18 rfl ⟨rfl, rfl⟩ (zdl zlwk_1 rfl) (fun _ => rfl) (fun _ => rfl) rfl rfl rfl ?_
  show zLA Y 252 (lsi Y i) [.int r] s' t
  refine zl_ld (j := 1) C (zdl zlwk_1 rfl) rfl rfl ?_
  refine zl_arg (kk := 1) C hi (by decide) rfl (zdl zlwk_1 rfl) (zdl zlwk_1 rfl) (zdl zlwk_1 rfl) (zdl zlwk_1 rfl) (zdl zlwk_1 rfl) ?_
  refine zl_arg (kk := 2) C hi (by decide) rfl (zdl zlwk_1 rfl) (zdl zlwk_1 rfl) (zdl zlwk_1 rfl) (zdl zlwk_1 rfl) (zdl zlwk_1 rfl) ?_
  refine zl_arg (kk := 3) C hi (by decide) rfl (zdl zlwk_1 rfl) (zdl zlwk_1 rfl) (zdl zlwk_1 rfl) (zdl zlwk_1 rfl) (zdl zlwk_1 rfl) ?_
  refine zl_callM (As := [.int (yXs Y (i + 1)), .int (yXs Y (i + 2)), .int (yXs Y (i + 3))]) (rest := [.int r]) C (k_m_heats _ _ _ t (r, t') e2) zmk_m_heats zok_m_heats zlm_22 rfl ⟨rfl, rfl⟩ (zdl zlwk_1 rfl) (fun _ => rfl) (fun _ => rfl) rfl rfl rfl ?_
  show zLA Y 271 (lsi Y i) [.int r, .int r] s' t'
  exact zl_end C (zdl zlwk_1 rfl) (by decide) (next s' t' hr)
theorem lc_2 {Y : zLx} (C : zLc Y) {i : Nat} {s t : zSt} (hi : i + 6 ≤ yL Y) (h : yR s t) (next : ∀ s' t', yR s' t' → zLA Y 1376 (lsi Y i) [] s' t') : zLA Y 276 (lsi Y i) [] s t := by
  obtain ⟨r, s', t', e1, e2, hr⟩ := op_place h 
  refine zl_ld (j := 2) C (zdl zlwk_2 rfl) rfl rfl ?_
  refine zl_callG (As := []) (rest := []) C (k_g_place  s (r, s') e1) zmk_g_place zok_g_place zlm_23 rfl ⟨rfl, rfl⟩ (zdl zlwk_2 rfl) (fun _ => rfl) (fun _ => rfl) rfl rfl rfl ?_
  show zLA Y 280 (lsi Y i) [.int r] s' t
  refine zl_ld (j := 1) C (zdl zlwk_2 rfl) rfl rfl ?_
  refine zl_callM (As := []) (rest := [.int r]) C (k_m_place  t (r, t') e2) zmk_m_place zok_m_place zlm_27 rfl ⟨rfl, rfl⟩ (zdl zlwk_2 rfl) (fun _ => rfl) (fun _ => rfl) rfl rfl rfl ?_
  show zLA Y 284 (lsi Y i) [.int r, .int r] s' t'
  exact zl_end C (zdl zlwk_2 rfl) (by decide) (next s' t' hr)
theorem lc_3 {Y : zLx} (C : zLc Y) {i : Nat} {s t : zSt} (hi : i + 6 ≤ yL Y) (h : yR s t) (next : ∀ s' t', yR s' t' → zLA Y 1376 (lsi Y i) [] s' t') : zLA Y 289 (lsi Y i) [] s t := by
  obtain ⟨r, s', t', e1, e2, hr⟩ := op_flow h (yXs Y (i + 1)) (yXs Y (i + 2)) (yXs Y (i + 3))
  refine zl_ld (j := 2) C (zdl zlwk_3 rfl) rfl rfl ?_
  refine zl_arg (kk := 1) C hi (by decide) rfl (zdl zlwk_3 rfl) (zdl zlwk_3 rfl) (zdl zlwk_3 rfl) (zdl zlwk_3 rfl) (zdl zlwk_3 rfl) ?_
  refine zl_arg (kk := 2) C hi (by decide) rfl (zdl zlwk_3 rfl) (zdl zlwk_3 rfl) (zdl zlwk_3 rfl) (zdl zlwk_3 rfl) (zdl zlwk_3 rfl) ?_
  refine zl_arg (kk := 3) C hi (by decide) rfl (zdl zlwk_3 rfl) (zdl zlwk_3 rfl) (zdl zlwk_3 rfl) (zdl zlwk_3 rfl) (zdl zlwk_3 rfl) ?_
  refine zl_callG (As := [.int (yXs Y (i + 1)), .int (yXs Y (i + 2)), .int (yXs Y (i + 3))]) (rest := []) C (k_g_flow _ _ _ s (r, s') e1) zmk_g_flow zok_g_flow zlm_28 rfl ⟨rfl, rfl⟩ (zdl zlwk_3 rfl) (fun _ => rfl) (fun _ => rfl) rfl rfl rfl ?_
  show zLA Y 308 (lsi Y i) [.int r] s' t
  refine zl_ld (j := 1) C (zdl zlwk_3 rfl) rfl rfl ?_
  refine zl_arg (kk := 1) C hi (by decide) rfl (zdl zlwk_3 rfl) (zdl zlwk_3 rfl) (zdl zlwk_3 rfl) (zdl zlwk_3 rfl) (zdl zlwk_3 rfl) ?_
  refine zl_arg (kk := 2) C hi (by decide) rfl (zdl zlwk_3 rfl) (zdl zlwk_3 rfl) (zdl zlwk_3 rfl) (zdl zlwk_3 rfl) (zdl zlwk_3 rfl) ?_
  refine zl_arg (kk := 3) C hi (by decide) rfl (zdl zlwk_3 rfl) (zdl zlwk_3 rfl) (zdl zlwk_3 rfl) (zdl zlwk_3 rfl) (zdl zlwk_3 rfl) ?_
  refine zl_callM (As := [.int (yXs Y (i + 1)), .int (yXs Y (i + 2)), .int (yXs Y (i + 3))]) (rest := [.int r]) C (k_m_flow _ _ _ t (r, t') e2) zmk_m_flow zok_m_flow zlm_31 rfl ⟨rfl, rfl⟩ (zdl zlwk_3 rfl) (fun _ => rfl) (fun _ => rfl) rfl rfl rfl ?_
  show zLA Y 327 (lsi Y i) [.int r, .int r] s' t'
  exact zl_end C (zdl zlwk_3 rfl) (by decide) (next s' t' hr)
theorem lc_4 {Y : zLx} (C : zLc Y) {i : Nat} {s t : zSt} (hi : i + 6 ≤ yL Y) (h : yR s t) (next : ∀ s' t', yR s' t' → zLA Y 1376 (lsi Y i) [] s' t') : zLA Y 332 (lsi Y i) [] s t := by
  obtain ⟨r, s', t', e1, e2, hr⟩ := op_stand h (yXs Y (i + 1)) (yXs Y (i + 2))
  refine zl_ld (j := 2) C (zdl zlwk_4 rfl) rfl rfl ?_
  refine zl_arg (kk := 1) C hi (by decide) rfl (zdl zlwk_4 rfl) (zdl zlwk_4 rfl) (zdl zlwk_4 rfl) (zdl zlwk_4 rfl) (zdl zlwk_4 rfl) ?_
  refine zl_arg (kk := 2) C hi (by decide) rfl (zdl zlwk_4 rfl) (zdl zlwk_4 rfl) (zdl zlwk_4 rfl) (zdl zlwk_4 rfl) (zdl zlwk_4 rfl) ?_
  refine zl_callG (As := [.int (yXs Y (i + 1)), .int (yXs Y (i + 2))]) (rest := []) C (k_g_stand _ _ s (r, s') e1) zmk_g_stand zok_g_stand zlm_32 rfl ⟨rfl, rfl⟩ (zdl zlwk_4 rfl) (fun _ => rfl) (fun _ => rfl) rfl rfl rfl ?_
  show zLA Y 346 (lsi Y i) [.int r] s' t
  refine zl_ld (j := 1) C (zdl zlwk_4 rfl) rfl rfl ?_
  refine zl_arg (kk := 1) C hi (by decide) rfl (zdl zlwk_4 rfl) (zdl zlwk_4 rfl) (zdl zlwk_4 rfl) (zdl zlwk_4 rfl) (zdl zlwk_4 rfl) ?_
  refine zl_arg (kk := 2) C hi (by decide) rfl (zdl zlwk_4 rfl) (zdl zlwk_4 rfl) (zdl zlwk_4 rfl) (zdl zlwk_4 rfl) (zdl zlwk_4 rfl) ?_
  refine zl_callM (As := [.int (yXs Y (i + 1)), .int (yXs Y (i + 2))]) (rest := [.int r]) C (k_m_stand _ _ t (r, t') e2) zmk_m_stand zok_m_stand zlm_35 rfl ⟨rfl, rfl⟩ (zdl zlwk_4 rfl) (fun _ => rfl) (fun _ => rfl) rfl rfl rfl ?_
  show zLA Y 360 (lsi Y i) [.int r, .int r] s' t'
  exact zl_end C (zdl zlwk_4 rfl) (by decide) (next s' t' hr)
theorem lc_5 {Y : zLx} (C : zLc Y) {i : Nat} {s t : zSt} (hi : i + 6 ≤ yL Y) (h : yR s t) (next : ∀ s' t', yR s' t' → zLA Y 1376 (lsi Y i) [] s' t') : zLA Y 365 (lsi Y i) [] s t := by
  obtain ⟨r, s', t', e1, e2, hr⟩ := op_mend h (yXs Y (i + 1)) (yXs Y (i + 2))
  refine zl_ld (j := 2) C (zdl zlwk_5 rfl) rfl rfl ?_
  refine zl_arg (kk := 1) C hi (by decide) rfl (zdl zlwk_5 rfl) (zdl zlwk_5 rfl) (zdl zlwk_5 rfl) (zdl zlwk_5 rfl) (zdl zlwk_5 rfl) ?_
  refine zl_arg (kk := 2) C hi (by decide) rfl (zdl zlwk_5 rfl) (zdl zlwk_5 rfl) (zdl zlwk_5 rfl) (zdl zlwk_5 rfl) (zdl zlwk_5 rfl) ?_
  refine zl_callG (As := [.int (yXs Y (i + 1)), .int (yXs Y (i + 2))]) (rest := []) C (k_g_mend _ _ s (r, s') e1) zmk_g_mend zok_g_mend zlm_36 rfl ⟨rfl, rfl⟩ (zdl zlwk_5 rfl) (fun _ => rfl) (fun _ => rfl) rfl rfl rfl ?_
  show zLA Y 379 (lsi Y i) [.int r] s' t
  refine zl_ld (j := 1) C (zdl zlwk_5 rfl) rfl rfl ?_
  refine zl_arg (kk := 1) C hi (by decide) rfl (zdl zlwk_5 rfl) (zdl zlwk_5 rfl) (zdl zlwk_5 rfl) (zdl zlwk_5 rfl) (zdl zlwk_5 rfl) ?_
  refine zl_arg (kk := 2) C hi (by decide) rfl (zdl zlwk_5 rfl) (zdl zlwk_5 rfl) (zdl zlwk_5 rfl) (zdl zlwk_5 rfl) (zdl zlwk_5 rfl) ?_
  refine zl_callM (As := [.int (yXs Y (i + 1)), .int (yXs Y (i + 2))]) (rest := [.int r]) C (k_m_mend _ _ t (r, t') e2) zmk_m_mend zok_m_mend zlm_39 rfl ⟨rfl, rfl⟩ (zdl zlwk_5 rfl) (fun _ => rfl) (fun _ => rfl) rfl rfl rfl ?_
  show zLA Y 393 (lsi Y i) [.int r, .int r] s' t'
  exact zl_end C (zdl zlwk_5 rfl) (by decide) (next s' t' hr)
theorem lc_6 {Y : zLx} (C : zLc Y) {i : Nat} {s t : zSt} (hi : i + 6 ≤ yL Y) (h : yR s t) (next : ∀ s' t', yR s' t' → zLA Y 1376 (lsi Y i) [] s' t') : zLA Y 398 (lsi Y i) [] s t := by
  obtain ⟨r, s', t', e1, e2, hr⟩ := op_of h (yXs Y (i + 1))
  refine zl_ld (j := 2) C (zdl zlwk_6 rfl) rfl rfl ?_
  refine zl_arg (kk := 1) C hi (by decide) rfl (zdl zlwk_6 rfl) (zdl zlwk_6 rfl) (zdl zlwk_6 rfl) (zdl zlwk_6 rfl) (zdl zlwk_6 rfl) ?_
  refine zl_callG (As := [.int (yXs Y (i + 1))]) (rest := []) C (k_g_of _ s (r, s') e1) zmk_g_of zok_g_of zlm_40 rfl ⟨rfl, rfl⟩ (zdl zlwk_6 rfl) (fun _ => rfl) (fun _ => rfl) rfl rfl rfl ?_
  show zLA Y 407 (lsi Y i) [.int r] s' t
  refine zl_ld (j := 1) C (zdl zlwk_6 rfl) rfl rfl ?_
  refine zl_arg (kk := 1) C hi (by decide) rfl (zdl zlwk_6 rfl) (zdl zlwk_6 rfl) (zdl zlwk_6 rfl) (zdl zlwk_6 rfl) (zdl zlwk_6 rfl) ?_
  refine zl_callM (As := [.int (yXs Y (i + 1))]) (rest := [.int r]) C (k_m_of _ t (r, t') e2) zmk_m_of zok_m_of zlm_44 rfl ⟨rfl, rfl⟩ (zdl zlwk_6 rfl) (fun _ => rfl) (fun _ => rfl) rfl rfl rfl ?_
  show zLA Y 416 (lsi Y i) [.int r, .int r] s' t'
  exact zl_end C (zdl zlwk_6 rfl) (by decide) (next s' t' hr)
theorem lc_7 {Y : zLx} (C : zLc Y) {i : Nat} {s t : zSt} (hi : i + 6 ≤ yL Y) (h : yR s t) (next : ∀ s' t', yR s' t' → zLA Y 1376 (lsi Y i) [] s' t') : zLA Y 421 (lsi Y i) [] s t := by
  obtain ⟨r, s', t', e1, e2, hr⟩ := op_feed h (yXs Y (i + 1))
  refine zl_ld (j := 2) C (zdl zlwk_7 rfl) rfl rfl ?_
  refine zl_arg (kk := 1) C hi (by decide) rfl (zdl zlwk_7 rfl) (zdl zlwk_7 rfl) (zdl zlwk_7 rfl) (zdl zlwk_7 rfl) (zdl zlwk_7 rfl) ?_
  refine zl_callG (As := [.int (yXs Y (i + 1))]) (rest := []) C (k_g_feed _ s (r, s') e1) zmk_g_feed zok_g_feed zlm_45 rfl ⟨rfl, rfl⟩ (zdl zlwk_7 rfl) (fun _ => rfl) (fun _ => rfl) rfl rfl rfl ?_
  show zLA Y 430 (lsi Y i) [.int r] s' t
  refine zl_ld (j := 1) C (zdl zlwk_7 rfl) rfl rfl ?_
  refine zl_arg (kk := 1) C hi (by decide) rfl (zdl zlwk_7 rfl) (zdl zlwk_7 rfl) (zdl zlwk_7 rfl) (zdl zlwk_7 rfl) (zdl zlwk_7 rfl) ?_
  refine zl_callM (As := [.int (yXs Y (i + 1))]) (rest := [.int r]) C (k_m_feed _ t (r, t') e2) zmk_m_feed zok_m_feed zlm_48 rfl ⟨rfl, rfl⟩ (zdl zlwk_7 rfl) (fun _ => rfl) (fun _ => rfl) rfl rfl rfl ?_
  show zLA Y 439 (lsi Y i) [.int r, .int r] s' t'
  exact zl_end C (zdl zlwk_7 rfl) (by decide) (next s' t' hr)
theorem lc_8 {Y : zLx} (C : zLc Y) {i : Nat} {s t : zSt} (hi : i + 6 ≤ yL Y) (h : yR s t) (next : ∀ s' t', yR s' t' → zLA Y 1376 (lsi Y i) [] s' t') : zLA Y 444 (lsi Y i) [] s t := by
  obtain ⟨r, s', t', e1, e2, hr⟩ := op_law h (yXs Y (i + 1))
  refine zl_ld (j := 2) C (zdl zlwk_8 rfl) rfl rfl ?_
  refine zl_arg (kk := 1) C hi (by decide) rfl (zdl zlwk_8 rfl) (zdl zlwk_8 rfl) (zdl zlwk_8 rfl) (zdl zlwk_8 rfl) (zdl zlwk_8 rfl) ?_
  refine zl_callG (As := [.int (yXs Y (i + 1))]) (rest := []) C (k_g_law _ s (r, s') e1) zmk_g_law zok_g_law zlm_49 rfl ⟨rfl, rfl⟩ (zdl zlwk_8 rfl) (fun _ => rfl) (fun _ => rfl) rfl rfl rfl ?_
  show zLA Y 453 (lsi Y i) [.int r] s' t
  refine zl_ld (j := 1) C (zdl zlwk_8 rfl) rfl rfl ?_
  refine zl_arg (kk := 1) C hi (by decide) rfl (zdl zlwk_8 rfl) (zdl zlwk_8 rfl) (zdl zlwk_8 rfl) (zdl zlwk_8 rfl) (zdl zlwk_8 rfl) ?_
  refine zl_callM (As := [.int (yXs Y (i + 1))]) (rest := [.int r]) C (k_m_law _ t (r, t') e2) zmk_m_law zok_m_law zlm_52 rfl ⟨rfl, rfl⟩ (zdl zlwk_8 rfl) (fun _ => rfl) (fun _ => rfl) rfl rfl rfl ?_
  show zLA Y 462 (lsi Y i) [.int r, .int r] s' t'
  exact zl_end C (zdl zlwk_8 rfl) (by decide) (next s' t' hr)
theorem lc_9 {Y : zLx} (C : zLc Y) {i : Nat} {s t : zSt} (hi : i + 6 ≤ yL Y) (h : yR s t) (next : ∀ s' t', yR s' t' → zLA Y 1376 (lsi Y i) [] s' t') : zLA Y 467 (lsi Y i) [] s t := by
  obtain ⟨r, s', t', e1, e2, hr⟩ := op_taste h (yXs Y (i + 1)) (yXs Y (i + 2)) (yXs Y (i + 3))
  refine zl_ld (j := 2) C (zdl zlwk_9 rfl) rfl rfl ?_
  refine zl_arg (kk := 1) C hi (by decide) rfl (zdl zlwk_9 rfl) (zdl zlwk_9 rfl) (zdl zlwk_9 rfl) (zdl zlwk_9 rfl) (zdl zlwk_9 rfl) ?_
  refine zl_arg (kk := 2) C hi (by decide) rfl (zdl zlwk_9 rfl) (zdl zlwk_9 rfl) (zdl zlwk_9 rfl) (zdl zlwk_9 rfl) (zdl zlwk_9 rfl) ?_
  refine zl_arg (kk := 3) C hi (by decide) rfl (zdl zlwk_9 rfl) (zdl zlwk_9 rfl) (zdl zlwk_9 rfl) (zdl zlwk_9 rfl) (zdl zlwk_9 rfl) ?_
  refine zl_callG (As := [.int (yXs Y (i + 1)), .int (yXs Y (i + 2)), .int (yXs Y (i + 3))]) (rest := []) C (k_g_taste _ _ _ s (r, s') e1) zmk_g_taste zok_g_taste zlm_53 rfl ⟨rfl, rfl⟩ (zdl zlwk_9 rfl) (fun _ => rfl) (fun _ => rfl) rfl rfl rfl ?_
  show zLA Y 486 (lsi Y i) [.int r] s' t
  refine zl_ld (j := 1) C (zdl zlwk_9 rfl) rfl rfl ?_
  refine zl_arg (kk := 1) C hi (by decide) rfl (zdl zlwk_9 rfl) (zdl zlwk_9 rfl) (zdl zlwk_9 rfl) (zdl zlwk_9 rfl) (zdl zlwk_9 rfl) ?_
  refine zl_arg (kk := 2) C hi (by decide) rfl (zdl zlwk_9 rfl) (zdl zlwk_9 rfl) (zdl zlwk_9 rfl) (zdl zlwk_9 rfl) (zdl zlwk_9 rfl) ?_
  refine zl_arg (kk := 3) C hi (by decide) rfl (zdl zlwk_9 rfl) (zdl zlwk_9 rfl) (zdl zlwk_9 rfl) (zdl zlwk_9 rfl) (zdl zlwk_9 rfl) ?_
  refine zl_callM (As := [.int (yXs Y (i + 1)), .int (yXs Y (i + 2)), .int (yXs Y (i + 3))]) (rest := [.int r]) C (k_m_taste _ _ _ t (r, t') e2) zmk_m_taste zok_m_taste zlm_56 rfl ⟨rfl, rfl⟩ (zdl zlwk_9 rfl) (fun _ => rfl) (fun _ => rfl) rfl rfl rfl ?_
  show zLA Y 505 (lsi Y i) [.int r, .int r] s' t'
  exact zl_end C (zdl zlwk_9 rfl) (by decide) (next s' t' hr)
theorem lc_10 {Y : zLx} (C : zLc Y) {i : Nat} {s t : zSt} (hi : i + 6 ≤ yL Y) (h : yR s t) (next : ∀ s' t', yR s' t' → zLA Y 1376 (lsi Y i) [] s' t') : zLA Y 510 (lsi Y i) [] s t := by
  obtain ⟨r, s', t', e1, e2, hr⟩ := op_day h (yXs Y (i + 1))
  refine zl_ld (j := 2) C (zdl zlwk_10 rfl) rfl rfl ?_
  refine zl_arg (kk := 1) C hi (by decide) rfl (zdl zlwk_10 rfl) (zdl zlwk_10 rfl) (zdl zlwk_10 rfl) (zdl zlwk_10 rfl) (zdl zlwk_10 rfl) ?_
  refine zl_callG (As := [.int (yXs Y (i + 1))]) (rest := []) C (k_g_day _ s (r, s') e1) zmk_g_day zok_g_day zlm_57 rfl ⟨rfl, rfl⟩ (zdl zlwk_10 rfl) (fun _ => rfl) (fun _ => rfl) rfl rfl rfl ?_
  show zLA Y 519 (lsi Y i) [.int r] s' t
  refine zl_ld (j := 1) C (zdl zlwk_10 rfl) rfl rfl ?_
  refine zl_arg (kk := 1) C hi (by decide) rfl (zdl zlwk_10 rfl) (zdl zlwk_10 rfl) (zdl zlwk_10 rfl) (zdl zlwk_10 rfl) (zdl zlwk_10 rfl) ?_
  refine zl_callM (As := [.int (yXs Y (i + 1))]) (rest := [.int r]) C (k_m_day _ t (r, t') e2) zmk_m_day zok_m_day zlm_60 rfl ⟨rfl, rfl⟩ (zdl zlwk_10 rfl) (fun _ => rfl) (fun _ => rfl) rfl rfl rfl ?_
  show zLA Y 528 (lsi Y i) [.int r, .int r] s' t'
  exact zl_end C (zdl zlwk_10 rfl) (by decide) (next s' t' hr)
theorem lc_11 {Y : zLx} (C : zLc Y) {i : Nat} {s t : zSt} (hi : i + 6 ≤ yL Y) (h : yR s t) (next : ∀ s' t', yR s' t' → zLA Y 1376 (lsi Y i) [] s' t') : zLA Y 533 (lsi Y i) [] s t := by
  obtain ⟨r, s', t', e1, e2, hr⟩ := op_told h (yXs Y (i + 1))
  refine zl_ld (j := 2) C (zdl zlwk_11 rfl) rfl rfl ?_
  refine zl_arg (kk := 1) C hi (by decide) rfl (zdl zlwk_11 rfl) (zdl zlwk_11 rfl) (zdl zlwk_11 rfl) (zdl zlwk_11 rfl) (zdl zlwk_11 rfl) ?_
  refine zl_callG (As := [.int (yXs Y (i + 1))]) (rest := []) C (k_g_told _ s (r, s') e1) zmk_g_told zok_g_told zlm_61 rfl ⟨rfl, rfl⟩ (zdl zlwk_11 rfl) (fun _ => rfl) (fun _ => rfl) rfl rfl rfl ?_
  show zLA Y 542 (lsi Y i) [.int r] s' t
  refine zl_ld (j := 1) C (zdl zlwk_11 rfl) rfl rfl ?_
  refine zl_arg (kk := 1) C hi (by decide) rfl (zdl zlwk_11 rfl) (zdl zlwk_11 rfl) (zdl zlwk_11 rfl) (zdl zlwk_11 rfl) (zdl zlwk_11 rfl) ?_
  refine zl_callM (As := [.int (yXs Y (i + 1))]) (rest := [.int r]) C (k_m_told _ t (r, t') e2) zmk_m_told zok_m_told zlm_64 rfl ⟨rfl, rfl⟩ (zdl zlwk_11 rfl) (fun _ => rfl) (fun _ => rfl) rfl rfl rfl ?_
  show zLA Y 551 (lsi Y i) [.int r, .int r] s' t'
  exact zl_end C (zdl zlwk_11 rfl) (by decide) (next s' t' hr)
theorem lc_12 {Y : zLx} (C : zLc Y) {i : Nat} {s t : zSt} (hi : i + 6 ≤ yL Y) (h : yR s t) (next : ∀ s' t', yR s' t' → zLA Y 1376 (lsi Y i) [] s' t') : zLA Y 556 (lsi Y i) [] s t := by
  obtain ⟨r, s', t', e1, e2, hr⟩ := op_best h (yXs Y (i + 1)) (yXs Y (i + 2))
  refine zl_ld (j := 2) C (zdl zlwk_12 rfl) rfl rfl ?_
  refine zl_arg (kk := 1) C hi (by decide) rfl (zdl zlwk_12 rfl) (zdl zlwk_12 rfl) (zdl zlwk_12 rfl) (zdl zlwk_12 rfl) (zdl zlwk_12 rfl) ?_
  refine zl_arg (kk := 2) C hi (by decide) rfl (zdl zlwk_12 rfl) (zdl zlwk_12 rfl) (zdl zlwk_12 rfl) (zdl zlwk_12 rfl) (zdl zlwk_12 rfl) ?_
  refine zl_callG (As := [.int (yXs Y (i + 1)), .int (yXs Y (i + 2))]) (rest := []) C (k_g_best _ _ s (r, s') e1) zmk_g_best zok_g_best zlm_65 rfl ⟨rfl, rfl⟩ (zdl zlwk_12 rfl) (fun _ => rfl) (fun _ => rfl) rfl rfl rfl ?_
  show zLA Y 570 (lsi Y i) [.int r] s' t
  refine zl_ld (j := 1) C (zdl zlwk_12 rfl) rfl rfl ?_
  refine zl_arg (kk := 1) C hi (by decide) rfl (zdl zlwk_12 rfl) (zdl zlwk_12 rfl) (zdl zlwk_12 rfl) (zdl zlwk_12 rfl) (zdl zlwk_12 rfl) ?_
  refine zl_arg (kk := 2) C hi (by decide) rfl (zdl zlwk_12 rfl) (zdl zlwk_12 rfl) (zdl zlwk_12 rfl) (zdl zlwk_12 rfl) (zdl zlwk_12 rfl) ?_
  refine zl_callM (As := [.int (yXs Y (i + 1)), .int (yXs Y (i + 2))]) (rest := [.int r]) C (k_m_best _ _ t (r, t') e2) zmk_m_best zok_m_best zlm_68 rfl ⟨rfl, rfl⟩ (zdl zlwk_12 rfl) (fun _ => rfl) (fun _ => rfl) rfl rfl rfl ?_
  show zLA Y 584 (lsi Y i) [.int r, .int r] s' t'
  exact zl_end C (zdl zlwk_12 rfl) (by decide) (next s' t' hr)
theorem lc_13 {Y : zLx} (C : zLc Y) {i : Nat} {s t : zSt} (hi : i + 6 ≤ yL Y) (h : yR s t) (next : ∀ s' t', yR s' t' → zLA Y 1376 (lsi Y i) [] s' t') : zLA Y 589 (lsi Y i) [] s t := by
  obtain ⟨r, s', t', e1, e2, hr⟩ := op_where h (yXs Y (i + 1)) (yXs Y (i + 2))
  refine zl_ld (j := 2) C (zdl zlwk_13 rfl) rfl rfl ?_
  refine zl_arg (kk := 1) C hi (by decide) rfl (zdl zlwk_13 rfl) (zdl zlwk_13 rfl) (zdl zlwk_13 rfl) (zdl zlwk_13 rfl) (zdl zlwk_13 rfl) ?_
  refine zl_arg (kk := 2) C hi (by decide) rfl (zdl zlwk_13 rfl) (zdl zlwk_13 rfl) (zdl zlwk_13 rfl) (zdl zlwk_13 rfl) (zdl zlwk_13 rfl) ?_
  refine zl_callG (As := [.int (yXs Y (i + 1)), .int (yXs Y (i + 2))]) (rest := []) C (k_g_where _ _ s (r, s') e1) zmk_g_where zok_g_where zlm_69 rfl ⟨rfl, rfl⟩ (zdl zlwk_13 rfl) (fun _ => rfl) (fun _ => rfl) rfl rfl rfl ?_
  show zLA Y 603 (lsi Y i) [.int r] s' t
  refine zl_ld (j := 1) C (zdl zlwk_13 rfl) rfl rfl ?_
  refine zl_arg (kk := 1) C hi (by decide) rfl (zdl zlwk_13 rfl) (zdl zlwk_13 rfl) (zdl zlwk_13 rfl) (zdl zlwk_13 rfl) (zdl zlwk_13 rfl) ?_
  refine zl_arg (kk := 2) C hi (by decide) rfl (zdl zlwk_13 rfl) (zdl zlwk_13 rfl) (zdl zlwk_13 rfl) (zdl zlwk_13 rfl) (zdl zlwk_13 rfl) ?_
  refine zl_callM (As := [.int (yXs Y (i + 1)), .int (yXs Y (i + 2))]) (rest := [.int r]) C (k_m_where _ _ t (r, t') e2) zmk_m_where zok_m_where zlm_72 rfl ⟨rfl, rfl⟩ (zdl zlwk_13 rfl) (fun _ => rfl) (fun _ => rfl) rfl rfl rfl ?_
  show zLA Y 617 (lsi Y i) [.int r, .int r] s' t'
  exact zl_end C (zdl zlwk_13 rfl) (by decide) (next s' t' hr)
theorem lc_14 {Y : zLx} (C : zLc Y) {i : Nat} {s t : zSt} (hi : i + 6 ≤ yL Y) (h : yR s t) (next : ∀ s' t', yR s' t' → zLA Y 1376 (lsi Y i) [] s' t') : zLA Y 622 (lsi Y i) [] s t := by
  obtain ⟨r, s', t', e1, e2, hr⟩ := op_judge h (yXs Y (i + 1)) (yXs Y (i + 2))
  refine zl_ld (j := 2) C (zdl zlwk_14 rfl) rfl rfl ?_
  refine zl_arg (kk := 1) C hi (by decide) rfl (zdl zlwk_14 rfl) (zdl zlwk_14 rfl) (zdl zlwk_14 rfl) (zdl zlwk_14 rfl) (zdl zlwk_14 rfl) ?_
  refine zl_arg (kk := 2) C hi (by decide) rfl (zdl zlwk_14 rfl) (zdl zlwk_14 rfl) (zdl zlwk_14 rfl) (zdl zlwk_14 rfl) (zdl zlwk_14 rfl) ?_
  refine zl_callG (As := [.int (yXs Y (i + 1)), .int (yXs Y (i + 2))]) (rest := []) C (k_g_judge _ _ s (r, s') e1) zmk_g_judge zok_g_judge zlm_73 rfl ⟨rfl, rfl⟩ (zdl zlwk_14 rfl) (fun _ => rfl) (fun _ => rfl) rfl rfl rfl ?_
  show zLA Y 636 (lsi Y i) [.int r] s' t
  refine zl_ld (j := 1) C (zdl zlwk_14 rfl) rfl rfl ?_
  refine zl_arg (kk := 1) C hi (by decide) rfl (zdl zlwk_14 rfl) (zdl zlwk_14 rfl) (zdl zlwk_14 rfl) (zdl zlwk_14 rfl) (zdl zlwk_14 rfl) ?_
  refine zl_arg (kk := 2) C hi (by decide) rfl (zdl zlwk_14 rfl) (zdl zlwk_14 rfl) (zdl zlwk_14 rfl) (zdl zlwk_14 rfl) (zdl zlwk_14 rfl) ?_
  refine zl_callM (As := [.int (yXs Y (i + 1)), .int (yXs Y (i + 2))]) (rest := [.int r]) C (k_m_judge _ _ t (r, t') e2) zmk_m_judge zok_m_judge zlm_76 rfl ⟨rfl, rfl⟩ (zdl zlwk_14 rfl) (fun _ => rfl) (fun _ => rfl) rfl rfl rfl ?_
  show zLA Y 650 (lsi Y i) [.int r, .int r] s' t'
  exact zl_end C (zdl zlwk_14 rfl) (by decide) (next s' t' hr)
theorem lc_15 {Y : zLx} (C : zLc Y) {i : Nat} {s t : zSt} (hi : i + 6 ≤ yL Y) (h : yR s t) (next : ∀ s' t', yR s' t' → zLA Y 1376 (lsi Y i) [] s' t') : zLA Y 655 (lsi Y i) [] s t := by
  obtain ⟨r, s', t', e1, e2, hr⟩ := op_seeded h (yXs Y (i + 1))
  refine zl_ld (j := 2) C (zdl zlwk_15 rfl) rfl rfl ?_
  refine zl_arg (kk := 1) C hi (by decide) rfl (zdl zlwk_15 rfl) (zdl zlwk_15 rfl) (zdl zlwk_15 rfl) (zdl zlwk_15 rfl) (zdl zlwk_15 rfl) ?_
  refine zl_callG (As := [.int (yXs Y (i + 1))]) (rest := []) C (k_g_seeded _ s (r, s') e1) zmk_g_seeded zok_g_seeded zlm_77 rfl ⟨rfl, rfl⟩ (zdl zlwk_15 rfl) (fun _ => rfl) (fun _ => rfl) rfl rfl rfl ?_
  show zLA Y 664 (lsi Y i) [.int r] s' t
  refine zl_ld (j := 1) C (zdl zlwk_15 rfl) rfl rfl ?_
  refine zl_arg (kk := 1) C hi (by decide) rfl (zdl zlwk_15 rfl) (zdl zlwk_15 rfl) (zdl zlwk_15 rfl) (zdl zlwk_15 rfl) (zdl zlwk_15 rfl) ?_
  refine zl_callM (As := [.int (yXs Y (i + 1))]) (rest := [.int r]) C (k_m_seeded _ t (r, t') e2) zmk_m_seeded zok_m_seeded zlm_80 rfl ⟨rfl, rfl⟩ (zdl zlwk_15 rfl) (fun _ => rfl) (fun _ => rfl) rfl rfl rfl ?_
  show zLA Y 673 (lsi Y i) [.int r, .int r] s' t'
  exact zl_end C (zdl zlwk_15 rfl) (by decide) (next s' t' hr)
theorem lc_16 {Y : zLx} (C : zLc Y) {i : Nat} {s t : zSt} (hi : i + 6 ≤ yL Y) (h : yR s t) (next : ∀ s' t', yR s' t' → zLA Y 1376 (lsi Y i) [] s' t') : zLA Y 678 (lsi Y i) [] s t := by
  obtain ⟨r, s', t', e1, e2, hr⟩ := op_make h (yXs Y (i + 1)) (yXs Y (i + 2)) (yXs Y (i + 3))
  refine zl_ld (j := 2) C (zdl zlwk_16 rfl) rfl rfl ?_
  refine zl_arg (kk := 1) C hi (by decide) rfl (zdl zlwk_16 rfl) (zdl zlwk_16 rfl) (zdl zlwk_16 rfl) (zdl zlwk_16 rfl) (zdl zlwk_16 rfl) ?_
  refine zl_arg (kk := 2) C hi (by decide) rfl (zdl zlwk_16 rfl) (zdl zlwk_16 rfl) (zdl zlwk_16 rfl) (zdl zlwk_16 rfl) (zdl zlwk_16 rfl) ?_
  refine zl_arg (kk := 3) C hi (by decide) rfl (zdl zlwk_16 rfl) (zdl zlwk_16 rfl) (zdl zlwk_16 rfl) (zdl zlwk_16 rfl) (zdl zlwk_16 rfl) ?_
  refine zl_callG (As := [.int (yXs Y (i + 1)), .int (yXs Y (i + 2)), .int (yXs Y (i + 3))]) (rest := []) C (k_g_make _ _ _ s (r, s') e1) zmk_g_make zok_g_make zlm_81 rfl ⟨rfl, rfl⟩ (zdl zlwk_16 rfl) (fun _ => rfl) (fun _ => rfl) rfl rfl rfl ?_
  show zLA Y 697 (lsi Y i) [.long r] s' t
  refine zl_ld (j := 1) C (zdl zlwk_16 rfl) rfl rfl ?_
  refine zl_arg (kk := 1) C hi (by decide) rfl (zdl zlwk_16 rfl) (zdl zlwk_16 rfl) (zdl zlwk_16 rfl) (zdl zlwk_16 rfl) (zdl zlwk_16 rfl) ?_
  refine zl_arg (kk := 2) C hi (by decide) rfl (zdl zlwk_16 rfl) (zdl zlwk_16 rfl) (zdl zlwk_16 rfl) (zdl zlwk_16 rfl) (zdl zlwk_16 rfl) ?_
  refine zl_arg (kk := 3) C hi (by decide) rfl (zdl zlwk_16 rfl) (zdl zlwk_16 rfl) (zdl zlwk_16 rfl) (zdl zlwk_16 rfl) (zdl zlwk_16 rfl) ?_
  refine zl_callM (As := [.int (yXs Y (i + 1)), .int (yXs Y (i + 2)), .int (yXs Y (i + 3))]) (rest := [.long r]) C (k_m_make _ _ _ t (r, t') e2) zmk_m_make zok_m_make zlm_85 rfl ⟨rfl, rfl⟩ (zdl zlwk_16 rfl) (fun _ => rfl) (fun _ => rfl) rfl rfl rfl ?_
  show zLA Y 716 (lsi Y i) [.long r, .long r] s' t'
  exact zl_endL C (zdl zlwk_16 rfl) (zdl zlwk_16 rfl) (by decide) (next s' t' hr)
theorem lc_17 {Y : zLx} (C : zLc Y) {i : Nat} {s t : zSt} (hi : i + 6 ≤ yL Y) (h : yR s t) (next : ∀ s' t', yR s' t' → zLA Y 1376 (lsi Y i) [] s' t') : zLA Y 722 (lsi Y i) [] s t := by
  obtain ⟨r, s', t', e1, e2, hr⟩ := op_undercut h (yXs Y (i + 1)) (yXs Y (i + 2))
  refine zl_ld (j := 2) C (zdl zlwk_17 rfl) rfl rfl ?_
  refine zl_arg (kk := 1) C hi (by decide) rfl (zdl zlwk_17 rfl) (zdl zlwk_17 rfl) (zdl zlwk_17 rfl) (zdl zlwk_17 rfl) (zdl zlwk_17 rfl) ?_
  refine zl_arg (kk := 2) C hi (by decide) rfl (zdl zlwk_17 rfl) (zdl zlwk_17 rfl) (zdl zlwk_17 rfl) (zdl zlwk_17 rfl) (zdl zlwk_17 rfl) ?_
  refine zl_callG (As := [.int (yXs Y (i + 1)), .int (yXs Y (i + 2))]) (rest := []) C (k_g_undercut _ _ s (r, s') e1) zmk_g_undercut zok_g_undercut zlm_86 rfl ⟨rfl, rfl⟩ (zdl zlwk_17 rfl) (fun _ => rfl) (fun _ => rfl) rfl rfl rfl ?_
  show zLA Y 736 (lsi Y i) [.int r] s' t
  refine zl_ld (j := 1) C (zdl zlwk_17 rfl) rfl rfl ?_
  refine zl_arg (kk := 1) C hi (by decide) rfl (zdl zlwk_17 rfl) (zdl zlwk_17 rfl) (zdl zlwk_17 rfl) (zdl zlwk_17 rfl) (zdl zlwk_17 rfl) ?_
  refine zl_arg (kk := 2) C hi (by decide) rfl (zdl zlwk_17 rfl) (zdl zlwk_17 rfl) (zdl zlwk_17 rfl) (zdl zlwk_17 rfl) (zdl zlwk_17 rfl) ?_
  refine zl_callM (As := [.int (yXs Y (i + 1)), .int (yXs Y (i + 2))]) (rest := [.int r]) C (k_m_undercut _ _ t (r, t') e2) zmk_m_undercut zok_m_undercut zlm_89 rfl ⟨rfl, rfl⟩ (zdl zlwk_17 rfl) (fun _ => rfl) (fun _ => rfl) rfl rfl rfl ?_
  show zLA Y 750 (lsi Y i) [.int r, .int r] s' t'
  exact zl_end C (zdl zlwk_17 rfl) (by decide) (next s' t' hr)
theorem lc_18 {Y : zLx} (C : zLc Y) {i : Nat} {s t : zSt} (hi : i + 6 ≤ yL Y) (h : yR s t) (next : ∀ s' t', yR s' t' → zLA Y 1376 (lsi Y i) [] s' t') : zLA Y 755 (lsi Y i) [] s t := by
  obtain ⟨r, s', t', e1, e2, hr⟩ := op_brings h (yXs Y (i + 1)) (yXs Y (i + 2))
  refine zl_ld (j := 2) C (zdl zlwk_18 rfl) rfl rfl ?_
  refine zl_arg (kk := 1) C hi (by decide) rfl (zdl zlwk_18 rfl) (zdl zlwk_18 rfl) (zdl zlwk_18 rfl) (zdl zlwk_18 rfl) (zdl zlwk_18 rfl) ?_
  refine zl_arg (kk := 2) C hi (by decide) rfl (zdl zlwk_18 rfl) (zdl zlwk_18 rfl) (zdl zlwk_18 rfl) (zdl zlwk_18 rfl) (zdl zlwk_18 rfl) ?_
  refine zl_callG (As := [.int (yXs Y (i + 1)), .int (yXs Y (i + 2))]) (rest := []) C (k_g_brings _ _ s (r, s') e1) zmk_g_brings zok_g_brings zlm_90 rfl ⟨rfl, rfl⟩ (zdl zlwk_18 rfl) (fun _ => rfl) (fun _ => rfl) rfl rfl rfl ?_
  show zLA Y 769 (lsi Y i) [.int r] s' t
  refine zl_ld (j := 1) C (zdl zlwk_18 rfl) rfl rfl ?_
  refine zl_arg (kk := 1) C hi (by decide) rfl (zdl zlwk_18 rfl) (zdl zlwk_18 rfl) (zdl zlwk_18 rfl) (zdl zlwk_18 rfl) (zdl zlwk_18 rfl) ?_
  refine zl_arg (kk := 2) C hi (by decide) rfl (zdl zlwk_18 rfl) (zdl zlwk_18 rfl) (zdl zlwk_18 rfl) (zdl zlwk_18 rfl) (zdl zlwk_18 rfl) ?_
  refine zl_callM (As := [.int (yXs Y (i + 1)), .int (yXs Y (i + 2))]) (rest := [.int r]) C (k_m_brings _ _ t (r, t') e2) zmk_m_brings zok_m_brings zlm_93 rfl ⟨rfl, rfl⟩ (zdl zlwk_18 rfl) (fun _ => rfl) (fun _ => rfl) rfl rfl rfl ?_
  show zLA Y 783 (lsi Y i) [.int r, .int r] s' t'
  exact zl_end C (zdl zlwk_18 rfl) (by decide) (next s' t' hr)
theorem lc_19 {Y : zLx} (C : zLc Y) {i : Nat} {s t : zSt} (hi : i + 6 ≤ yL Y) (h : yR s t) (next : ∀ s' t', yR s' t' → zLA Y 1376 (lsi Y i) [] s' t') : zLA Y 788 (lsi Y i) [] s t := by
  obtain ⟨r, s', t', e1, e2, hr⟩ := op_minutes h (yXs Y (i + 1)) (yXs Y (i + 2))
  refine zl_ld (j := 2) C (zdl zlwk_19 rfl) rfl rfl ?_
  refine zl_arg (kk := 1) C hi (by decide) rfl (zdl zlwk_19 rfl) (zdl zlwk_19 rfl) (zdl zlwk_19 rfl) (zdl zlwk_19 rfl) (zdl zlwk_19 rfl) ?_
  refine zl_arg (kk := 2) C hi (by decide) rfl (zdl zlwk_19 rfl) (zdl zlwk_19 rfl) (zdl zlwk_19 rfl) (zdl zlwk_19 rfl) (zdl zlwk_19 rfl) ?_
  refine zl_callG (As := [.int (yXs Y (i + 1)), .int (yXs Y (i + 2))]) (rest := []) C (k_g_minutes _ _ s (r, s') e1) zmk_g_minutes zok_g_minutes zlm_94 rfl ⟨rfl, rfl⟩ (zdl zlwk_19 rfl) (fun _ => rfl) (fun _ => rfl) rfl rfl rfl ?_
  show zLA Y 802 (lsi Y i) [.int r] s' t
  refine zl_ld (j := 1) C (zdl zlwk_19 rfl) rfl rfl ?_
  refine zl_arg (kk := 1) C hi (by decide) rfl (zdl zlwk_19 rfl) (zdl zlwk_19 rfl) (zdl zlwk_19 rfl) (zdl zlwk_19 rfl) (zdl zlwk_19 rfl) ?_
  refine zl_arg (kk := 2) C hi (by decide) rfl (zdl zlwk_19 rfl) (zdl zlwk_19 rfl) (zdl zlwk_19 rfl) (zdl zlwk_19 rfl) (zdl zlwk_19 rfl) ?_
  refine zl_callM (As := [.int (yXs Y (i + 1)), .int (yXs Y (i + 2))]) (rest := [.int r]) C (k_m_minutes _ _ t (r, t') e2) zmk_m_minutes zok_m_minutes zlm_97 rfl ⟨rfl, rfl⟩ (zdl zlwk_19 rfl) (fun _ => rfl) (fun _ => rfl) rfl rfl rfl ?_
  show zLA Y 816 (lsi Y i) [.int r, .int r] s' t'
  exact zl_end C (zdl zlwk_19 rfl) (by decide) (next s' t' hr)
theorem lc_20 {Y : zLx} (C : zLc Y) {i : Nat} {s t : zSt} (hi : i + 6 ≤ yL Y) (h : yR s t) (next : ∀ s' t', yR s' t' → zLA Y 1376 (lsi Y i) [] s' t') : zLA Y 821 (lsi Y i) [] s t := by
  obtain ⟨r, s', t', e1, e2, hr⟩ := op_share h (yXs Y (i + 1)) (yXs Y (i + 2)) (yXs Y (i + 3))
  refine zl_ld (j := 2) C (zdl zlwk_20 rfl) rfl rfl ?_
  refine zl_arg (kk := 1) C hi (by decide) rfl (zdl zlwk_20 rfl) (zdl zlwk_20 rfl) (zdl zlwk_20 rfl) (zdl zlwk_20 rfl) (zdl zlwk_20 rfl) ?_
  refine zl_arg (kk := 2) C hi (by decide) rfl (zdl zlwk_20 rfl) (zdl zlwk_20 rfl) (zdl zlwk_20 rfl) (zdl zlwk_20 rfl) (zdl zlwk_20 rfl) ?_
  refine zl_arg (kk := 3) C hi (by decide) rfl (zdl zlwk_20 rfl) (zdl zlwk_20 rfl) (zdl zlwk_20 rfl) (zdl zlwk_20 rfl) (zdl zlwk_20 rfl) ?_
  refine zl_callG (As := [.int (yXs Y (i + 1)), .int (yXs Y (i + 2)), .int (yXs Y (i + 3))]) (rest := []) C (k_g_share _ _ _ s (r, s') e1) zmk_g_share zok_g_share zlm_98 rfl ⟨rfl, rfl⟩ (zdl zlwk_20 rfl) (fun _ => rfl) (fun _ => rfl) rfl rfl rfl ?_
  show zLA Y 840 (lsi Y i) [.int r] s' t
  refine zl_ld (j := 1) C (zdl zlwk_20 rfl) rfl rfl ?_
  refine zl_arg (kk := 1) C hi (by decide) rfl (zdl zlwk_20 rfl) (zdl zlwk_20 rfl) (zdl zlwk_20 rfl) (zdl zlwk_20 rfl) (zdl zlwk_20 rfl) ?_
  refine zl_arg (kk := 2) C hi (by decide) rfl (zdl zlwk_20 rfl) (zdl zlwk_20 rfl) (zdl zlwk_20 rfl) (zdl zlwk_20 rfl) (zdl zlwk_20 rfl) ?_
  refine zl_arg (kk := 3) C hi (by decide) rfl (zdl zlwk_20 rfl) (zdl zlwk_20 rfl) (zdl zlwk_20 rfl) (zdl zlwk_20 rfl) (zdl zlwk_20 rfl) ?_
  refine zl_callM (As := [.int (yXs Y (i + 1)), .int (yXs Y (i + 2)), .int (yXs Y (i + 3))]) (rest := [.int r]) C (k_m_share _ _ _ t (r, t') e2) zmk_m_share zok_m_share zlm_101 rfl ⟨rfl, rfl⟩ (zdl zlwk_20 rfl) (fun _ => rfl) (fun _ => rfl) rfl rfl rfl ?_
  show zLA Y 859 (lsi Y i) [.int r, .int r] s' t'
  exact zl_end C (zdl zlwk_20 rfl) (by decide) (next s' t' hr)
theorem lc_21 {Y : zLx} (C : zLc Y) {i : Nat} {s t : zSt} (hi : i + 6 ≤ yL Y) (h : yR s t) (next : ∀ s' t', yR s' t' → zLA Y 1376 (lsi Y i) [] s' t') : zLA Y 864 (lsi Y i) [] s t := by
  obtain ⟨r, s', t', e1, e2, hr⟩ := op_slate h (yXs Y (i + 1)) (yXs Y (i + 2))
  refine zl_ld (j := 2) C (zdl zlwk_21 rfl) rfl rfl ?_
  refine zl_arg (kk := 1) C hi (by decide) rfl (zdl zlwk_21 rfl) (zdl zlwk_21 rfl) (zdl zlwk_21 rfl) (zdl zlwk_21 rfl) (zdl zlwk_21 rfl) ?_
  refine zl_arg (kk := 2) C hi (by decide) rfl (zdl zlwk_21 rfl) (zdl zlwk_21 rfl) (zdl zlwk_21 rfl) (zdl zlwk_21 rfl) (zdl zlwk_21 rfl) ?_
  refine zl_callG (As := [.int (yXs Y (i + 1)), .int (yXs Y (i + 2))]) (rest := []) C (k_g_slate _ _ s (r, s') e1) zmk_g_slate zok_g_slate zlm_102 rfl ⟨rfl, rfl⟩ (zdl zlwk_21 rfl) (fun _ => rfl) (fun _ => rfl) rfl rfl rfl ?_
  show zLA Y 878 (lsi Y i) [.int r] s' t
  refine zl_ld (j := 1) C (zdl zlwk_21 rfl) rfl rfl ?_
  refine zl_arg (kk := 1) C hi (by decide) rfl (zdl zlwk_21 rfl) (zdl zlwk_21 rfl) (zdl zlwk_21 rfl) (zdl zlwk_21 rfl) (zdl zlwk_21 rfl) ?_
  refine zl_arg (kk := 2) C hi (by decide) rfl (zdl zlwk_21 rfl) (zdl zlwk_21 rfl) (zdl zlwk_21 rfl) (zdl zlwk_21 rfl) (zdl zlwk_21 rfl) ?_
  refine zl_callM (As := [.int (yXs Y (i + 1)), .int (yXs Y (i + 2))]) (rest := [.int r]) C (k_m_slate _ _ t (r, t') e2) zmk_m_slate zok_m_slate zlm_105 rfl ⟨rfl, rfl⟩ (zdl zlwk_21 rfl) (fun _ => rfl) (fun _ => rfl) rfl rfl rfl ?_
  show zLA Y 892 (lsi Y i) [.int r, .int r] s' t'
  exact zl_end C (zdl zlwk_21 rfl) (by decide) (next s' t' hr)
theorem lc_22 {Y : zLx} (C : zLc Y) {i : Nat} {s t : zSt} (hi : i + 6 ≤ yL Y) (h : yR s t) (next : ∀ s' t', yR s' t' → zLA Y 1376 (lsi Y i) [] s' t') : zLA Y 897 (lsi Y i) [] s t := by
  obtain ⟨r, s', t', e1, e2, hr⟩ := op_owes h (yXs Y (i + 1))
  refine zl_ld (j := 2) C (zdl zlwk_22 rfl) rfl rfl ?_
  refine zl_arg (kk := 1) C hi (by decide) rfl (zdl zlwk_22 rfl) (zdl zlwk_22 rfl) (zdl zlwk_22 rfl) (zdl zlwk_22 rfl) (zdl zlwk_22 rfl) ?_
  refine zl_callG (As := [.int (yXs Y (i + 1))]) (rest := []) C (k_g_owes _ s (r, s') e1) zmk_g_owes zok_g_owes zlm_106 rfl ⟨rfl, rfl⟩ (zdl zlwk_22 rfl) (fun _ => rfl) (fun _ => rfl) rfl rfl rfl ?_
  show zLA Y 906 (lsi Y i) [.int r] s' t
  refine zl_ld (j := 1) C (zdl zlwk_22 rfl) rfl rfl ?_
  refine zl_arg (kk := 1) C hi (by decide) rfl (zdl zlwk_22 rfl) (zdl zlwk_22 rfl) (zdl zlwk_22 rfl) (zdl zlwk_22 rfl) (zdl zlwk_22 rfl) ?_
  refine zl_callM (As := [.int (yXs Y (i + 1))]) (rest := [.int r]) C (k_m_owes _ t (r, t') e2) zmk_m_owes zok_m_owes zlm_109 rfl ⟨rfl, rfl⟩ (zdl zlwk_22 rfl) (fun _ => rfl) (fun _ => rfl) rfl rfl rfl ?_
  show zLA Y 915 (lsi Y i) [.int r, .int r] s' t'
  exact zl_end C (zdl zlwk_22 rfl) (by decide) (next s' t' hr)
theorem lc_23 {Y : zLx} (C : zLc Y) {i : Nat} {s t : zSt} (hi : i + 6 ≤ yL Y) (h : yR s t) (next : ∀ s' t', yR s' t' → zLA Y 1376 (lsi Y i) [] s' t') : zLA Y 920 (lsi Y i) [] s t := by
  obtain ⟨r, s', t', e1, e2, hr⟩ := op_wiped h 
  refine zl_ld (j := 2) C (zdl zlwk_23 rfl) rfl rfl ?_
  refine zl_callG (As := []) (rest := []) C (k_g_wiped  s (r, s') e1) zmk_g_wiped zok_g_wiped zlm_110 rfl ⟨rfl, rfl⟩ (zdl zlwk_23 rfl) (fun _ => rfl) (fun _ => rfl) rfl rfl rfl ?_
  show zLA Y 924 (lsi Y i) [.int r] s' t
  refine zl_ld (j := 1) C (zdl zlwk_23 rfl) rfl rfl ?_
  refine zl_callM (As := []) (rest := [.int r]) C (k_m_wiped  t (r, t') e2) zmk_m_wiped zok_m_wiped zlm_113 rfl ⟨rfl, rfl⟩ (zdl zlwk_23 rfl) (fun _ => rfl) (fun _ => rfl) rfl rfl rfl ?_
  show zLA Y 928 (lsi Y i) [.int r, .int r] s' t'
  exact zl_end C (zdl zlwk_23 rfl) (by decide) (next s' t' hr)
theorem lc_24 {Y : zLx} (C : zLc Y) {i : Nat} {s t : zSt} (hi : i + 6 ≤ yL Y) (h : yR s t) (next : ∀ s' t', yR s' t' → zLA Y 1376 (lsi Y i) [] s' t') : zLA Y 933 (lsi Y i) [] s t := by
  obtain ⟨r, s', t', e1, e2, hr⟩ := op_image h 
  refine zl_ld (j := 2) C (zdl zlwk_24 rfl) rfl rfl ?_
  refine zl_callG (As := []) (rest := []) C (k_g_image  s (r, s') e1) zmk_g_image zok_g_image zlm_114 rfl ⟨rfl, rfl⟩ (zdl zlwk_24 rfl) (fun _ => rfl) (fun _ => rfl) rfl rfl rfl ?_
  show zLA Y 937 (lsi Y i) [.int r] s' t
  refine zl_ld (j := 1) C (zdl zlwk_24 rfl) rfl rfl ?_
  refine zl_callM (As := []) (rest := [.int r]) C (k_m_image  t (r, t') e2) zmk_m_image zok_m_image zlm_117 rfl ⟨rfl, rfl⟩ (zdl zlwk_24 rfl) (fun _ => rfl) (fun _ => rfl) rfl rfl rfl ?_
  show zLA Y 941 (lsi Y i) [.int r, .int r] s' t'
  exact zl_end C (zdl zlwk_24 rfl) (by decide) (next s' t' hr)
theorem lc_25 {Y : zLx} (C : zLc Y) {i : Nat} {s t : zSt} (hi : i + 6 ≤ yL Y) (h : yR s t) (next : ∀ s' t', yR s' t' → zLA Y 1376 (lsi Y i) [] s' t') : zLA Y 946 (lsi Y i) [] s t := by
  obtain ⟨r, s', t', e1, e2, hr⟩ := op_back h 
  refine zl_ld (j := 2) C (zdl zlwk_25 rfl) rfl rfl ?_
  refine zl_callG (As := []) (rest := []) C (k_g_back  s (r, s') e1) zmk_g_back zok_g_back zlm_118 rfl ⟨rfl, rfl⟩ (zdl zlwk_25 rfl) (fun _ => rfl) (fun _ => rfl) rfl rfl rfl ?_
  show zLA Y 950 (lsi Y i) [.int r] s' t
  refine zl_ld (j := 1) C (zdl zlwk_25 rfl) rfl rfl ?_
  refine zl_callM (As := []) (rest := [.int r]) C (k_m_back  t (r, t') e2) zmk_m_back zok_m_back zlm_121 rfl ⟨rfl, rfl⟩ (zdl zlwk_25 rfl) (fun _ => rfl) (fun _ => rfl) rfl rfl rfl ?_
  show zLA Y 954 (lsi Y i) [.int r, .int r] s' t'
  exact zl_end C (zdl zlwk_25 rfl) (by decide) (next s' t' hr)
theorem lc_26 {Y : zLx} (C : zLc Y) {i : Nat} {s t : zSt} (hi : i + 6 ≤ yL Y) (h : yR s t) (next : ∀ s' t', yR s' t' → zLA Y 1376 (lsi Y i) [] s' t') : zLA Y 959 (lsi Y i) [] s t := by
  obtain ⟨r, s', t', e1, e2, hr⟩ := op_undo h 
  refine zl_ld (j := 2) C (zdl zlwk_26 rfl) rfl rfl ?_
  refine zl_callG (As := []) (rest := []) C (k_g_undo  s (r, s') e1) zmk_g_undo zok_g_undo zlm_122 rfl ⟨rfl, rfl⟩ (zdl zlwk_26 rfl) (fun _ => rfl) (fun _ => rfl) rfl rfl rfl ?_
  show zLA Y 963 (lsi Y i) [.int r] s' t
  refine zl_ld (j := 1) C (zdl zlwk_26 rfl) rfl rfl ?_
  refine zl_callM (As := []) (rest := [.int r]) C (k_m_undo  t (r, t') e2) zmk_m_undo zok_m_undo zlm_125 rfl ⟨rfl, rfl⟩ (zdl zlwk_26 rfl) (fun _ => rfl) (fun _ => rfl) rfl rfl rfl ?_
  show zLA Y 967 (lsi Y i) [.int r, .int r] s' t'
  exact zl_end C (zdl zlwk_26 rfl) (by decide) (next s' t' hr)
theorem lc_27 {Y : zLx} (C : zLc Y) {i : Nat} {s t : zSt} (hi : i + 6 ≤ yL Y) (h : yR s t) (next : ∀ s' t', yR s' t' → zLA Y 1376 (lsi Y i) [] s' t') : zLA Y 972 (lsi Y i) [] s t := by
  obtain ⟨r, s', t', e1, e2, hr⟩ := op_redo h 
  refine zl_ld (j := 2) C (zdl zlwk_27 rfl) rfl rfl ?_
  refine zl_callG (As := []) (rest := []) C (k_g_redo  s (r, s') e1) zmk_g_redo zok_g_redo zlm_126 rfl ⟨rfl, rfl⟩ (zdl zlwk_27 rfl) (fun _ => rfl) (fun _ => rfl) rfl rfl rfl ?_
  show zLA Y 976 (lsi Y i) [.int r] s' t
  refine zl_ld (j := 1) C (zdl zlwk_27 rfl) rfl rfl ?_
  refine zl_callM (As := []) (rest := [.int r]) C (k_m_redo  t (r, t') e2) zmk_m_redo zok_m_redo zlm_129 rfl ⟨rfl, rfl⟩ (zdl zlwk_27 rfl) (fun _ => rfl) (fun _ => rfl) rfl rfl rfl ?_
  show zLA Y 980 (lsi Y i) [.int r, .int r] s' t'
  exact zl_end C (zdl zlwk_27 rfl) (by decide) (next s' t' hr)
theorem lc_28 {Y : zLx} (C : zLc Y) {i : Nat} {s t : zSt} (hi : i + 6 ≤ yL Y) (h : yR s t) (next : ∀ s' t', yR s' t' → zLA Y 1376 (lsi Y i) [] s' t') : zLA Y 985 (lsi Y i) [] s t := by
  obtain ⟨r, s', t', e1, e2, hr⟩ := op_body h (yXs Y (i + 1))
  refine zl_ld (j := 2) C (zdl zlwk_28 rfl) rfl rfl ?_
  refine zl_arg (kk := 1) C hi (by decide) rfl (zdl zlwk_28 rfl) (zdl zlwk_28 rfl) (zdl zlwk_28 rfl) (zdl zlwk_28 rfl) (zdl zlwk_28 rfl) ?_
  refine zl_callG (As := [.int (yXs Y (i + 1))]) (rest := []) C (k_g_body _ s (r, s') e1) zmk_g_body zok_g_body zlm_130 rfl ⟨rfl, rfl⟩ (zdl zlwk_28 rfl) (fun _ => rfl) (fun _ => rfl) rfl rfl rfl ?_
  show zLA Y 994 (lsi Y i) [.int r] s' t
  refine zl_ld (j := 1) C (zdl zlwk_28 rfl) rfl rfl ?_
  refine zl_arg (kk := 1) C hi (by decide) rfl (zdl zlwk_28 rfl) (zdl zlwk_28 rfl) (zdl zlwk_28 rfl) (zdl zlwk_28 rfl) (zdl zlwk_28 rfl) ?_
  refine zl_callM (As := [.int (yXs Y (i + 1))]) (rest := [.int r]) C (k_m_body _ t (r, t') e2) zmk_m_body zok_m_body zlm_133 rfl ⟨rfl, rfl⟩ (zdl zlwk_28 rfl) (fun _ => rfl) (fun _ => rfl) rfl rfl rfl ?_
  show zLA Y 1003 (lsi Y i) [.int r, .int r] s' t'
  exact zl_end C (zdl zlwk_28 rfl) (by decide) (next s' t' hr)
theorem lc_29 {Y : zLx} (C : zLc Y) {i : Nat} {s t : zSt} (hi : i + 6 ≤ yL Y) (h : yR s t) (next : ∀ s' t', yR s' t' → zLA Y 1376 (lsi Y i) [] s' t') : zLA Y 1008 (lsi Y i) [] s t := by
  obtain ⟨r, s', t', e1, e2, hr⟩ := op_act h (yXs Y (i + 1)) (yXs Y (i + 2)) (yXs Y (i + 3))
  refine zl_ld (j := 2) C (zdl zlwk_29 rfl) rfl rfl ?_
  refine zl_arg (kk := 1) C hi (by decide) rfl (zdl zlwk_29 rfl) (zdl zlwk_29 rfl) (zdl zlwk_29 rfl) (zdl zlwk_29 rfl) (zdl zlwk_29 rfl) ?_
  refine zl_arg (kk := 2) C hi (by decide) rfl (zdl zlwk_29 rfl) (zdl zlwk_29 rfl) (zdl zlwk_29 rfl) (zdl zlwk_29 rfl) (zdl zlwk_29 rfl) ?_
  refine zl_arg (kk := 3) C hi (by decide) rfl (zdl zlwk_29 rfl) (zdl zlwk_29 rfl) (zdl zlwk_29 rfl) (zdl zlwk_29 rfl) (zdl zlwk_29 rfl) ?_
  refine zl_callG (As := [.int (yXs Y (i + 1)), .int (yXs Y (i + 2)), .int (yXs Y (i + 3))]) (rest := []) C (k_g_act _ _ _ s (r, s') e1) zmk_g_act zok_g_act zlm_134 rfl ⟨rfl, rfl⟩ (zdl zlwk_29 rfl) (fun _ => rfl) (fun _ => rfl) rfl rfl rfl ?_
  show zLA Y 1027 (lsi Y i) [.int r] s' t
  refine zl_ld (j := 1) C (zdl zlwk_29 rfl) rfl rfl ?_
  refine zl_arg (kk := 1) C hi (by decide) rfl (zdl zlwk_29 rfl) (zdl zlwk_29 rfl) (zdl zlwk_29 rfl) (zdl zlwk_29 rfl) (zdl zlwk_29 rfl) ?_
  refine zl_arg (kk := 2) C hi (by decide) rfl (zdl zlwk_29 rfl) (zdl zlwk_29 rfl) (zdl zlwk_29 rfl) (zdl zlwk_29 rfl) (zdl zlwk_29 rfl) ?_
  refine zl_arg (kk := 3) C hi (by decide) rfl (zdl zlwk_29 rfl) (zdl zlwk_29 rfl) (zdl zlwk_29 rfl) (zdl zlwk_29 rfl) (zdl zlwk_29 rfl) ?_
  refine zl_callM (As := [.int (yXs Y (i + 1)), .int (yXs Y (i + 2)), .int (yXs Y (i + 3))]) (rest := [.int r]) C (k_m_act _ _ _ t (r, t') e2) zmk_m_act zok_m_act zlm_137 rfl ⟨rfl, rfl⟩ (zdl zlwk_29 rfl) (fun _ => rfl) (fun _ => rfl) rfl rfl rfl ?_
  show zLA Y 1046 (lsi Y i) [.int r, .int r] s' t'
  exact zl_end C (zdl zlwk_29 rfl) (by decide) (next s' t' hr)
theorem lc_30 {Y : zLx} (C : zLc Y) {i : Nat} {s t : zSt} (hi : i + 6 ≤ yL Y) (h : yR s t) (next : ∀ s' t', yR s' t' → zLA Y 1376 (lsi Y i) [] s' t') : zLA Y 1051 (lsi Y i) [] s t := by
  obtain ⟨r, s', t', e1, e2, hr⟩ := op_trace h (yXs Y (i + 1))
  refine zl_ld (j := 2) C (zdl zlwk_30 rfl) rfl rfl ?_
  refine zl_arg (kk := 1) C hi (by decide) rfl (zdl zlwk_30 rfl) (zdl zlwk_30 rfl) (zdl zlwk_30 rfl) (zdl zlwk_30 rfl) (zdl zlwk_30 rfl) ?_
  refine zl_callG (As := [.int (yXs Y (i + 1))]) (rest := []) C (k_g_trace _ s (r, s') e1) zmk_g_trace zok_g_trace zlm_138 rfl ⟨rfl, rfl⟩ (zdl zlwk_30 rfl) (fun _ => rfl) (fun _ => rfl) rfl rfl rfl ?_
  show zLA Y 1060 (lsi Y i) [.int r] s' t
  refine zl_ld (j := 1) C (zdl zlwk_30 rfl) rfl rfl ?_
  refine zl_arg (kk := 1) C hi (by decide) rfl (zdl zlwk_30 rfl) (zdl zlwk_30 rfl) (zdl zlwk_30 rfl) (zdl zlwk_30 rfl) (zdl zlwk_30 rfl) ?_
  refine zl_callM (As := [.int (yXs Y (i + 1))]) (rest := [.int r]) C (k_m_trace _ t (r, t') e2) zmk_m_trace zok_m_trace zlm_141 rfl ⟨rfl, rfl⟩ (zdl zlwk_30 rfl) (fun _ => rfl) (fun _ => rfl) rfl rfl rfl ?_
  show zLA Y 1069 (lsi Y i) [.int r, .int r] s' t'
  exact zl_end C (zdl zlwk_30 rfl) (by decide) (next s' t' hr)
theorem lc_31 {Y : zLx} (C : zLc Y) {i : Nat} {s t : zSt} (hi : i + 6 ≤ yL Y) (h : yR s t) (next : ∀ s' t', yR s' t' → zLA Y 1376 (lsi Y i) [] s' t') : zLA Y 1074 (lsi Y i) [] s t := by
  obtain ⟨r, s', t', e1, e2, hr⟩ := op_keep h (yXs Y (i + 1)) (yXs Y (i + 2))
  refine zl_ld (j := 2) C (zdl zlwk_31 rfl) rfl rfl ?_
  refine zl_arg (kk := 1) C hi (by decide) rfl (zdl zlwk_31 rfl) (zdl zlwk_31 rfl) (zdl zlwk_31 rfl) (zdl zlwk_31 rfl) (zdl zlwk_31 rfl) ?_
  refine zl_arg (kk := 2) C hi (by decide) rfl (zdl zlwk_31 rfl) (zdl zlwk_31 rfl) (zdl zlwk_31 rfl) (zdl zlwk_31 rfl) (zdl zlwk_31 rfl) ?_
  refine zl_callG (As := [.int (yXs Y (i + 1)), .int (yXs Y (i + 2))]) (rest := []) C (k_g_keep _ _ s (r, s') e1) zmk_g_keep zok_g_keep zlm_142 rfl ⟨rfl, rfl⟩ (zdl zlwk_31 rfl) (fun _ => rfl) (fun _ => rfl) rfl rfl rfl ?_
  show zLA Y 1088 (lsi Y i) [.int r] s' t
  refine zl_ld (j := 1) C (zdl zlwk_31 rfl) rfl rfl ?_
  refine zl_arg (kk := 1) C hi (by decide) rfl (zdl zlwk_31 rfl) (zdl zlwk_31 rfl) (zdl zlwk_31 rfl) (zdl zlwk_31 rfl) (zdl zlwk_31 rfl) ?_
  refine zl_arg (kk := 2) C hi (by decide) rfl (zdl zlwk_31 rfl) (zdl zlwk_31 rfl) (zdl zlwk_31 rfl) (zdl zlwk_31 rfl) (zdl zlwk_31 rfl) ?_
  refine zl_callM (As := [.int (yXs Y (i + 1)), .int (yXs Y (i + 2))]) (rest := [.int r]) C (k_m_keep _ _ t (r, t') e2) zmk_m_keep zok_m_keep zlm_145 rfl ⟨rfl, rfl⟩ (zdl zlwk_31 rfl) (fun _ => rfl) (fun _ => rfl) rfl rfl rfl ?_
  show zLA Y 1102 (lsi Y i) [.int r, .int r] s' t'
  exact zl_end C (zdl zlwk_31 rfl) (by decide) (next s' t' hr)
theorem lc_32 {Y : zLx} (C : zLc Y) {i : Nat} {s t : zSt} (hi : i + 6 ≤ yL Y) (h : yR s t) (next : ∀ s' t', yR s' t' → zLA Y 1376 (lsi Y i) [] s' t') : zLA Y 1107 (lsi Y i) [] s t := by
  obtain ⟨r, s', t', e1, e2, hr⟩ := op_row h (yXs Y (i + 1)) (yXs Y (i + 2)) (yXs Y (i + 3))
  refine zl_ld (j := 2) C (zdl zlwk_32 rfl) rfl rfl ?_
  refine zl_arg (kk := 1) C hi (by decide) rfl (zdl zlwk_32 rfl) (zdl zlwk_32 rfl) (zdl zlwk_32 rfl) (zdl zlwk_32 rfl) (zdl zlwk_32 rfl) ?_
  refine zl_arg (kk := 2) C hi (by decide) rfl (zdl zlwk_32 rfl) (zdl zlwk_32 rfl) (zdl zlwk_32 rfl) (zdl zlwk_32 rfl) (zdl zlwk_32 rfl) ?_
  refine zl_arg (kk := 3) C hi (by decide) rfl (zdl zlwk_32 rfl) (zdl zlwk_32 rfl) (zdl zlwk_32 rfl) (zdl zlwk_32 rfl) (zdl zlwk_32 rfl) ?_
  refine zl_callG (As := [.int (yXs Y (i + 1)), .int (yXs Y (i + 2)), .int (yXs Y (i + 3))]) (rest := []) C (k_g_row _ _ _ s (r, s') e1) zmk_g_row zok_g_row zlm_146 rfl ⟨rfl, rfl⟩ (zdl zlwk_32 rfl) (fun _ => rfl) (fun _ => rfl) rfl rfl rfl ?_
  show zLA Y 1126 (lsi Y i) [.int r] s' t
  refine zl_ld (j := 1) C (zdl zlwk_32 rfl) rfl rfl ?_
  refine zl_arg (kk := 1) C hi (by decide) rfl (zdl zlwk_32 rfl) (zdl zlwk_32 rfl) (zdl zlwk_32 rfl) (zdl zlwk_32 rfl) (zdl zlwk_32 rfl) ?_
  refine zl_arg (kk := 2) C hi (by decide) rfl (zdl zlwk_32 rfl) (zdl zlwk_32 rfl) (zdl zlwk_32 rfl) (zdl zlwk_32 rfl) (zdl zlwk_32 rfl) ?_
  refine zl_arg (kk := 3) C hi (by decide) rfl (zdl zlwk_32 rfl) (zdl zlwk_32 rfl) (zdl zlwk_32 rfl) (zdl zlwk_32 rfl) (zdl zlwk_32 rfl) ?_
  refine zl_callM (As := [.int (yXs Y (i + 1)), .int (yXs Y (i + 2)), .int (yXs Y (i + 3))]) (rest := [.int r]) C (k_m_row _ _ _ t (r, t') e2) zmk_m_row zok_m_row zlm_149 rfl ⟨rfl, rfl⟩ (zdl zlwk_32 rfl) (fun _ => rfl) (fun _ => rfl) rfl rfl rfl ?_
  show zLA Y 1145 (lsi Y i) [.int r, .int r] s' t'
  exact zl_end C (zdl zlwk_32 rfl) (by decide) (next s' t' hr)
theorem lc_33 {Y : zLx} (C : zLc Y) {i : Nat} {s t : zSt} (hi : i + 6 ≤ yL Y) (h : yR s t) (next : ∀ s' t', yR s' t' → zLA Y 1376 (lsi Y i) [] s' t') : zLA Y 1150 (lsi Y i) [] s t := by
  obtain ⟨r, s', t', e1, e2, hr⟩ := op_put h (yXs Y (i + 1)) (yXs Y (i + 2)) (yPv (yXs Y (i + 3)) (yXs Y (i + 4)))
  refine zl_ld (j := 2) C (zdl zlwk_33 rfl) rfl rfl ?_
  refine zl_arg (kk := 1) C hi (by decide) rfl (zdl zlwk_33 rfl) (zdl zlwk_33 rfl) (zdl zlwk_33 rfl) (zdl zlwk_33 rfl) (zdl zlwk_33 rfl) ?_
  refine zl_arg (kk := 2) C hi (by decide) rfl (zdl zlwk_33 rfl) (zdl zlwk_33 rfl) (zdl zlwk_33 rfl) (zdl zlwk_33 rfl) (zdl zlwk_33 rfl) ?_
  refine zl_arg (kk := 3) C hi (by decide) rfl (zdl zlwk_33 rfl) (zdl zlwk_33 rfl) (zdl zlwk_33 rfl) (zdl zlwk_33 rfl) (zdl zlwk_33 rfl) ?_
  refine zl_long C hi (by decide) rfl (zdl zlwk_33 rfl) (zdl zlwk_33 rfl) (zdl zlwk_33 rfl) (zdl zlwk_33 rfl) (zdl zlwk_33 rfl) (zdl zlwk_33 rfl) (zdl zlwk_33 rfl) (zdl zlwk_33 rfl) (zdl zlwk_33 rfl) (zdl zlwk_33 rfl) (zdl zlwk_33 rfl) (zdl zlwk_33 rfl) ?_
  refine zl_callG (As := [.int (yXs Y (i + 1)), .int (yXs Y (i + 2)), .long (yPv (yXs Y (i + 3)) (yXs Y (i + 4)))]) (rest := []) C (k_g_put _ _ _ s (r, s') e1) zmk_g_put zok_g_put zlm_152 rfl ⟨rfl, rfl⟩ (zdl zlwk_33 rfl) (fun _ => rfl) (fun _ => rfl) rfl rfl rfl ?_
  show zLA Y 1184 (lsi Y i) [.int r] s' t
  refine zl_ld (j := 1) C (zdl zlwk_33 rfl) rfl rfl ?_
  refine zl_arg (kk := 1) C hi (by decide) rfl (zdl zlwk_33 rfl) (zdl zlwk_33 rfl) (zdl zlwk_33 rfl) (zdl zlwk_33 rfl) (zdl zlwk_33 rfl) ?_
  refine zl_arg (kk := 2) C hi (by decide) rfl (zdl zlwk_33 rfl) (zdl zlwk_33 rfl) (zdl zlwk_33 rfl) (zdl zlwk_33 rfl) (zdl zlwk_33 rfl) ?_
  refine zl_arg (kk := 3) C hi (by decide) rfl (zdl zlwk_33 rfl) (zdl zlwk_33 rfl) (zdl zlwk_33 rfl) (zdl zlwk_33 rfl) (zdl zlwk_33 rfl) ?_
  refine zl_long C hi (by decide) rfl (zdl zlwk_33 rfl) (zdl zlwk_33 rfl) (zdl zlwk_33 rfl) (zdl zlwk_33 rfl) (zdl zlwk_33 rfl) (zdl zlwk_33 rfl) (zdl zlwk_33 rfl) (zdl zlwk_33 rfl) (zdl zlwk_33 rfl) (zdl zlwk_33 rfl) (zdl zlwk_33 rfl) (zdl zlwk_33 rfl) ?_
  refine zl_callM (As := [.int (yXs Y (i + 1)), .int (yXs Y (i + 2)), .long (yPv (yXs Y (i + 3)) (yXs Y (i + 4)))]) (rest := [.int r]) C (k_m_put _ _ _ t (r, t') e2) zmk_m_put zok_m_put zlm_156 rfl ⟨rfl, rfl⟩ (zdl zlwk_33 rfl) (fun _ => rfl) (fun _ => rfl) rfl rfl rfl ?_
  show zLA Y 1218 (lsi Y i) [.int r, .int r] s' t'
  exact zl_end C (zdl zlwk_33 rfl) (by decide) (next s' t' hr)
theorem lc_34 {Y : zLx} (C : zLc Y) {i : Nat} {s t : zSt} (hi : i + 6 ≤ yL Y) (h : yR s t) (next : ∀ s' t', yR s' t' → zLA Y 1376 (lsi Y i) [] s' t') : zLA Y 1223 (lsi Y i) [] s t := by
  obtain ⟨r, s', t', e1, e2, hr⟩ := op_element h (yXs Y (i + 1)) (yXs Y (i + 2))
  refine zl_ld (j := 2) C (zdl zlwk_34 rfl) rfl rfl ?_
  refine zl_arg (kk := 1) C hi (by decide) rfl (zdl zlwk_34 rfl) (zdl zlwk_34 rfl) (zdl zlwk_34 rfl) (zdl zlwk_34 rfl) (zdl zlwk_34 rfl) ?_
  refine zl_arg (kk := 2) C hi (by decide) rfl (zdl zlwk_34 rfl) (zdl zlwk_34 rfl) (zdl zlwk_34 rfl) (zdl zlwk_34 rfl) (zdl zlwk_34 rfl) ?_
  refine zl_callG (As := [.int (yXs Y (i + 1)), .int (yXs Y (i + 2))]) (rest := []) C (k_g_element _ _ s (r, s') e1) zmk_g_element zok_g_element zlm_157 rfl ⟨rfl, rfl⟩ (zdl zlwk_34 rfl) (fun _ => rfl) (fun _ => rfl) rfl rfl rfl ?_
  show zLA Y 1237 (lsi Y i) [.long r] s' t
  refine zl_ld (j := 1) C (zdl zlwk_34 rfl) rfl rfl ?_
  refine zl_arg (kk := 1) C hi (by decide) rfl (zdl zlwk_34 rfl) (zdl zlwk_34 rfl) (zdl zlwk_34 rfl) (zdl zlwk_34 rfl) (zdl zlwk_34 rfl) ?_
  refine zl_arg (kk := 2) C hi (by decide) rfl (zdl zlwk_34 rfl) (zdl zlwk_34 rfl) (zdl zlwk_34 rfl) (zdl zlwk_34 rfl) (zdl zlwk_34 rfl) ?_
  refine zl_callM (As := [.int (yXs Y (i + 1)), .int (yXs Y (i + 2))]) (rest := [.long r]) C (k_m_element _ _ t (r, t') e2) zmk_m_element zok_m_element zlm_161 rfl ⟨rfl, rfl⟩ (zdl zlwk_34 rfl) (fun _ => rfl) (fun _ => rfl) rfl rfl rfl ?_
  show zLA Y 1251 (lsi Y i) [.long r, .long r] s' t'
  exact zl_endL C (zdl zlwk_34 rfl) (zdl zlwk_34 rfl) (by decide) (next s' t' hr)
theorem lc_35 {Y : zLx} (C : zLc Y) {i : Nat} {s t : zSt} (hi : i + 6 ≤ yL Y) (h : yR s t) (next : ∀ s' t', yR s' t' → zLA Y 1376 (lsi Y i) [] s' t') : zLA Y 1257 (lsi Y i) [] s t := by
  obtain ⟨r, s', t', e1, e2, hr⟩ := op_shift h (yXs Y (i + 1)) (yXs Y (i + 2)) (yXs Y (i + 3)) (yXs Y (i + 4)) (yXs Y (i + 5))
  refine zl_ld (j := 2) C (zdl zlwk_35 rfl) rfl rfl ?_
  refine zl_arg (kk := 1) C hi (by decide) rfl (zdl zlwk_35 rfl) (zdl zlwk_35 rfl) (zdl zlwk_35 rfl) (zdl zlwk_35 rfl) (zdl zlwk_35 rfl) ?_
  refine zl_arg (kk := 2) C hi (by decide) rfl (zdl zlwk_35 rfl) (zdl zlwk_35 rfl) (zdl zlwk_35 rfl) (zdl zlwk_35 rfl) (zdl zlwk_35 rfl) ?_
  refine zl_arg (kk := 3) C hi (by decide) rfl (zdl zlwk_35 rfl) (zdl zlwk_35 rfl) (zdl zlwk_35 rfl) (zdl zlwk_35 rfl) (zdl zlwk_35 rfl) ?_
  refine zl_arg (kk := 4) C hi (by decide) rfl (zdl zlwk_35 rfl) (zdl zlwk_35 rfl) (zdl zlwk_35 rfl) (zdl zlwk_35 rfl) (zdl zlwk_35 rfl) ?_
  refine zl_arg (kk := 5) C hi (by decide) rfl (zdl zlwk_35 rfl) (zdl zlwk_35 rfl) (zdl zlwk_35 rfl) (zdl zlwk_35 rfl) (zdl zlwk_35 rfl) ?_
  refine zl_callG (As := [.int (yXs Y (i + 1)), .int (yXs Y (i + 2)), .int (yXs Y (i + 3)), .int (yXs Y (i + 4)), .int (yXs Y (i + 5))]) (rest := []) C (k_g_shift _ _ _ _ _ s (r, s') e1) zmk_g_shift zok_g_shift zlm_162 rfl ⟨rfl, rfl⟩ (zdl zlwk_35 rfl) (fun _ => rfl) (fun _ => rfl) rfl rfl rfl ?_
  show zLA Y 1286 (lsi Y i) [.int r] s' t
  refine zl_ld (j := 1) C (zdl zlwk_35 rfl) rfl rfl ?_
  refine zl_arg (kk := 1) C hi (by decide) rfl (zdl zlwk_35 rfl) (zdl zlwk_35 rfl) (zdl zlwk_35 rfl) (zdl zlwk_35 rfl) (zdl zlwk_35 rfl) ?_
  refine zl_arg (kk := 2) C hi (by decide) rfl (zdl zlwk_35 rfl) (zdl zlwk_35 rfl) (zdl zlwk_35 rfl) (zdl zlwk_35 rfl) (zdl zlwk_35 rfl) ?_
  refine zl_arg (kk := 3) C hi (by decide) rfl (zdl zlwk_35 rfl) (zdl zlwk_35 rfl) (zdl zlwk_35 rfl) (zdl zlwk_35 rfl) (zdl zlwk_35 rfl) ?_
  refine zl_arg (kk := 4) C hi (by decide) rfl (zdl zlwk_35 rfl) (zdl zlwk_35 rfl) (zdl zlwk_35 rfl) (zdl zlwk_35 rfl) (zdl zlwk_35 rfl) ?_
  refine zl_arg (kk := 5) C hi (by decide) rfl (zdl zlwk_35 rfl) (zdl zlwk_35 rfl) (zdl zlwk_35 rfl) (zdl zlwk_35 rfl) (zdl zlwk_35 rfl) ?_
  refine zl_callM (As := [.int (yXs Y (i + 1)), .int (yXs Y (i + 2)), .int (yXs Y (i + 3)), .int (yXs Y (i + 4)), .int (yXs Y (i + 5))]) (rest := [.int r]) C (k_m_shift _ _ _ _ _ t (r, t') e2) zmk_m_shift zok_m_shift zlm_166 rfl ⟨rfl, rfl⟩ (zdl zlwk_35 rfl) (fun _ => rfl) (fun _ => rfl) rfl rfl rfl ?_
  show zLA Y 1315 (lsi Y i) [.int r, .int r] s' t'
  exact zl_end C (zdl zlwk_35 rfl) (by decide) (next s' t' hr)
theorem lc_36 {Y : zLx} (C : zLc Y) {i : Nat} {s t : zSt} (hi : i + 6 ≤ yL Y) (h : yR s t) (next : ∀ s' t', yR s' t' → zLA Y 1376 (lsi Y i) [] s' t') : zLA Y 1320 (lsi Y i) [] s t := by
  obtain ⟨r, s', t', e1, e2, hr⟩ := op_taken h (yXs Y (i + 1)) (yXs Y (i + 2))
  refine zl_ld (j := 2) C (zdl zlwk_36 rfl) rfl rfl ?_
  refine zl_arg (kk := 1) C hi (by decide) rfl (zdl zlwk_36 rfl) (zdl zlwk_36 rfl) (zdl zlwk_36 rfl) (zdl zlwk_36 rfl) (zdl zlwk_36 rfl) ?_
  refine zl_arg (kk := 2) C hi (by decide) rfl (zdl zlwk_36 rfl) (zdl zlwk_36 rfl) (zdl zlwk_36 rfl) (zdl zlwk_36 rfl) (zdl zlwk_36 rfl) ?_
  refine zl_callG (As := [.int (yXs Y (i + 1)), .int (yXs Y (i + 2))]) (rest := []) C (k_g_taken _ _ s (r, s') e1) zmk_g_taken zok_g_taken zlm_167 rfl ⟨rfl, rfl⟩ (zdl zlwk_36 rfl) (fun _ => rfl) (fun _ => rfl) rfl rfl rfl ?_
  show zLA Y 1334 (lsi Y i) [.int r] s' t
  refine zl_ld (j := 1) C (zdl zlwk_36 rfl) rfl rfl ?_
  refine zl_arg (kk := 1) C hi (by decide) rfl (zdl zlwk_36 rfl) (zdl zlwk_36 rfl) (zdl zlwk_36 rfl) (zdl zlwk_36 rfl) (zdl zlwk_36 rfl) ?_
  refine zl_arg (kk := 2) C hi (by decide) rfl (zdl zlwk_36 rfl) (zdl zlwk_36 rfl) (zdl zlwk_36 rfl) (zdl zlwk_36 rfl) (zdl zlwk_36 rfl) ?_
  refine zl_callM (As := [.int (yXs Y (i + 1)), .int (yXs Y (i + 2))]) (rest := [.int r]) C (k_m_taken _ _ t (r, t') e2) zmk_m_taken zok_m_taken zlm_170 rfl ⟨rfl, rfl⟩ (zdl zlwk_36 rfl) (fun _ => rfl) (fun _ => rfl) rfl rfl rfl ?_
  show zLA Y 1348 (lsi Y i) [.int r, .int r] s' t'
  exact zl_end C (zdl zlwk_36 rfl) (by decide) (next s' t' hr)
theorem lc_37 {Y : zLx} (C : zLc Y) {i : Nat} {s t : zSt} (hi : i + 6 ≤ yL Y) (h : yR s t) (next : ∀ s' t', yR s' t' → zLA Y 1376 (lsi Y i) [] s' t') : zLA Y 1353 (lsi Y i) [] s t := by
  obtain ⟨r, s', t', e1, e2, hr⟩ := op_count h (yXs Y (i + 1))
  refine zl_ld (j := 2) C (zdl zlwk_37 rfl) rfl rfl ?_
  refine zl_arg (kk := 1) C hi (by decide) rfl (zdl zlwk_37 rfl) (zdl zlwk_37 rfl) (zdl zlwk_37 rfl) (zdl zlwk_37 rfl) (zdl zlwk_37 rfl) ?_
  refine zl_callG (As := [.int (yXs Y (i + 1))]) (rest := []) C (k_g_count _ s (r, s') e1) zmk_g_count zok_g_count zlm_171 rfl ⟨rfl, rfl⟩ (zdl zlwk_37 rfl) (fun _ => rfl) (fun _ => rfl) rfl rfl rfl ?_
  show zLA Y 1362 (lsi Y i) [.int r] s' t
  refine zl_ld (j := 1) C (zdl zlwk_37 rfl) rfl rfl ?_
  refine zl_arg (kk := 1) C hi (by decide) rfl (zdl zlwk_37 rfl) (zdl zlwk_37 rfl) (zdl zlwk_37 rfl) (zdl zlwk_37 rfl) (zdl zlwk_37 rfl) ?_
  refine zl_callM (As := [.int (yXs Y (i + 1))]) (rest := [.int r]) C (k_m_count _ t (r, t') e2) zmk_m_count zok_m_count zlm_174 rfl ⟨rfl, rfl⟩ (zdl zlwk_37 rfl) (fun _ => rfl) (fun _ => rfl) rfl rfl rfl ?_
  show zLA Y 1371 (lsi Y i) [.int r, .int r] s' t'
  exact zl_end C (zdl zlwk_37 rfl) (by decide) (next s' t' hr)
