/-! OPS 11: heats -/
theorem heats_loop {j p q0 N cnt L : Nat} {c : Int32} (hj : j < 6) (hN : N ≤ 60) (hq : q0 < 32) (hc : cnt ≤ 32) (eL : zrem c 100 = nI cnt) (eQ : c / 100 = nI q0) (hp : p < 2147483648) (hL : L = cnt) : ∀ (m i n n' : Nat) (s t : zSt), i + m = cnt → m < n → m < n' → yR s t →
    s.1 (40 + 2 * j) 2 = nI N → t.1 27 j = nI N → (∀ q, q < 60 → s.2 (40 + 2 * j + 1) q = t.2 28 (60 * j + q)) → (∀ q, q < N → -128 ≤ (t.2 28 (60 * j + q)).toInt ∧ (t.2 28 (60 * j + q)).toInt < 128) →
    ∃ r s' t', f_g_heatsCome_3 (40 + 2 * j) n (nI p) (nI q0) (nI cnt) (nI i) s = some (r, s') ∧ f_m_heats_86 (n' + 1) (nI j) (nI p) c (nI i) 1 t = some (r, t') ∧ yR s' t' := by
  intro m
  induction m with
  | zero =>
    intro i n n' s t hi hn hn' h e1 e2 g1 g2
    obtain ⟨n, rfl⟩ : ∃ x, n = x + 1 := ⟨n - 1, by omega⟩
    have e : i = cnt := by omega
    subst e
    refine ⟨nI i, s, t, ?_, ?_, h⟩
    · unfold f_g_heatsCome_3
      rw [if_pos (nI_le (Nat.le_refl _) (by omega))]
    · unfold f_m_heats_86
      rw [if_neg (by decide : ¬ (1 : Int32) = 0), eL, if_pos (nI_le (Nat.le_refl _) (by omega))]
  | succ m ih =>
    intro i n n' s t hi hn hn' h e1 e2 g1 g2
    obtain ⟨n, rfl⟩ : ∃ x, n = x + 1 := ⟨n - 1, by omega⟩
    obtain ⟨n', rfl⟩ : ∃ x, n' = x + 1 := ⟨n' - 1, by omega⟩
    have stop : ∀ (k86 : Int32 → Int32 → Int32 → Int32 → Int32 → zSt → Option (Int32 × zSt)), (∀ x, k86 (nI j) (nI p) c (nI i) 0 x = some (nI i, x)) → f_m_heats_156 k86 (nI j) (nI p) c (nI i) t = some (nI i, t) := by
      intro k86 hk
      unfold f_m_heats_156 f_m_heats_157
      rw [if_pos rfl, hk]
    have k0' : ∀ x, f_m_heats_86 (n' + 1) (nI j) (nI p) c (nI i) 0 x = some (nI i, x) := by
      intro x
      unfold f_m_heats_86
      rw [if_pos rfl]
    have hG : f_g_heatsCome_3 (40 + 2 * j) (n + 1) (nI p) (nI q0) (nI cnt) (nI i) s = if q0 + i ≤ 31 then (if p + (i + 1) ≤ N then (if 0 ≤ (s.2 (40 + 2 * j + 1) (p + i)).toInt32.toInt ∧ (s.2 (40 + 2 * j + 1) (p + i)).toInt32.toInt ≤ 40 then f_g_heatsCome_3 (40 + 2 * j) n (nI p) (nI q0) (nI cnt) (nI (i + 1)) (zw s 7 (q0 + i) (s.2 (40 + 2 * j + 1) (p + i)).toInt32) else some (nI i, s)) else some (nI i, s)) else some (nI i, s) := by
      conv => lhs; unfold f_g_heatsCome_3
      rw [if_neg (nI_ge (by omega) (by omega)), nI_add, p_gQ]
      simp only [Option.bind_some]
      by_cases d1 : q0 + i ≤ 31
      · rw [q01_t (by rw [q_nI (by omega)]; omega), if_neg (by decide : ¬ (1 : Int32) = 0), if_pos d1, nI_1, p_has hN e1]
        simp only [Option.bind_some]
        by_cases d2 : p + (i + 1) ≤ N
        · rw [q01_t (by rw [q_nI hp, q_nI (by omega)]; omega), if_neg (by decide : ¬ (1 : Int32) = 0), if_pos d2, nI_add, zldl_at (show p + i < 60 by omega) (by omega)]
          simp only [Option.bind_some, p_isWithin, l0, l40]
          by_cases d3 : 0 ≤ (s.2 (40 + 2 * j + 1) (p + i)).toInt32.toInt ∧ (s.2 (40 + 2 * j + 1) (p + i)).toInt32.toInt ≤ 40
          · rw [q01_t d3, if_neg (by decide : ¬ (1 : Int32) = 0), if_pos d3, zldl_at (show p + i < 60 by omega) (by omega)]
            simp only [Option.bind_some]
            rw [zst_at (show q0 + i < 32 by omega) (by omega)]
            rfl
          · rw [q01_f d3, if_pos rfl, if_neg d3]
        · rw [q01_f (by rw [q_nI hp, q_nI (by omega)]; omega), if_pos rfl, if_neg d2]
      · rw [q01_f (by rw [q_nI (by omega)]; omega), if_pos rfl, if_neg d1]
    have hM0 : f_m_heats_86 (n' + 1 + 1) (nI j) (nI p) c (nI i) 1 t = if ((nI N - 1) - nI i) < nI p then some (nI i, t) else if q0 + i ≤ 31 then ((zldl t 28 360 (((60 * nI j) + nI p) + nI i)).bind fun x9 => (f_m_within x9 (0) (40) t).bind fun x10 => if x10.1 = 0 then some (nI i, t) else f_m_heats_157 (f_m_heats_86 (n' + 1)) (nI j) (nI p) c (nI i) 1 x10.2) else some (nI i, t) := by
      conv => lhs; unfold f_m_heats_86
      rw [if_neg (by decide : ¬ (1 : Int32) = 0), eL, if_neg (nI_ge (by omega) (by omega)), zld_at hj (by omega), e2]
      simp only [Option.bind_some]
      by_cases d0 : ((nI N - 1) - nI i) < nI p
      · rw [if_pos d0, if_pos d0, stop _ k0']
      · rw [if_neg d0, if_neg d0, eQ, nI_add, p_mQ]
        simp only [Option.bind_some]
        by_cases d1 : q0 + i ≤ 31
        · rw [q01_t (by rw [q_nI (by omega)]; omega), if_neg (by decide : ¬ (1 : Int32) = 0), if_pos d1]
          simp only [p_within, Option.bind_some, stop _ k0']
        · rw [q01_f (by rw [q_nI (by omega)]; omega), if_pos rfl, if_neg d1, stop _ k0']
    have ed : (((nI N - 1) - nI i) < nI p) ↔ N < p + (i + 1) := by
      have a1 : (nI N - 1 : Int32).toInt = (N : Int) - 1 := pk_sub_toInt (a := N) (b := 1) (by omega) (by omega)
      rw [q_lt, q_subI (by rw [a1, q_nI (by omega)]; omega) (by rw [a1, q_nI (by omega)]; omega), a1, q_nI (by omega), q_nI hp]
      omega
    by_cases d2 : p + (i + 1) ≤ N
    · rw [if_neg (by rw [ed]; omega)] at hM0
      by_cases d1 : q0 + i ≤ 31
      · rw [if_pos d1, show (60 : Int32) = nI 60 from rfl, pk_mul, nI_add, nI_add, zldl_at (show 60 * j + p + i < 360 by omega) (by omega)] at hM0
        simp only [p_within, Option.bind_some, k0, k40] at hM0
        rw [if_pos d1, if_pos d2, g1 _ (by omega)] at hG
        have gb := g2 (p + i) (by omega)
        rw [show 60 * j + p + i = 60 * j + (p + i) by omega] at hM0
        have e32 : (t.2 28 (60 * j + (p + i))).toInt32.toInt = (t.2 28 (60 * j + (p + i))).toInt := by
          rw [Int64.toInt_toInt32]
          exact Int.bmod_eq_of_le (by omega) (by omega)
        rw [e32] at hG
        by_cases d3 : 0 ≤ (t.2 28 (60 * j + (p + i))).toInt ∧ (t.2 28 (60 * j + (p + i))).toInt ≤ 40
        · rw [if_pos d3] at hG
          rw [q01_t d3, if_neg (by decide : ¬ (1 : Int32) = 0)] at hM0
          have hM1 : f_m_heats_157 (f_m_heats_86 (n' + 1)) (nI j) (nI p) c (nI i) 1 t = f_m_heats_86 (n' + 1) (nI j) (nI p) c (nI (i + 1)) 1 (zw t 5 (q0 + i) (t.2 28 (60 * j + (p + i))).toInt32) := by
            unfold f_m_heats_157
            rw [if_neg (by decide : ¬ (1 : Int32) = 0), show (60 : Int32) = nI 60 from rfl, pk_mul, nI_add, nI_add, zldl_at (show 60 * j + p + i < 360 by omega) (by omega)]
            simp only [Option.bind_some]
            rw [eQ, nI_add, zst_at (show q0 + i < 32 by omega) (by omega), show 60 * j + p + i = 60 * j + (p + i) by omega]
            simp only [Option.bind_some, nI_1]
          rw [hM1] at hM0
          rw [hG, hM0]
          have hr : yR (zw s 7 (q0 + i) (t.2 28 (60 * j + (p + i))).toInt32) (zw t 5 (q0 + i) (t.2 28 (60 * j + (p + i))).toInt32) := by
            obtain ⟨h1, ⟨u1, u2, u3⟩, h3⟩ := h
            exact ⟨h1, ⟨q_syn u1 _ _, u2, u3⟩, h3⟩
          refine ih (i + 1) n n' _ _ (by omega) (by omega) (by omega) hr ?_ e2 g1 g2
          rw [zw_1, if_neg (by omega)]
          exact e1
        · rw [if_neg d3] at hG
          rw [q01_f d3, if_pos rfl] at hM0
          exact ⟨nI i, s, t, hG, hM0, h⟩
      · rw [if_neg d1] at hG hM0
        exact ⟨nI i, s, t, hG, hM0, h⟩
    · rw [if_pos (by rw [ed]; omega)] at hM0
      rw [if_neg d2] at hG
      refine ⟨nI i, s, t, ?_, hM0, h⟩
      rw [hG]
      by_cases d1 : q0 + i ≤ 31
      · rw [if_pos d1]
      · rw [if_neg d1]
theorem op_heats {s t : zSt} (h : yR s t) (a b c : Int32) : yOp (f_g_heats a b c) (f_m_heats a b c) s t := by
  by_cases ha : 0 ≤ a.toInt ∧ a.toInt < 6
  · obtain ⟨j, hj, rfl⟩ := q_ixl (n := 6) ha
    have ha5 : 0 ≤ (nI j).toInt ∧ (nI j).toInt ≤ 5 := by omega
    have hcl : (nI j).toNatClampNeg = j := nI_clamp (by omega)
    by_cases hc : c < 0
    · refine yOp_same (-1) ?_ ?_ h
      · unfold f_g_heats
        rw [if_pos ha]
        simp only [Option.bind_some]
        rw [if_pos hc]
      · unfold f_m_heats
        rw [p_mShelf]
        simp only [Option.bind_some]
        rw [q01_t ha5, if_neg (by decide : ¬ (1 : Int32) = 0), if_pos hc]
    · have hcn : ¬ c.toInt < 0 := fun z => hc ((q_lt _ _).mpr z)
      obtain ⟨C, hC, eC⟩ := q_pos hcn
      have eQ : c / 100 = nI (C / 100) := by rw [eC]; exact q_d100 C hC
      have eL : zrem c 100 = nI (C % 100) := by rw [eC]; exact q_100 C hC
      by_cases hq : C / 100 < 32 ∧ 1 ≤ C % 100 ∧ C % 100 ≤ 32
      · have hG : f_g_heats (nI j) b c s = (f_sh_isEmpty (40 + 2 * j) s).bind fun x5 => if x5.1 = 0 then (f_sh_isRowOf (40 + 2 * j) (0) x5.2).bind fun x6 => if x6.1 = 0 then some ((-12), x6.2) else (f_g_heatsCome (40 + 2 * j) b (nI (C / 100)) (nI (C % 100)) x6.2).bind fun x7 => some (x7.1, x7.2) else some (0, x5.2) := by
          unfold f_g_heats
          rw [if_pos ha]
          simp only [Option.bind_some, hcl]
          rw [if_neg hc, eQ, eL, p_gQ]
          simp only [Option.bind_some]
          rw [q01_t (by rw [q_nI (by omega)]; omega), if_neg (by decide : ¬ (1 : Int32) = 0), p_isWithin, l1, l32]
          simp only [Option.bind_some]
          rw [q01_t (by rw [q_nI (by omega)]; omega), if_neg (by decide : ¬ (1 : Int32) = 0)]
        have hM : f_m_heats (nI j) b c t = if t.1 26 j < 0 then f_m_heats_61 (nI j) b c t else if t.1 26 j = 50 then f_m_heats_61 (nI j) b c t else some (-12, t) := by
          unfold f_m_heats
          rw [p_mShelf]
          simp only [Option.bind_some]
          rw [q01_t ha5, if_neg (by decide : ¬ (1 : Int32) = 0), if_neg hc, eQ, eL, p_mQ]
          simp only [Option.bind_some]
          rw [q01_t (by rw [q_nI (by omega)]; omega), if_neg (by decide : ¬ (1 : Int32) = 0), p_within, Int32.toInt_toInt64, k1, k32]
          simp only [Option.bind_some]
          rw [q01_t (by rw [q_nI (by omega)]; omega), if_neg (by decide : ¬ (1 : Int32) = 0), zld_at hj (by omega)]
          rfl
        have k0' : f_m_heats_86 zFu (nI j) b c 0 0 t = some (0, t) := by
          obtain ⟨x, hx⟩ : ∃ x, zFu = x + 1 := ⟨zFu - 1, by have := zFu_big; omega⟩
          rw [hx]
          unfold f_m_heats_86
          rw [if_pos rfl]
        rcases yR_get h hj with ⟨h1, h2, h3, h4, h5⟩ | ⟨w, n', h1, h2, h3, h4, h5, h6, h7, h8⟩ | ⟨r, N, h1, h2, h3, h4, h5, h6, h7, h8, h9⟩
        · refine yOp_same 0 ?_ ?_ h
          · rw [hG, e_empty h2 h3]; rfl
          · rw [hM, h1, if_pos (by decide)]
            unfold f_m_heats_61
            rw [zld_at hj (by omega), h1]
            simp only [Option.bind_some]
            rw [if_neg (by decide), k0']
        · refine yOp_same (-12) ?_ ?_ h
          · rw [hG, e_glass (by omega) h5]
            simp only [Option.bind_some, if_true]
            rw [r_not h6]; rfl
          · rw [hM, h4, if_neg (nI_pos (by omega)), if_neg (show ¬ nI w = (50 : Int32) from q_ne (b := 50) (by omega) (by omega) (by omega))]
        · by_cases hr : r = 0
          · subst hr
            have hM2 : f_m_heats (nI j) b c t = if b < 0 then some (0, t) else f_m_heats_86 zFu (nI j) b c 0 1 t := by
              rw [hM, h3, if_neg (nI_pos (by omega)), if_pos (by rfl)]
              unfold f_m_heats_61
              rw [zld_at hj (by omega), h3]
              simp only [Option.bind_some]
              rw [if_pos (by rfl), k0']
            have hG2 : f_g_heats (nI j) b c s = (f_g_heatsCome_3 (40 + 2 * j) zFu b (nI (C / 100)) (nI (C % 100)) 0 s).bind fun x7 => some (x7.1, x7.2) := by
              rw [hG, e_row (by omega) h4 h5]
              simp only [Option.bind_some, if_true]
              rw [r_is (by omega) h5, q01_t (by rfl)]
              simp only [Option.bind_some]
              rw [if_neg (by decide : ¬ (1 : Int32) = 0)]
              rfl
            by_cases hb : b.toInt < 0
            · refine yOp_same 0 ?_ ?_ h
              · rw [hG2]
                obtain ⟨x, hx⟩ : ∃ x, zFu = x + 1 := ⟨zFu - 1, by have := zFu_big; omega⟩
                rw [hx]
                unfold f_g_heatsCome_3
                rw [show (0 : Int32) = nI 0 from rfl, if_neg (nI_ge (by omega) (by omega)), nI_add, p_gQ]
                simp only [Option.bind_some]
                rw [q01_t (by rw [q_nI (by omega)]; omega), if_neg (by decide : ¬ (1 : Int32) = nI 0), p_has h2 h6]
                simp only [Option.bind_some]
                rw [q01_f (by omega), if_pos (by rfl)]
                rfl
              · rw [hM2, if_pos ((q_lt _ _).mpr hb)]
            · obtain ⟨p, hp, rfl⟩ := q_pos hb
              have hz := zFu_big
              obtain ⟨r, s', t', r1, r2, r3⟩ := heats_loop (j := j) (p := p) (q0 := C / 100) (N := N) (cnt := C % 100) (L := C % 100) (c := c) hj h2 (by omega) (by omega) eL eQ hp rfl (C % 100) 0 zFu (zFu - 1) s t (by omega) (by omega) (by omega) h h6 h7 h8 (h9 rfl)
              refine ⟨r, s', t', ?_, ?_, r3⟩
              · rw [hG2, show (0 : Int32) = nI 0 from rfl, r1]
                rfl
              · rw [hM2, if_neg (nI_pos hp), show zFu = zFu - 1 + 1 by omega]
                exact r2
          · refine yOp_same (-12) ?_ ?_ h
            · rw [hG, e_row (by omega) h4 h5]
              simp only [Option.bind_some, if_true]
              rw [r_is (by omega) h5, q01_f (show ¬ nI r = (0 : Int32) from q_ne (b := 0) (by omega) (by omega) hr)]; rfl
            · rw [hM, h3, if_neg (nI_pos (by omega)), if_neg (show ¬ nI (50 + r) = (50 : Int32) from q_ne (b := 50) (by omega) (by omega) (by omega))]
      · refine yOp_same (-1) ?_ ?_ h
        · unfold f_g_heats
          rw [if_pos ha]
          simp only [Option.bind_some, hcl]
          rw [if_neg hc, eQ, eL, p_gQ]
          simp only [Option.bind_some]
          by_cases d : C / 100 < 32
          · rw [q01_t (by rw [q_nI (by omega)]; omega), if_neg (by decide : ¬ (1 : Int32) = 0), p_isWithin, l1, l32]
            simp only [Option.bind_some]
            rw [q01_f (by rw [q_nI (by omega)]; omega), if_pos rfl]
          · rw [q01_f (by rw [q_nI (by omega)]; omega), if_pos rfl]
        · unfold f_m_heats
          rw [p_mShelf]
          simp only [Option.bind_some]
          rw [q01_t ha5, if_neg (by decide : ¬ (1 : Int32) = 0), if_neg hc, eQ, eL, p_mQ]
          simp only [Option.bind_some]
          by_cases d : C / 100 < 32
          · rw [q01_t (by rw [q_nI (by omega)]; omega), if_neg (by decide : ¬ (1 : Int32) = 0), p_within, Int32.toInt_toInt64, k1, k32]
            simp only [Option.bind_some]
            rw [q01_f (by rw [q_nI (by omega)]; omega), if_pos rfl]
          · rw [q01_f (by rw [q_nI (by omega)]; omega), if_pos rfl]
  · refine yOp_same (-1) ?_ ?_ h
    · unfold f_g_heats
      rw [if_neg ha]
    · unfold f_m_heats
      rw [p_mShelf]
      simp only [Option.bind_some]
      rw [q01_f (by omega), if_pos rfl]
