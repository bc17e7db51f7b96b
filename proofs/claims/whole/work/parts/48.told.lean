/-! OPS 18: told -/
theorem q_sub100 (a : Int32) : (0 ≤ (a - 100).toInt ∧ (a - 100).toInt ≤ 31) ↔ (100 ≤ a.toInt ∧ a.toInt ≤ 131) := by
  have h1 := q_subE a 100
  rw [l100] at h1
  have h2 := q_rng a
  have h3 := q_rng (a - 100)
  omega
theorem l200 : (200 : Int32).toInt = 200 := rfl
theorem q_sub200 (a : Int32) : (0 ≤ (a - 200).toInt ∧ (a - 200).toInt ≤ 31) ↔ (200 ≤ a.toInt ∧ a.toInt ≤ 231) := by
  have h1 := q_subE a 200
  rw [l200] at h1
  have h2 := q_rng a
  have h3 := q_rng (a - 200)
  omega
theorem told_m (a : Int32) (t : zSt) : f_m_told a t = if (0 ≤ a.toInt ∧ a.toInt ≤ 7) ∨ (100 ≤ a.toInt ∧ a.toInt ≤ 131) ∨ (200 ≤ a.toInt ∧ a.toInt ≤ 231) then f_m_told_49 a t else some (-2000000000, t) := by
  have h29 : ∀ w : Int32, f_m_told_29 a w t = if 0 ≤ a.toInt ∧ a.toInt ≤ 7 then f_m_told_49 a t else if w = 0 then some (-2000000000, t) else f_m_told_49 a t := by
    intro w
    unfold f_m_told_29
    rw [p_within, Option.bind_some, Int32.toInt_toInt64, k0, k7]
    by_cases h : 0 ≤ a.toInt ∧ a.toInt ≤ 7
    · rw [q01_t h, if_neg q_neg10', if_pos h]
    · rw [q01_f h, if_pos rfl, if_neg h]
  unfold f_m_told
  rw [p_within, Option.bind_some, Int32.toInt_toInt64, show (100 : Int64).toInt = 100 from rfl, show (299 : Int64).toInt = 299 from rfl]
  by_cases h : 100 ≤ a.toInt ∧ a.toInt ≤ 299
  · obtain ⟨n, hn, rfl⟩ := q_ix (x := a) (n := 299) (by omega)
    rw [q01_t h, if_neg q_neg10', q_100 n (by omega), p_mQ, Option.bind_some]
    rw [q_nI (show n < 2147483648 by omega)] at h h29 ⊢
    by_cases h2 : n % 100 ≤ 31
    · rw [q01_t (by rw [q_nI (by omega)]; omega), if_neg q_neg10']
      dsimp only
      rw [h29, if_neg (by omega), if_neg q_neg10', if_pos (by omega)]
    · rw [q01_f (by rw [q_nI (by omega)]; omega), if_pos rfl]
      dsimp only
      unfold f_m_told_28
      rw [h29, if_neg (by omega), if_pos rfl, if_neg (by omega)]
  · rw [q01_f h, if_pos rfl]
    dsimp only
    unfold f_m_told_28
    rw [h29]
    by_cases h2 : 0 ≤ a.toInt ∧ a.toInt ≤ 7
    · rw [if_pos h2, if_pos (by omega)]
    · rw [if_neg h2, if_pos rfl, if_neg (by omega)]
theorem op_told {s t : zSt} (h : yR s t) (a : Int32) : yOp (f_g_told a) (f_m_told a) s t := by
  obtain ⟨-, -, -, -, -, -, ⟨d1, d2⟩, -⟩ := id h
  have hG : f_g_told a s = if (0 ≤ a.toInt ∧ a.toInt ≤ 7) ∨ (100 ≤ a.toInt ∧ a.toInt ≤ 131) ∨ (200 ≤ a.toInt ∧ a.toInt ≤ 231) then f_g_told_38 a (q01 (100 ≤ a.toInt ∧ a.toInt ≤ 131)) (q01 (200 ≤ a.toInt ∧ a.toInt ≤ 231)) s else some (-2000000000, s) := by
    have e1 : q01 (0 ≤ (a - 100).toInt ∧ (a - 100).toInt ≤ 31) = q01 (100 ≤ a.toInt ∧ a.toInt ≤ 131) := by
      unfold q01
      by_cases z : 100 ≤ a.toInt ∧ a.toInt ≤ 131
      · rw [if_pos z, if_pos ((q_sub100 a).mpr z)]
      · rw [if_neg z, if_neg (fun w => z ((q_sub100 a).mp w))]
    have e2 : q01 (0 ≤ (a - 200).toInt ∧ (a - 200).toInt ≤ 31) = q01 (200 ≤ a.toInt ∧ a.toInt ≤ 231) := by
      unfold q01
      by_cases z : 200 ≤ a.toInt ∧ a.toInt ≤ 231
      · rw [if_pos z, if_pos ((q_sub200 a).mpr z)]
      · rw [if_neg z, if_neg (fun w => z ((q_sub200 a).mp w))]
    unfold f_g_told
    rw [p_gQ, Option.bind_some, p_gQ, Option.bind_some, p_isWithin, Option.bind_some, l0, l7, e1, e2]
    dsimp only
    by_cases z0 : 0 ≤ a.toInt ∧ a.toInt ≤ 7
    · rw [q01_t z0, if_neg q_neg10', if_pos (by omega)]
    · rw [q01_f z0, if_pos rfl]
      by_cases z1 : 100 ≤ a.toInt ∧ a.toInt ≤ 131
      · rw [q01_t z1, if_neg q_neg10', if_pos (by omega)]
      · rw [q01_f z1, if_pos rfl]
        by_cases z2 : 200 ≤ a.toInt ∧ a.toInt ≤ 231
        · rw [q01_t z2, if_neg q_neg10', if_pos (by omega)]
        · rw [q01_f z2, if_pos rfl, if_neg (by omega)]
  have hM := told_m a t
  by_cases hv : (0 ≤ a.toInt ∧ a.toInt ≤ 7) ∨ (100 ≤ a.toInt ∧ a.toInt ≤ 131) ∨ (200 ≤ a.toInt ∧ a.toInt ≤ 231)
  · rw [if_pos hv] at hG hM
    unfold f_g_told_38 at hG
    unfold f_m_told_49 at hM
    by_cases hd : t.1 0 27 = 0
    · rw [d1, if_pos hd] at hG
      rw [if_pos hd] at hM
      exact yOp_same (-5) hG hM h
    · obtain ⟨t0, t1, t2, t3, t4, t5, t6, t7, tp, ts⟩ := d2 hd
      rw [d1, if_neg hd] at hG
      rw [if_neg hd] at hM
      obtain ⟨n, hn, rfl⟩ := q_ix (x := a) (n := 231) (by omega)
      rw [q_nI (by omega)] at hG hv
      by_cases z1 : 100 ≤ (n : Int) ∧ (n : Int) ≤ 131
      · rw [q01_t z1, if_neg q_neg10', show (100 : Int32) = nI 100 from rfl, pk_sub (show 100 ≤ n by omega), zld_at (show n - 100 < 32 by omega) (by omega), Option.bind_some] at hG
        rw [if_pos (show (8 : Int32) ≤ nI n from nI_le (a := 8) (by omega) (by omega)), if_neg (show ¬ (200 : Int32) ≤ nI n from nI_ge (b := 200) (by omega) (by omega)), show (100 : Int32) = nI 100 from rfl, pk_sub (show 100 ≤ n by omega), zld_at (show n - 100 < 32 by omega) (by omega), Option.bind_some, ← ts _ (by omega)] at hM
        exact yOp_same _ hG hM h
      · rw [q01_f z1, if_pos rfl] at hG
        by_cases z2 : 200 ≤ (n : Int) ∧ (n : Int) ≤ 231
        · rw [q01_t z2, if_neg q_neg10', show (200 : Int32) = nI 200 from rfl, pk_sub (show 200 ≤ n by omega), zld_at (show n - 200 < 32 by omega) (by omega), Option.bind_some] at hG
          rw [if_pos (show (8 : Int32) ≤ nI n from nI_le (a := 8) (by omega) (by omega)), if_pos (show (200 : Int32) ≤ nI n from nI_le (a := 200) (by omega) (by omega)), show (200 : Int32) = nI 200 from rfl, pk_sub (show 200 ≤ n by omega), zld_at (show n - 200 < 32 by omega) (by omega), Option.bind_some, ← ts _ (by omega), tp] at hM
          exact yOp_same _ hG hM h
        · rw [q01_f z2, if_pos rfl] at hG
          have hn7 : n ≤ 7 := by omega
          rw [if_neg (show ¬ (8 : Int32) ≤ nI n from nI_ge (b := 8) (by omega) (by omega)), zld_at (show n < 8 by omega) (by omega), Option.bind_some] at hM
          unfold f_dy_total f_dy_gain at hG
          have hn8 : n = 0 ∨ n = 1 ∨ n = 2 ∨ n = 3 ∨ n = 4 ∨ n = 5 ∨ n = 6 ∨ n = 7 := by omega
          clear z1 z2 hv hn hn7
          rcases hn8 with rfl | rfl | rfl | rfl | rfl | rfl | rfl | rfl
          · rw [if_neg (by decide), if_pos (by rfl), Option.bind_some] at hG
            exact yOp_same _ hG (hM.trans (by rw [t0])) h
          · rw [if_neg (by decide), if_neg (by decide), if_pos (by rfl), Option.bind_some] at hG
            exact yOp_same _ hG (hM.trans (by rw [t1])) h
          · rw [if_neg (by decide), if_neg (by decide), if_neg (by decide), if_pos (by rfl), Option.bind_some] at hG
            exact yOp_same _ hG (hM.trans (by rw [t2])) h
          · rw [if_neg (by decide), if_neg (by decide), if_neg (by decide), if_neg (by decide), if_pos (by rfl), Option.bind_some] at hG
            exact yOp_same _ hG (hM.trans (by rw [t3])) h
          · rw [if_neg (by decide), if_neg (by decide), if_neg (by decide), if_neg (by decide), if_neg (by decide), if_pos (by rfl), Option.bind_some] at hG
            exact yOp_same _ hG (hM.trans (by rw [t4])) h
          · rw [if_neg (by decide), if_neg (by decide), if_neg (by decide), if_neg (by decide), if_neg (by decide), if_neg (by decide), if_pos (by rfl), Option.bind_some] at hG
            exact yOp_same _ hG (hM.trans (by rw [t5])) h
          · rw [if_neg (by decide), if_neg (by decide), if_neg (by decide), if_neg (by decide), if_neg (by decide), if_neg (by decide), if_neg (by decide), if_pos (by rfl), Option.bind_some] at hG
            exact yOp_same _ hG (hM.trans (by rw [t6])) h
          · rw [if_pos (by decide), Option.bind_some, Option.bind_some] at hG
            exact yOp_same _ hG (hM.trans (by rw [t7])) h
  · rw [if_neg hv] at hG hM
    exact yOp_same _ hG hM h
