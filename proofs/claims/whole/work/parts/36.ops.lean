/-! OPS 6: slate, owes, body, trace -/
theorem p_name (a : Int32) (s : zSt) : f_sl_isName a s = some (q01 (0 ≤ a.toInt ∧ a.toInt ≤ 5), s) := by
  unfold f_sl_isName
  simp only [p_isWithin, Option.bind_some, q01_bo]
  rfl
theorem q_neg10 {a : Int32} (h : a.toInt < 0) : ¬ ((0 ≤ (a / 10).toInt ∧ (a / 10).toInt ≤ 5) ∧ (0 ≤ (zrem a 10).toInt ∧ (zrem a 10).toInt ≤ 5)) := by
  rintro ⟨h1, h2⟩
  have r := q_rng a
  have e1 : (a / 10 * 10).toInt = (a / 10).toInt * 10 := q_mulI (b := 10) (by show -2147483648 ≤ (a / 10).toInt * 10; omega) (by show (a / 10).toInt * 10 < 2147483648; omega)
  have e2 := q_subE a (a / 10 * 10)
  rw [e1] at e2
  have e3 : zrem a 10 = a - a / 10 * 10 := rfl
  rw [e3] at h2
  have k1 : (a.toInt - (a / 10).toInt * 10) / 4294967296 = -1 := by omega
  have k2 : (a - a / 10 * 10).toInt / 4294967296 = 0 := by omega
  omega
theorem op_slate {s t : zSt} (h : yR s t) (a b : Int32) : yOp (f_g_slate a b) (f_m_slate a b) s t := by
  by_cases ha : a.toInt < 0
  · refine yOp_same (-1) ?_ ?_ h
    · have hn := q_neg10 ha
      unfold f_g_slate
      rw [p_name]
      simp only [Option.bind_some, q01_0, p_name]
      by_cases c1 : 0 ≤ (a / 10).toInt ∧ (a / 10).toInt ≤ 5
      · rw [if_neg (fun z => z c1), if_pos (fun z => hn ⟨c1, z⟩)]
      · rw [if_pos c1]
    · unfold f_m_slate
      rw [if_pos ((q_lt _ _).mpr ha)]
  · obtain ⟨n, hn, rfl⟩ := q_pos ha
    have hlt : ¬ nI n < 0 := fun z => ha ((q_lt _ _).mp z)
    have i10 : 0 ≤ (nI (n / 10)).toInt ∧ (nI (n / 10)).toInt = ((n / 10 : Nat) : Int) := by rw [q_nI (by omega)]; omega
    have i11 : 0 ≤ (nI (n % 10)).toInt ∧ (nI (n % 10)).toInt = ((n % 10 : Nat) : Int) := by rw [q_nI (by omega)]; omega
    have d6 : n / 10 < 6 → ¬ (6 : Int32) ≤ nI (n / 10) := fun z => nI_ge (b := 6) z (by omega)
    have m6 : n % 10 < 6 → ¬ (6 : Int32) ≤ nI (n % 10) := fun z => nI_ge (b := 6) z (by omega)
    have d6' : ¬ n / 10 < 6 → (6 : Int32) ≤ nI (n / 10) := fun z => nI_le (a := 6) (by omega) (by omega)
    have m6' : ¬ n % 10 < 6 → (6 : Int32) ≤ nI (n % 10) := fun z => nI_le (a := 6) (by omega) (by omega)
    by_cases c1 : n / 10 < 6
    · by_cases c2 : n % 10 < 6
      · by_cases c3 : n / 10 = n % 10
        · refine yOp_same (-1) ?_ ?_ h
          · unfold f_g_slate
            rw [q_d10 n hn, q_10 n hn, p_name]
            simp only [Option.bind_some, q01_0, p_name]
            rw [if_neg (fun z => z (by omega)), if_neg (fun z => z (by omega)), if_pos (by rw [c3])]
          · unfold f_m_slate
            rw [if_neg hlt, q_d10 n hn, q_10 n hn, if_neg (d6 c1), if_neg (m6 c2), if_pos (by rw [c3])]
        · have hne : ¬ nI (n / 10) = nI (n % 10) := q_ne (by omega) (by omega) c3
          by_cases c4 : 0 ≤ b.toInt ∧ b.toInt ≤ 999
          · have hi : n / 10 * 6 + n % 10 < 36 := by omega
            have i1 : nI (n / 10) * 6 + nI (n % 10) = nI (n / 10 * 6 + n % 10) := by rw [show (6 : Int32) = nI 6 from rfl, pk_mul, nI_add]
            have i2 : 6 * nI (n / 10) + nI (n % 10) = nI (n / 10 * 6 + n % 10) := by rw [show (6 : Int32) = nI 6 from rfl, pk_mul, nI_add]; congr 1; omega
            obtain ⟨h1, h2, h3, h4, h5, h6, h7, h8, ⟨g1, g2, g3, g4⟩, h9⟩ := h
            refine ⟨t.1 19 (n / 10 * 6 + n % 10), zw s 33 (n / 10 * 6 + n % 10) b, zw t 19 (n / 10 * 6 + n % 10) b, ?_, ?_, ?_⟩
            · unfold f_g_slate f_sl_write
              rw [q_d10 n hn, q_10 n hn, p_name]
              simp only [Option.bind_some, q01_0, p_name, p_isWithin, l0, l999]
              rw [if_neg (fun z => z (by omega)), if_neg (fun z => z (by omega)), if_neg hne, if_neg (fun z => z c4), i1, zld_at hi (by omega), zst_at hi (by omega), g3 _ hi]
              rfl
            · unfold f_m_slate
              rw [if_neg hlt, q_d10 n hn, q_10 n hn, if_neg (d6 c1), if_neg (m6 c2), if_neg hne, p_within, Int32.toInt_toInt64, k0, k999]
              simp only [Option.bind_some, q01_0]
              rw [if_neg (fun z => z c4), i2, zld_at hi (by omega), zst_at hi (by omega)]
              rfl
            · exact ⟨h1, h2, h3, h4, h5, h6, h7, h8, ⟨g1, g2, q_syn g3 _ b, q_all (P := fun _ x => 0 ≤ x.toInt ∧ x.toInt ≤ 999) g4 (fun _ => c4)⟩, h9⟩
          · refine yOp_same (-1) ?_ ?_ h
            · unfold f_g_slate
              rw [q_d10 n hn, q_10 n hn, p_name]
              simp only [Option.bind_some, q01_0, p_name, p_isWithin, l0, l999]
              rw [if_neg (fun z => z (by omega)), if_neg (fun z => z (by omega)), if_neg hne, if_pos c4]
            · unfold f_m_slate
              rw [if_neg hlt, q_d10 n hn, q_10 n hn, if_neg (d6 c1), if_neg (m6 c2), if_neg hne, p_within, Int32.toInt_toInt64, k0, k999]
              simp only [Option.bind_some, q01_0]
              rw [if_pos c4]
      · refine yOp_same (-1) ?_ ?_ h
        · unfold f_g_slate
          rw [q_d10 n hn, q_10 n hn, p_name]
          simp only [Option.bind_some, q01_0, p_name]
          rw [if_neg (fun z => z (by omega)), if_pos (by omega)]
        · unfold f_m_slate
          rw [if_neg hlt, q_d10 n hn, q_10 n hn, if_neg (d6 c1), if_pos (m6' c2)]
    · refine yOp_same (-1) ?_ ?_ h
      · unfold f_g_slate
        rw [q_d10 n hn, p_name]
        simp only [Option.bind_some, q01_0]
        rw [if_pos (by omega)]
      · unfold f_m_slate
        rw [if_neg hlt, q_d10 n hn, if_pos (d6' c1)]
theorem bal_loop (s : zSt) {k : Nat} (hk : k < 6) : ∀ (m i n : Nat) (v : Int32), i + m = 6 → m < n → ∃ r, f_sl_balance_4 n (nI k) v (nI i) s = some (r, s) ∧ ∀ (n' : Nat) (t : zSt), m < n' → (∀ j, j < 36 → s.1 33 j = t.1 19 j) → f_m_owesOf_4 n' (nI k) v (nI i) t = some (r, t) := by
  intro m
  induction m with
  | zero =>
    intro i n v hi hn
    obtain ⟨n, rfl⟩ : ∃ x, n = x + 1 := ⟨n - 1, by omega⟩
    have e : i = 6 := by omega
    subst e
    refine ⟨v, by unfold f_sl_balance_4; rw [if_pos (by decide)], fun n' t hn' _ => ?_⟩
    obtain ⟨n', rfl⟩ : ∃ x, n' = x + 1 := ⟨n' - 1, by omega⟩
    unfold f_m_owesOf_4; rw [if_pos (by decide)]
  | succ m ih =>
    intro i n v hi hn
    obtain ⟨n, rfl⟩ : ∃ x, n = x + 1 := ⟨n - 1, by omega⟩
    have hc : ¬ (6 : Int32) ≤ nI i := nI_ge (b := 6) (by omega) (by omega)
    have i1 : nI k * 6 + nI i = nI (k * 6 + i) := by rw [show (6 : Int32) = nI 6 from rfl, pk_mul, nI_add]
    have i2 : nI i * 6 + nI k = nI (i * 6 + k) := by rw [show (6 : Int32) = nI 6 from rfl, pk_mul, nI_add]
    have i3 : 6 * nI k + nI i = nI (k * 6 + i) := by rw [show (6 : Int32) = nI 6 from rfl, pk_mul, nI_add]; congr 1; omega
    have i4 : 6 * nI i + nI k = nI (i * 6 + k) := by rw [show (6 : Int32) = nI 6 from rfl, pk_mul, nI_add]; congr 1; omega
    obtain ⟨r, h1, h2⟩ := ih (i + 1) n (v + (s.1 33 (k * 6 + i) - s.1 33 (i * 6 + k))) (by omega) (by omega)
    refine ⟨r, ?_, fun n' t hn' ht => ?_⟩
    · unfold f_sl_balance_4
      rw [if_neg hc, i1, i2, zld_at (show k * 6 + i < 36 by omega) (by omega)]
      simp only [Option.bind_some]
      rw [zld_at (show i * 6 + k < 36 by omega) (by omega)]
      simp only [Option.bind_some, nI_1]
      exact h1
    · obtain ⟨n', rfl⟩ : ∃ x, n' = x + 1 := ⟨n' - 1, by omega⟩
      unfold f_m_owesOf_4
      rw [if_neg hc, i3, i4, zld_at (show k * 6 + i < 36 by omega) (by omega)]
      simp only [Option.bind_some]
      rw [zld_at (show i * 6 + k < 36 by omega) (by omega)]
      simp only [Option.bind_some, nI_1, ← ht _ (show k * 6 + i < 36 by omega), ← ht _ (show i * 6 + k < 36 by omega)]
      exact h2 n' t (by omega) ht
theorem p_bal (s : zSt) {k : Nat} (hk : k < 6) : ∃ r, f_sl_balance (nI k) s = some (r, s) ∧ ∀ t : zSt, (∀ j, j < 36 → s.1 33 j = t.1 19 j) → f_m_owesOf (nI k) t = some (r, t) := by
  have hz := zFu_big
  obtain ⟨r, h1, h2⟩ := bal_loop s hk 6 0 zFu 0 rfl (by omega)
  exact ⟨r, h1, fun t ht => h2 zFu t (by omega) ht⟩
theorem op_owes {s t : zSt} (h : yR s t) (a : Int32) : yOp (f_g_owes a) (f_m_owes a) s t := by
  by_cases c : 0 ≤ a.toInt ∧ a.toInt ≤ 5
  · obtain ⟨k, hk, rfl⟩ := q_ix (x := a) (n := 5) c
    obtain ⟨h1, h2, h3, h4, h5, h6, h7, h8, ⟨g1, g2, g3, g4⟩, h9⟩ := id h
    obtain ⟨r, a1, a2⟩ := p_bal s (show k < 6 by omega)
    refine ⟨r, s, t, ?_, ?_, h⟩
    · unfold f_g_owes
      rw [p_name]
      simp only [Option.bind_some, q01_0]
      rw [if_neg (fun z => z c), a1]; rfl
    · unfold f_m_owes
      rw [p_within, Int32.toInt_toInt64, k0, k5]
      simp only [Option.bind_some, q01_0]
      rw [if_neg (fun z => z c), a2 t g3]; rfl
  · refine yOp_same (-2000000000) ?_ ?_ h
    · unfold f_g_owes
      rw [p_name]
      simp only [Option.bind_some, q01_0]
      rw [if_pos c]
    · unfold f_m_owes
      rw [p_within, Int32.toInt_toInt64, k0, k5]
      simp only [Option.bind_some, q01_0]
      rw [if_pos c]
theorem yRH1_more {body sort length : Int32} {elements : Nat → Int64} {shelf many : Int32} {items : Nat → Int64} {bodies : Int32} {n : Nat} (hn : n < 50) (e : bodies = nI n) (h : yRH1 body sort length elements shelf many items bodies) : yRH1 body sort length elements shelf many items (nI (n + 1)) := by
  rcases h with h | ⟨w, k, h1, h2, h3, h4⟩ | h
  · exact Or.inl h
  · have hk : k = n := by
      rw [h3] at e
      exact (nI_eq (by omega) (by omega)).mp e
    subst hk
    exact Or.inr (Or.inl ⟨w, k + 1, by omega, by omega, rfl, h4⟩)
  · exact Or.inr (Or.inr h)
theorem op_body {s t : zSt} (h : yR s t) (a : Int32) : yOp (f_g_body a) (f_m_body a) s t := by
  by_cases c : 0 ≤ a.toInt ∧ a.toInt ≤ 7
  · obtain ⟨k, hk, rfl⟩ := q_ix (x := a) (n := 7) c
    obtain ⟨h1, h2, h3, h4, h5, h6, h7, h8, h9, ⟨⟨n, hn, e1, e2, g⟩, gb⟩, s0, s1, s2, s3, s4, s5⟩ := id h
    by_cases cn : n = 50
    · subst cn
      refine yOp_same (-3) ?_ ?_ h
      · unfold f_g_body f_gl_add
        rw [p_isWithin, l0, l7]
        simp only [Option.bind_some, q01_0]
        rw [if_neg (fun z => z c), e1, if_neg (by decide)]; rfl
      · unfold f_m_body
        rw [p_within, Int32.toInt_toInt64, k0, k7]
        simp only [Option.bind_some, q01_0]
        rw [if_neg (fun z => z c), e2]; rfl
    · have hl : nI n < (50 : Int32) := nI_lt (b := 50) (by omega) (by omega)
      have hne : ¬ nI n = (50 : Int32) := q_ne (b := 50) (by omega) (by omega) cn
      refine ⟨nI n, zw (zw s 37 n (nI k)) 36 1 (nI (n + 1)), zw (zw t 24 n (nI k)) 0 41 (nI (n + 1)), ?_, ?_, ?_⟩
      · unfold f_g_body f_gl_add
        rw [p_isWithin, l0, l7]
        simp only [Option.bind_some, q01_0]
        rw [if_neg (fun z => z c), e1, if_pos hl, zst_at (show n < 50 by omega) (by omega)]
        simp only [Option.bind_some]
        rw [if_neg (by decide), show (zw s 37 n (nI k)).1 36 1 = nI n from e1, nI_1, zw_v, nI_pred]
      · unfold f_m_body
        rw [p_within, Int32.toInt_toInt64, k0, k7]
        simp only [Option.bind_some, q01_0]
        rw [if_neg (fun z => z c), e2, if_neg hne, zst_at (show n < 50 by omega) (by omega)]
        simp only [Option.bind_some]
        rw [show (zw t 24 n (nI k)).1 0 41 = nI n from e2, nI_1, zw_v, nI_pred]
      · have hb : (zw (zw t 24 n (nI k)) 0 41 (nI (n + 1))).1 0 41 = nI (n + 1) := zw_v _ _ _ _
        refine ⟨h1, h2, h3, h4, h5, h6, h7, h8, h9, ⟨⟨n + 1, by omega, zw_v _ _ _ _, hb, fun j hj => ?_⟩, gb⟩, ?_⟩
        · show upd (s.1 37) n (nI k) j = upd (t.1 24) n (nI k) j ∧ ∃ c : Nat, c < 8 ∧ upd (t.1 24) n (nI k) j = nI c
          by_cases e : j = n
          · subst e; rw [q_updS, q_updS]; exact ⟨rfl, k, by omega, rfl⟩
          · rw [q_updN e, q_updN e]; exact g j (by omega)
        · rw [hb]
          exact ⟨yRH1_more (by omega) e2 s0, yRH1_more (by omega) e2 s1, yRH1_more (by omega) e2 s2, yRH1_more (by omega) e2 s3, yRH1_more (by omega) e2 s4, yRH1_more (by omega) e2 s5⟩
  · refine yOp_same (-1) ?_ ?_ h
    · unfold f_g_body
      rw [p_isWithin, l0, l7]
      simp only [Option.bind_some, q01_0]
      rw [if_pos c]
    · unfold f_m_body
      rw [p_within, Int32.toInt_toInt64, k0, k7]
      simp only [Option.bind_some, q01_0]
      rw [if_pos c]
theorem q_min {b c : Nat} (hb : b < 2147483648) (hc : c < 2147483648) : zmin (nI b) (nI c) = nI (if c < b then c else b) := by
  unfold zmin
  by_cases h : c < b
  · rw [if_pos (nI_lt h hb), if_pos h]
  · rw [if_neg (nI_nlt (by omega) hc), if_neg h]
theorem op_trace {s t : zSt} (h : yR s t) (a : Int32) : yOp (f_g_trace a) (f_m_trace a) s t := by
  obtain ⟨h1, h2, h3, h4, h5, h6, h7, h8, h9, ⟨⟨n, hn, e1, e2, g⟩, b, hb, e3, e4, gb⟩, hs⟩ := id h
  have hk : f_gl_begunKept s = some (nI (if 24 < b then 24 else b), s) := by
    unfold f_gl_begunKept
    rw [e3, show (24 : Int32) = nI 24 from rfl, q_min (by omega) (by omega)]
  have hm : (if 24 < b then 24 else b) ≤ 24 := by split <;> omega
  generalize hK : (if 24 < b then 24 else b) = K at hk hm
  have hKb : K ≤ b ∧ (K < 24 → K = b) := by rw [← hK]; split <;> omega
  have ei : (nI K - 1 : Int32).toInt = (K : Int) - 1 := pk_sub_toInt (a := K) (b := 1) (by omega) (by omega)
  have e0 : (0 : Int32).toInt = 0 := rfl
  by_cases c : 0 ≤ a.toInt ∧ a.toInt < (K : Int)
  · obtain ⟨j, hj, rfl⟩ := q_ixl c
    refine ⟨t.1 25 j, s, t, ?_, ?_, h⟩
    · unfold f_g_trace
      rw [hk]
      simp only [Option.bind_some, p_isWithin, q01_0, ei, e0]
      rw [if_neg (fun z => z (by omega)), zld_at (show j < 24 by omega) (by omega), gb j (by omega) (by omega)]; rfl
    · unfold f_m_trace
      rw [if_neg (nI_pos (by omega)), e4, if_neg (nI_ge (by omega) (by omega)), if_neg (show ¬ (24 : Int32) ≤ nI j from nI_ge (b := 24) (by omega) (by omega)), zld_at (show j < 24 by omega) (by omega)]; rfl
  · refine yOp_same (-1) ?_ ?_ h
    · unfold f_g_trace
      rw [hk]
      simp only [Option.bind_some, p_isWithin, q01_0, ei, e0]
      rw [if_pos (by omega)]
    · unfold f_m_trace
      by_cases hl : a < 0
      · rw [if_pos hl]
      · rw [if_neg hl]
        have hl2 : ¬ a.toInt < 0 := fun z => hl ((q_lt _ _).mpr z)
        obtain ⟨j, hj, rfl⟩ := q_pos hl2
        rw [q_nI hj] at c
        rw [e4]
        by_cases c2 : b ≤ j
        · rw [if_pos (nI_le c2 (by omega))]
        · rw [if_neg (nI_ge (by omega) (by omega)), if_pos (show (24 : Int32) ≤ nI j from nI_le (a := 24) (by omega) (by omega))]
