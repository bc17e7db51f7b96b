/-! OPS 5: stand, of, slate, owes, body, trace -/
theorem q_subE (a b : Int32) : (a - b).toInt % 4294967296 = (a.toInt - b.toInt) % 4294967296 := by
  rw [Int32.toInt_sub]; exact Int.bmod_emod
theorem q_addE (a b : Int32) : (a + b).toInt % 4294967296 = (a.toInt + b.toInt) % 4294967296 := by
  rw [Int32.toInt_add]; exact Int.bmod_emod
theorem q_mulE (a b : Int32) : (a * b).toInt % 4294967296 = (a.toInt * b.toInt) % 4294967296 := by
  rw [Int32.toInt_mul]; exact Int.bmod_emod
theorem q_subI {a b : Int32} (h1 : -2147483648 ≤ a.toInt - b.toInt) (h2 : a.toInt - b.toInt < 2147483648) : (a - b).toInt = a.toInt - b.toInt := by
  have e := q_subE a b
  have r := q_rng (a - b)
  omega
theorem q_addI {a b : Int32} (h1 : -2147483648 ≤ a.toInt + b.toInt) (h2 : a.toInt + b.toInt < 2147483648) : (a + b).toInt = a.toInt + b.toInt := by
  have e := q_addE a b
  have r := q_rng (a + b)
  omega
theorem q_mulI {a b : Int32} (h1 : -2147483648 ≤ a.toInt * b.toInt) (h2 : a.toInt * b.toInt < 2147483648) : (a * b).toInt = a.toInt * b.toInt := by
  have e := q_mulE a b
  have r := q_rng (a * b)
  omega
theorem stand_loop {f T : Nat} (v : Int32) (hT : T ≤ 31) (hf : f ≤ 31) : ∀ (m q n n' : Nat) (s t : zSt), q + m = T + 1 → m < n → m < n' → yR s t → ∃ r s' t', f_g_stand_30 n v (nI (100 * f + T)) (nI q) s = some (r, s') ∧ f_m_stand_27 n' v (nI (100 * f + T)) (nI q) t = some (r, t') ∧ yR s' t' := by
  intro m
  induction m with
  | zero =>
    intro q n n' s t hq hn hn' h
    obtain ⟨n, rfl⟩ : ∃ k, n = k + 1 := ⟨n - 1, by omega⟩
    obtain ⟨n', rfl⟩ : ∃ k, n' = k + 1 := ⟨n' - 1, by omega⟩
    have e : q = T + 1 := by omega
    subst e
    have hc : nI T < nI (T + 1) := nI_lt (by omega) (by omega)
    have e1 : (100 * f + T) % 100 = T := by omega
    exact ⟨_, s, t, by simp only [f_g_stand_30, q_100 _ (show 100 * f + T < 2147483648 by omega), e1, if_pos hc]; rfl, by simp only [f_m_stand_27, q_100 _ (show 100 * f + T < 2147483648 by omega), e1, if_pos hc], h⟩
  | succ m ih =>
    intro q n n' s t hq hn hn' h
    obtain ⟨n, rfl⟩ : ∃ k, n = k + 1 := ⟨n - 1, by omega⟩
    obtain ⟨n', rfl⟩ : ∃ k, n' = k + 1 := ⟨n' - 1, by omega⟩
    have hc : ¬ nI T < nI q := nI_nlt (by omega) (by omega)
    have e1 : (100 * f + T) % 100 = T := by omega
    obtain ⟨h1, ⟨g1, g2, g3⟩, h3⟩ := h
    have hR : yR (zw s 8 q v) (zw t 6 q v) := ⟨h1, ⟨g1, q_syn g2 _ v, g3⟩, h3⟩
    obtain ⟨r, s', t', a1, a2, a3⟩ := ih (q + 1) n n' _ _ (by omega) (by omega) (by omega) hR
    refine ⟨r, s', t', ?_, ?_, a3⟩
    · simp only [f_g_stand_30, q_100 _ (show 100 * f + T < 2147483648 by omega), e1, if_neg hc, zst_at (show q < 32 by omega) (show (32 : Nat) < 2147483648 by omega), Option.bind_some, nI_1]
      exact a1
    · simp only [f_m_stand_27, q_100 _ (show 100 * f + T < 2147483648 by omega), e1, if_neg hc, zst_at (show q < 32 by omega) (show (32 : Nat) < 2147483648 by omega), Option.bind_some, nI_1]
      exact a2
theorem op_stand {s t : zSt} (h : yR s t) (a b : Int32) : yOp (f_g_stand a b) (f_m_stand a b) s t := by
  obtain ⟨h1, ⟨g1, g2, g3, g4, p, hp, e1, e2⟩, h3⟩ := id h
  have hz := zFu_big
  by_cases hb : zSp b
  · obtain ⟨f, T, hf, hT, rfl⟩ := id hb
    obtain ⟨r, s', t', a1, a2, a3⟩ := stand_loop (f := f) (T := T) a hT (by omega) (T + 1 - f) f zFu zFu s t (by omega) (by omega) (by omega) h
    have e3 : (100 * f + T) / 100 = f := by omega
    by_cases ha : a = -1
    · refine ⟨r, s', t', ?_, ?_, a3⟩
      · unfold f_g_stand; rw [if_pos ha, (p_gSpan _ s).1 hb]
        simp only [Option.bind_some]
        rw [if_neg (by decide), q_d100 _ (by omega), e3]; exact a1
      · unfold f_m_stand; rw [if_pos ha, (p_mSpan _ t).1 hb]
        simp only [Option.bind_some]
        rw [if_neg (by decide), q_d100 _ (by omega), e3]; exact a2
    · by_cases hc : 0 ≤ a.toInt ∧ a.toInt < (p : Int)
      · refine ⟨r, s', t', ?_, ?_, a3⟩
        · unfold f_g_stand; rw [if_neg ha, p_gPlace hp _ s e1]
          simp only [Option.bind_some]
          rw [q01_t hc, if_neg (by decide), (p_gSpan _ s).1 hb]
          simp only [Option.bind_some]
          rw [if_neg (by decide), q_d100 _ (by omega), e3]; exact a1
        · unfold f_m_stand; rw [if_neg ha, p_mPlace hp _ t e2]
          simp only [Option.bind_some]
          rw [q01_t hc, if_neg (by decide), (p_mSpan _ t).1 hb]
          simp only [Option.bind_some]
          rw [if_neg (by decide), q_d100 _ (by omega), e3]; exact a2
      · refine yOp_same (-1) ?_ ?_ h
        · unfold f_g_stand; rw [if_neg ha, p_gPlace hp _ s e1]
          simp only [Option.bind_some]
          rw [q01_f hc, if_pos rfl]
        · unfold f_m_stand; rw [if_neg ha, p_mPlace hp _ t e2]
          simp only [Option.bind_some]
          rw [q01_f hc, if_pos rfl]
  · refine yOp_same (-1) ?_ ?_ h
    · unfold f_g_stand
      by_cases ha : a = -1
      · rw [if_pos ha, (p_gSpan _ s).2 hb]; rfl
      · rw [if_neg ha, p_gPlace hp _ s e1]
        simp only [Option.bind_some, (p_gSpan _ s).2 hb]
        split <;> rfl
    · unfold f_m_stand
      by_cases ha : a = -1
      · rw [if_pos ha, (p_mSpan _ t).2 hb]; rfl
      · rw [if_neg ha, p_mPlace hp _ t e2]
        simp only [Option.bind_some, (p_mSpan _ t).2 hb]
        split <;> rfl
/-- what a jug costs -/
theorem p_gJug (s : zSt) : f_rc_jugCost s = some (3 * s.1 2 0 + s.1 2 1, s) := by
  unfold f_rc_jugCost
  rw [show (0 : Int32) = nI 0 from rfl, show (1 : Int32) = nI 1 from rfl, zld_at (show 0 < 8 by omega) (by omega), zld_at (show 1 < 8 by omega) (by omega)]
  rfl
theorem p_mJug (s : zSt) : f_m_jugCost s = some (3 * s.1 1 0 + s.1 1 1, s) := by
  unfold f_m_jugCost
  rw [show (0 : Int32) = nI 0 from rfl, show (1 : Int32) = nI 1 from rfl, zld_at (show 0 < 8 by omega) (by omega), zld_at (show 1 < 8 by omega) (by omega)]
  rfl
theorem p_gGlass {s : zSt} (h : zrg 2 (s.1 2 2)) : f_rc_glassCost s = some ((3 * s.1 2 0 + s.1 2 1) / s.1 2 2, s) := by
  have h1 : 1 ≤ (s.1 2 2).toInt := h.1
  have hne : ¬ s.1 2 2 ≤ 0 := by rw [q_le]; show ¬ (s.1 2 2).toInt ≤ 0; omega
  have hn0 : ¬ s.1 2 2 = 0 := fun e => by rw [e] at h1; exact absurd h1 (by decide)
  unfold f_rc_glassCost
  rw [show (2 : Int32) = nI 2 from rfl, zld_at (show 2 < 8 by omega) (by omega)]
  simp only [Option.bind_some]
  rw [if_neg hne, p_gJug]
  simp only [Option.bind_some]
  rw [zld_at (show 2 < 8 by omega) (by omega)]
  simp only [Option.bind_some, zdv]
  rw [if_neg hn0]; rfl
theorem p_flowAt {s : zSt} {p j k : Nat} (hp : p ≤ 4) (e : s.1 6 3 = nI p) (hj : j < p) (hk : k < 32) : f_st_flowAt (nI j) (nI k) s = some (s.1 9 (32 * j + k), s) := by
  have hjI : 0 ≤ (nI j).toInt ∧ (nI j).toInt < (p : Int) := by rw [q_nI (by omega)]; omega
  have hkI : 0 ≤ (nI k).toInt ∧ (nI k).toInt ≤ 31 := by rw [q_nI (by omega)]; omega
  have i1 : nI j * 32 + nI k = nI (32 * j + k) := by rw [show (32 : Int32) = nI 32 from rfl, pk_mul, nI_add]; congr 1; omega
  unfold f_st_flowAt
  rw [p_gPlace hp _ s e]
  simp only [Option.bind_some]
  rw [q01_t hjI, if_neg (by decide), p_gQ]
  simp only [Option.bind_some]
  rw [q01_t hkI, if_neg (by decide), i1, zld_at (show 32 * j + k < 128 by omega) (by omega)]
  rfl
theorem op_of {s t : zSt} (h : yR s t) (a : Int32) : yOp (f_g_of a) (f_m_of a) s t := by
  obtain ⟨⟨c1, c2, -⟩, ⟨g1, g2, g3, g4, p, hp, e1, e2⟩, h3⟩ := id h
  have r := q_rng a
  have l0 : (0 : Int32).toInt = 0 := rfl
  have l7 : (7 : Int32).toInt = 7 := rfl
  have k0 : (0 : Int64).toInt = 0 := rfl
  have k7 : (7 : Int64).toInt = 7 := rfl
  have k8 : (8 : Int64).toInt = 8 := rfl
  have k9 : (9 : Int64).toInt = 9 := rfl
  have k100 : (100 : Int64).toInt = 100 := rfl
  have k299 : (299 : Int64).toInt = 299 := rfl
  have s100 := q_subE a 100
  have s200 := q_subE a 200
  rw [show (100 : Int32).toInt = 100 from rfl] at s100
  rw [show (200 : Int32).toInt = 200 from rfl] at s200
  have r100 := q_rng (a - 100)
  have r200 := q_rng (a - 200)
  have lt1000 : a < 1000 ↔ a.toInt < 1000 := q_lt a 1000
  unfold yOp
  by_cases c7 : 0 ≤ a.toInt ∧ a.toInt ≤ 7
  · obtain ⟨j, hj, rfl⟩ := q_ix (x := a) (n := 7) c7
    refine ⟨t.1 1 j, s, t, ?_, ?_, h⟩
    · unfold f_g_of; rw [p_isWithin]; simp only [Option.bind_some]
      rw [q01_t (by rw [l0, l7]; exact c7), if_neg (by decide), zld_at (show j < 8 by omega) (by omega), c1 j (by omega)]; rfl
    · unfold f_m_of; rw [p_within, Int32.toInt_toInt64]; simp only [Option.bind_some]
      rw [q01_t (by rw [k0, k7]; exact c7), if_neg (by decide), zld_at (show j < 8 by omega) (by omega)]; rfl
  · have hg0 : f_g_of a s = (if a = 8 then (f_rc_jugCost s).bind fun x2 => some (x2.1, x2.2) else if a = 9 then (f_rc_glassCost s).bind fun x3 => some (x3.1, x3.2) else (f_g_isQuarter (a - 100) s).bind fun x4 => if x4.1 = 0 then (f_g_isQuarter (a - 200) x4.2).bind fun x5 => if x5.1 = 0 then if a < 1000 then some ((-2000000000), x5.2) else (f_st_isPlace ((a - 1000) / 100) x5.2).bind fun x6 => if x6.1 = 0 then some ((-2000000000), x6.2) else (f_g_isQuarter (zrem a 100) x6.2).bind fun x7 => if x7.1 = 0 then some ((-2000000000), x7.2) else (f_st_flowAt ((a - 1000) / 100) (zrem a 100) x7.2).bind fun x8 => some (x8.1, x8.2) else (zld x5.2 8 32 (a - 200)).bind fun x9 => some (x9, x5.2) else (zld x4.2 7 32 (a - 100)).bind fun x10 => some (x10, x4.2)) := by
      unfold f_g_of; rw [p_isWithin]; simp only [Option.bind_some]
      rw [q01_f (by rw [l0, l7]; exact c7), if_pos rfl]
    have hm0 : f_m_of a t = ((f_m_within a.toInt64 8 9 t).bind fun x2 => if x2.1 = 0 then if a < 1000 then (f_m_within a.toInt64 100 299 x2.2).bind fun x3 => if x3.1 = 0 then some ((-2000000000), x3.2) else (f_m_isQuarter (zrem a 100) x3.2).bind fun x4 => if x4.1 = 0 then some ((-2000000000), x4.2) else if 200 ≤ a then (zld x4.2 6 32 (a - 200)).bind fun x5 => some (x5, x4.2) else (zld x4.2 5 32 (a - 100)).bind fun x6 => some (x6, x4.2) else (f_m_isPlace ((a - 1000) / 100) x2.2).bind fun x7 => if x7.1 = 0 then some ((-2000000000), x7.2) else (f_m_isQuarter (zrem a 100) x7.2).bind fun x8 => if x8.1 = 0 then some ((-2000000000), x8.2) else (zld x8.2 7 128 ((32 * ((a - 1000) / 100)) + (zrem a 100))).bind fun x9 => some (x9, x8.2) else if a = 8 then (f_m_jugCost x2.2).bind fun x10 => some (x10.1, x10.2) else (f_m_jugCost x2.2).bind fun x11 => (zld x11.2 1 8 2).bind fun x12 => (zdv x11.1 x12).bind fun x13 => some (x13, x11.2)) := by
      unfold f_m_of; rw [p_within, Int32.toInt_toInt64]; simp only [Option.bind_some]
      rw [q01_f (by rw [k0, k7]; exact c7), if_pos rfl]
    rw [hg0, hm0, p_within, Int32.toInt_toInt64, k8, k9]
    simp only [Option.bind_some]
    have e8 : a = 8 ↔ a.toInt = 8 := q_eq a 8
    have e9 : a = 9 ↔ a.toInt = 9 := q_eq a 9
    by_cases c89 : 8 ≤ a.toInt ∧ a.toInt ≤ 9
    · rw [q01_t c89, if_neg (by decide : ¬ (1 : Int32) = 0)]
      by_cases c8 : a = 8
      · rw [if_pos c8, if_pos c8, p_gJug, p_mJug]
        exact ⟨_, s, t, rfl, by rw [← c1 0 (by omega), ← c1 1 (by omega)]; rfl, h⟩
      · have c9 : a = 9 := e9.mpr (by rw [e8] at c8; omega)
        have h2 : zrg 2 (s.1 2 2) := c2 2 (by omega)
        have hn0 : ¬ t.1 1 2 = 0 := fun e => by
          have h1 := h2.1
          rw [c1 2 (by omega), e] at h1
          exact absurd h1 (by decide)
        rw [if_neg c8, if_pos c9, p_gGlass h2, if_neg c8, p_mJug]
        simp only [Option.bind_some]
        rw [show (2 : Int32) = nI 2 from rfl, zld_at (show 2 < 8 by omega) (by omega)]
        simp only [Option.bind_some, zdv]
        rw [if_neg hn0]
        exact ⟨_, s, t, rfl, by rw [← c1 0 (by omega), ← c1 1 (by omega), ← c1 2 (by omega)]; rfl, h⟩
    · have n8 : ¬ a = 8 := fun e => c89 (by rw [e8.mp e]; omega)
      have n9 : ¬ a = 9 := fun e => c89 (by rw [e9.mp e]; omega)
      rw [q01_f c89, if_pos rfl, if_neg n8, if_neg n9, p_gQ]
      simp only [Option.bind_some]
      by_cases c1000 : a.toInt < 1000
      · rw [if_pos (lt1000.mpr c1000), p_within, Int32.toInt_toInt64, k100, k299]
        simp only [Option.bind_some]
        by_cases ch : 100 ≤ a.toInt ∧ a.toInt ≤ 131
        · obtain ⟨j, hj, ej⟩ := q_ix (x := a - 100) (n := 31) (by omega)
          obtain ⟨n, hn, rfl⟩ := q_pos (x := a) (by omega)
          have hi := q_nI hn
          have hz : 0 ≤ (zrem (nI n) 100).toInt ∧ (zrem (nI n) 100).toInt ≤ 31 := by rw [q_100 n hn, q_nI (by omega)]; omega
          have h200 : ¬ (200 : Int32) ≤ nI n := nI_ge (b := 200) (by omega) (by omega)
          rw [q01_t (by omega), if_neg (by decide : ¬ (1 : Int32) = 0), q01_t (by omega), if_neg (by decide : ¬ (1 : Int32) = 0), p_mQ]
          simp only [Option.bind_some]
          rw [q01_t hz, if_neg (by decide : ¬ (1 : Int32) = 0), if_neg h200, ej, zld_at (show j < 32 by omega) (by omega), zld_at (show j < 32 by omega) (by omega)]
          exact ⟨_, s, t, rfl, by rw [← g1 j (by omega)]; rfl, h⟩
        · rw [q01_f (by omega), if_pos rfl, p_gQ]
          simp only [Option.bind_some]
          by_cases cs : 200 ≤ a.toInt ∧ a.toInt ≤ 231
          · obtain ⟨j, hj, ej⟩ := q_ix (x := a - 200) (n := 31) (by omega)
            obtain ⟨n, hn, rfl⟩ := q_pos (x := a) (by omega)
            have hi := q_nI hn
            have hz : 0 ≤ (zrem (nI n) 100).toInt ∧ (zrem (nI n) 100).toInt ≤ 31 := by rw [q_100 n hn, q_nI (by omega)]; omega
            have h200 : (200 : Int32) ≤ nI n := nI_le (a := 200) (by omega) (by omega)
            rw [q01_t (by omega), if_neg (by decide : ¬ (1 : Int32) = 0), q01_t (by omega), if_neg (by decide : ¬ (1 : Int32) = 0), p_mQ]
            simp only [Option.bind_some]
            rw [q01_t hz, if_neg (by decide : ¬ (1 : Int32) = 0), if_pos h200, ej, zld_at (show j < 32 by omega) (by omega), zld_at (show j < 32 by omega) (by omega)]
            exact ⟨_, s, t, rfl, by rw [← g2 j (by omega)]; rfl, h⟩
          · rw [q01_f (by omega), if_pos rfl, if_pos (lt1000.mpr c1000)]
            by_cases c3 : 100 ≤ a.toInt ∧ a.toInt ≤ 299
            · obtain ⟨n, hn, rfl⟩ := q_pos (x := a) (by omega)
              have hi := q_nI hn
              have hz : ¬ (0 ≤ (zrem (nI n) 100).toInt ∧ (zrem (nI n) 100).toInt ≤ 31) := by rw [q_100 n hn, q_nI (by omega)]; omega
              rw [q01_t c3, if_neg (by decide : ¬ (1 : Int32) = 0), p_mQ]
              simp only [Option.bind_some]
              rw [q01_f hz, if_pos rfl]
              exact ⟨_, s, t, rfl, rfl, h⟩
            · rw [q01_f c3, if_pos rfl]
              exact ⟨_, s, t, rfl, rfl, h⟩
      · have nl : ¬ a < 1000 := fun z => c1000 (lt1000.mp z)
        rw [q01_f (by omega), if_pos rfl, p_gQ]
        simp only [Option.bind_some]
        rw [q01_f (by omega), if_pos rfl, if_neg nl, if_neg nl]
        obtain ⟨n, hn, rfl⟩ := q_pos (x := a) (by omega)
        rw [q_nI hn] at c1000
        have e1000 : nI n - 1000 = nI (n - 1000) := pk_sub (a := n) (b := 1000) (by omega)
        rw [e1000, q_d100 _ (by omega), q_100 n hn, p_gPlace hp _ s e1, p_mPlace hp _ t e2]
        simp only [Option.bind_some]
        by_cases cp : (n - 1000) / 100 < p
        · have hjI : 0 ≤ (nI ((n - 1000) / 100)).toInt ∧ (nI ((n - 1000) / 100)).toInt < (p : Int) := by rw [q_nI (by omega)]; omega
          rw [q01_t hjI, if_neg (by decide : ¬ (1 : Int32) = 0), if_neg (by decide : ¬ (1 : Int32) = 0), p_gQ, p_mQ]
          simp only [Option.bind_some]
          by_cases cq : n % 100 < 32
          · have hkI : 0 ≤ (nI (n % 100)).toInt ∧ (nI (n % 100)).toInt ≤ 31 := by rw [q_nI (by omega)]; omega
            have i2 : 32 * nI ((n - 1000) / 100) + nI (n % 100) = nI (32 * ((n - 1000) / 100) + n % 100) := by rw [show (32 : Int32) = nI 32 from rfl, pk_mul, nI_add]
            rw [q01_t hkI, if_neg (by decide : ¬ (1 : Int32) = 0), if_neg (by decide : ¬ (1 : Int32) = 0), p_flowAt hp e1 cp cq, i2, zld_at (show 32 * ((n - 1000) / 100) + n % 100 < 128 by omega) (by omega)]
            exact ⟨_, s, t, rfl, by rw [← g3 _ (show 32 * ((n - 1000) / 100) + n % 100 < 128 by omega)]; rfl, h⟩
          · have hkI : ¬ (0 ≤ (nI (n % 100)).toInt ∧ (nI (n % 100)).toInt ≤ 31) := by rw [q_nI (by omega)]; omega
            rw [q01_f hkI, if_pos rfl, if_pos rfl]
            exact ⟨_, s, t, rfl, rfl, h⟩
        · have hjI : ¬ (0 ≤ (nI ((n - 1000) / 100)).toInt ∧ (nI ((n - 1000) / 100)).toInt < (p : Int)) := by rw [q_nI (by omega)]; omega
          rw [q01_f hjI, if_pos rfl, if_pos rfl]
          exact ⟨_, s, t, rfl, rfl, h⟩
