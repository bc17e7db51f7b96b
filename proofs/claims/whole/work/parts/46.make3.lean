/-! OPS 16: make, both -/
theorem gn_abs {p c x n g : Nat} (hx : x ≤ 12) (hn : n ≤ 8) (hg : g ≤ 8) (hp : p ≤ 50) (hc : c ≤ 99) : (gn p c x n g).toInt.natAbs < 2 ^ 62 := by
  have h1 : sm x n g (n + 1) ≤ 9 * (12 ^ 8 * 8) := Nat.le_trans (sm_le hx hn g hg (n + 1)) (Nat.mul_le_mul (by omega) (Nat.le_refl _))
  have h2 : p * sm x n g (n + 1) ≤ 50 * (9 * (12 ^ 8 * 8)) := Nat.mul_le_mul hp h1
  have h3 : 12 ^ n ≤ 12 ^ 8 := Nat.pow_le_pow_right (by omega) hn
  have h4 : c * g * 12 ^ n ≤ 99 * 8 * 12 ^ 8 := Nat.mul_le_mul (Nat.mul_le_mul hc hg) h3
  unfold gn
  generalize p * sm x n g (n + 1) = X at h2
  generalize c * g * 12 ^ n = D at h4
  have e : (lN X - lN D).toInt = (X : Int) - D := by
    rw [Int64.toInt_sub, y_lI (by omega), y_lI (by omega)]
    exact Int.bmod_eq_of_le (by omega) (by omega)
  rw [e]
  omega
theorem part_at {A : Int64} {b : Nat} (hA : A.toInt.natAbs < 2 ^ 62) (hb : 1 ≤ b) (hb2 : b < 2 ^ 62) (s t : zSt) :
    ∃ r q, ((f_su_divisor A (lN b) s).bind fun x6 => (zdvl A x6.1).bind fun x7 => some (x7, x6.2)) = some (r, s) ∧ ((f_su_divisor A (lN b) s).bind fun x8 => (zdvl (lN b) x8.1).bind fun x9 => some (x9, x8.2)) = some (q, s) ∧
      f_m_partOf A (lN b) 0 t = some (r, t) ∧ f_m_partOf A (lN b) 1 t = some (q, t) := by
  obtain ⟨e1, e2⟩ := div_common hA hb hb2 s t
  have hg : 0 < Nat.gcd b A.toInt.natAbs := Nat.gcd_pos_of_pos_left _ hb
  have hg2 : Nat.gcd b A.toInt.natAbs ≤ b := Nat.gcd_le_left _ hb
  have nz : ¬ lN (Nat.gcd b A.toInt.natAbs) = 0 := by rw [n64_inj, y_lI (by omega), k0]; omega
  rw [e1]
  rw [Option.bind_some, Option.bind_some]
  by_cases hz : A = 0
  · have eg : Nat.gcd b A.toInt.natAbs = b := by
      rw [hz, k0]
      exact Nat.gcd_zero_right b
    unfold f_m_partOf
    rw [if_pos ((q_cmp_0 _).mpr hz), if_pos ((q_cmp_0 _).mpr hz), eg, hz, show (0 : Int64) = lN 0 from rfl, zdvl_at (by omega) (by omega) (by omega), zdvl_at (by omega) (by omega) (by omega), Nat.zero_div, Nat.div_self (by omega)]
    exact ⟨_, _, rfl, rfl, rfl, rfl⟩
  · unfold f_m_partOf
    rw [if_neg (fun z => hz ((q_cmp_0 _).mp z)), if_neg (fun z => hz ((q_cmp_0 _).mp z)), e2, Option.bind_some, Option.bind_some, if_pos rfl, if_neg q_neg10']
    unfold zdvl
    rw [if_neg nz, if_neg nz]
    exact ⟨_, _, rfl, rfl, rfl, rfl⟩
theorem make_both {x n p c w : Nat} (hx : x ≤ 12) (hn : n ≤ 8) (hp : p ≤ 50) (hc : c ≤ 99) (hw : w ≤ 2) {s t : zSt} (es : s.1 2 3 = nI p) (et : t.1 1 3 = nI p) : ∀ (k g b F F' : Nat), g + k = n + 1 → 1 ≤ g → b ≤ n → k < F → k < F' →
    ∃ r, f_g_make_63 F (nI c) (nI w) (nI n) (nI x) (nI b) (nI g) s = some (r, s) ∧ f_m_make_190 F' (nI c) (nI w) (nI n) (lN (12 ^ n)) (nI b) (gn p c x n b) (nI g) (zdp t x n) = some (r, zdp t x n) := by
  intro k
  induction k with
  | zero =>
    intro g b F F' hg h1 hb hF hF'
    obtain ⟨F, rfl⟩ : ∃ x, F = x + 1 := ⟨F - 1, by omega⟩
    obtain ⟨F', rfl⟩ : ∃ x, F' = x + 1 := ⟨F' - 1, by omega⟩
    have h3 : 12 ^ n ≤ 12 ^ 8 := Nat.pow_le_pow_right (by omega) hn
    have h4 : 0 < 12 ^ n := Nat.pow_pos (by omega)
    obtain ⟨r, q, r1, r2, r3, r4⟩ := part_at (gn_abs (g := b) hx hn (by omega) hp hc) (show 1 ≤ 12 ^ n from h4) (by omega) s (zdp t x n)
    unfold f_g_make_63 f_m_make_190
    rw [if_pos (nI_lt (by omega) (by omega)), if_pos (nI_lt (by omega) (by omega)), p_gain hn hx (by omega) hc hp es, Option.bind_some, show (12 : Int64) = lN 12 from rfl, p_pow hn, Option.bind_some]
    match w, hw with
    | 0, _ => exact ⟨_, if_pos rfl, if_pos rfl⟩
    | 1, _ =>
      refine ⟨r, ?_, ?_⟩
      · rw [if_neg (by decide), if_pos (by rfl)]
        exact r1
      · rw [if_neg (by decide), show nI 1 - 1 = (0 : Int32) from by decide, r3]
        rfl
    | 2, _ =>
      refine ⟨q, ?_, ?_⟩
      · rw [if_neg (by decide), if_neg (by decide)]
        exact r2
      · rw [if_neg (by decide), show nI 2 - 1 = (1 : Int32) from by decide, r4]
        rfl
  | succ k ih =>
    intro g b F F' hg h1 hb hF hF'
    obtain ⟨F, rfl⟩ : ∃ x, F = x + 1 := ⟨F - 1, by omega⟩
    obtain ⟨F', rfl⟩ : ∃ x, F' = x + 1 := ⟨F' - 1, by omega⟩
    have hcg : c * g ≤ 99 * 8 := Nat.mul_le_mul hc (by omega)
    have e0 : ((((-(nI c)) * nI g) : Int32).toInt64 * lN (12 ^ n)) = lN (p * sm x n g 0) - lN (c * g * 12 ^ n) := by
      have e1 : ((-(nI c)) * nI g : Int32).toInt64 = -(lN (c * g)) := by
        rw [Int32.neg_mul, pk_mul, n64_inj, Int32.toInt_toInt64, Int64.toInt_neg, y_lI (by omega), Int32.toInt_neg, q_nI (by omega)]
        rw [Int.bmod_eq_of_le (by omega) (by omega), Int.bmod_eq_of_le (by omega) (by omega)]
      rw [e1, show sm x n g 0 = 0 from rfl, Nat.mul_zero, Int64.neg_mul, lN_mul, show lN 0 = (0 : Int64) from rfl, Int64.zero_sub]
    have hz := zFu_big
    have hl := gain_loop (g := g) (p := p) (c := c) hx hn (by omega) hp (f_m_make_190 F') (nI c) (nI w) (lN (12 ^ n)) (nI b) (gn p c x n b) t et (n + 1) 0 zFu (by omega) (by omega)
    rw [if_neg (show ¬ nI g = 0 from nI_ne0 (by omega) (by omega))] at hl
    have hM : f_m_make_190 (F' + 1) (nI c) (nI w) (nI n) (lN (12 ^ n)) (nI b) (gn p c x n b) (nI g) (zdp t x n) = if lg_cmp (gn p c x n g) (gn p c x n b) ≤ 0 then f_m_make_190 F' (nI c) (nI w) (nI n) (lN (12 ^ n)) (nI b) (gn p c x n b) (nI (g + 1)) (zdp t x n) else f_m_make_190 F' (nI c) (nI w) (nI n) (lN (12 ^ n)) (nI g) (gn p c x n g) (nI (g + 1)) (zdp t x n) := by
      conv => lhs; unfold f_m_make_190
      rw [if_neg (nI_nlt (by omega) (by omega)), e0]
      exact hl
    have hG : f_g_make_63 (F + 1) (nI c) (nI w) (nI n) (nI x) (nI b) (nI g) s = if lg_cmp (gn p c x n g) (gn p c x n b) ≤ 0 then f_g_make_63 F (nI c) (nI w) (nI n) (nI x) (nI b) (nI (g + 1)) s else f_g_make_63 F (nI c) (nI w) (nI n) (nI x) (nI g) (nI (g + 1)) s := by
      conv => lhs; unfold f_g_make_63
      rw [if_neg (nI_nlt (by omega) (by omega)), p_gain hn hx (show g ≤ 8 by omega) hc hp es, Option.bind_some, p_gain hn hx (show b ≤ 8 by omega) hc hp es, Option.bind_some, nI_1]
    rw [hG, hM]
    by_cases d : lg_cmp (gn p c x n g) (gn p c x n b) ≤ 0
    · rw [if_pos d, if_pos d]
      exact ih (g + 1) b F F' (by omega) (by omega) hb (by omega) (by omega)
    · rw [if_neg d, if_neg d]
      exact ih (g + 1) g F F' (by omega) (by omega) (by omega) (by omega) (by omega)
theorem make_m0 {x n p c : Nat} (hx : x ≤ 12) (hn : n ≤ 8) (hp : p ≤ 50) (w : Int32) {t : zSt} (et : t.1 1 3 = nI p) : ∃ F', 4000 < F' ∧ f_m_make_68 zFu (nI c) w (nI n) (nI x) 1 0 t = f_m_make_190 F' (nI c) w (nI n) (lN (12 ^ n)) (nI 0) (gn p c x n 0) (nI 1) (zdp t x n) := by
  have hz := zFu_big
  obtain ⟨F', hF'⟩ : ∃ x, zFu = x + 1 := ⟨zFu - 1, by omega⟩
  refine ⟨F', by omega, ?_⟩
  have h1 := make_start hx hn (nI c) w t 10 0 zFu (by omega) (by omega)
  rw [zfz_0] at h1
  have e0 : ((((-(nI c)) * 0) : Int32).toInt64 * lN (12 ^ n)) = lN (p * sm x n 0 0) - lN (c * 0 * 12 ^ n) := by
    rw [Int32.mul_zero, show sm x n 0 0 = 0 from rfl, Nat.mul_zero, Nat.mul_zero, Nat.zero_mul, show (0 : Int32).toInt64 = 0 from rfl, Int64.zero_mul, Int64.sub_self]
  have hl := gain_loop (g := 0) (p := p) (c := c) hx hn (by omega) hp (f_m_make_190 F') (nI c) w (lN (12 ^ n)) 0 0 t et (n + 1) 0 zFu (by omega) (by omega)
  rw [if_pos (by rfl)] at hl
  refine Eq.trans h1 ?_
  have h2 : f_m_make_190 (F' + 1) (nI c) w (nI n) (lN (12 ^ n)) 0 0 0 (zdp t x n) = f_m_make_211 (f_m_make_190 F') zFu (nI c) w (nI n) (lN (12 ^ n)) 0 0 0 ((((-(nI c)) * 0) : Int32).toInt64 * lN (12 ^ n)) 0 (zdp t x n) := by
    conv => lhs; unfold f_m_make_190
    rw [if_neg (show ¬ nI n < (0 : Int32) from nI_pos (by omega))]
  rw [e0] at h2
  rw [hF'] at h2 hl ⊢
  exact h2.trans hl
theorem op_make {s t : zSt} (h : yR s t) (a b c : Int32) : yOpL (f_g_make a b c) (f_m_make a b c) s t := by
  obtain ⟨⟨g1, g2, -⟩, -⟩ := id h
  by_cases ha : a < 0
  · refine yOpL_same (-9223372036854775808) ?_ ?_ h
    · unfold f_g_make
      rw [if_pos ha]
    · unfold f_m_make
      rw [if_pos ha]
  · have han : ¬ a.toInt < 0 := fun z => ha ((q_lt _ _).mpr z)
    obtain ⟨N, hN, rfl⟩ := q_pos han
    by_cases hn : N / 100 ≤ 8
    · by_cases hx : N % 100 ≤ 12
      · by_cases hb : 0 ≤ b.toInt ∧ b.toInt ≤ 99
        · by_cases hc : 0 ≤ c.toInt ∧ c.toInt ≤ 2
          · obtain ⟨C, hC, rfl⟩ := q_ix (x := b) (n := 99) hb
            obtain ⟨w, hw, rfl⟩ := q_ix (x := c) (n := 2) hc
            obtain ⟨p, hp, ep⟩ := q_ix (x := s.1 2 3) (n := 50) (g2 3 (by omega))
            have ep' : t.1 1 3 = nI p := by rw [← g1 3 (by omega)]; exact ep
            obtain ⟨F', hF', e2⟩ := make_m0 (c := C) hx hn hp (nI w) ep'
            obtain ⟨r, r1, r2⟩ := make_both hx hn hp hC hw ep ep' (N / 100) 1 0 zFu F' (by omega) (by omega) (by omega) (by have := zFu_big; omega) (by omega)
            refine ⟨r, s, zdp t (N % 100) (N / 100), ?_, ?_, h⟩
            · unfold f_g_make
              rw [if_neg ha, q_d100 N hN, q_100 N hN, if_neg (show ¬ (8 : Int32) < nI (N / 100) from nI_nlt (a := 8) (by omega) (by omega)), if_neg (show ¬ (12 : Int32) < nI (N % 100) from nI_nlt (a := 12) (by omega) (by omega)), p_isWithin, Option.bind_some, l0, l99, q01_t hb, if_neg q_neg10', p_isWithin, Option.bind_some, l0, l2, q01_t hc, if_neg q_neg10']
              exact r1
            · unfold f_m_make
              rw [if_neg ha, q_d100 N hN, q_100 N hN, if_neg (show ¬ (8 : Int32) < nI (N / 100) from nI_nlt (a := 8) (by omega) (by omega)), if_neg (show ¬ (12 : Int32) < nI (N % 100) from nI_nlt (a := 12) (by omega) (by omega)), p_within, Option.bind_some, Int32.toInt_toInt64, k0, k99, q01_t hb, if_neg q_neg10', p_within, Option.bind_some, Int32.toInt_toInt64, k0, k2, q01_t hc, if_neg q_neg10']
              dsimp only
              rw [e2]
              exact r2
          · refine yOpL_same (-9223372036854775808) ?_ ?_ h
            · unfold f_g_make
              rw [if_neg ha, q_d100 N hN, q_100 N hN, if_neg (show ¬ (8 : Int32) < nI (N / 100) from nI_nlt (a := 8) (by omega) (by omega)), if_neg (show ¬ (12 : Int32) < nI (N % 100) from nI_nlt (a := 12) (by omega) (by omega)), p_isWithin, Option.bind_some, l0, l99, q01_t hb, if_neg q_neg10', p_isWithin, Option.bind_some, l0, l2, q01_f hc, if_pos rfl]
            · unfold f_m_make
              rw [if_neg ha, q_d100 N hN, q_100 N hN, if_neg (show ¬ (8 : Int32) < nI (N / 100) from nI_nlt (a := 8) (by omega) (by omega)), if_neg (show ¬ (12 : Int32) < nI (N % 100) from nI_nlt (a := 12) (by omega) (by omega)), p_within, Option.bind_some, Int32.toInt_toInt64, k0, k99, q01_t hb, if_neg q_neg10', p_within, Option.bind_some, Int32.toInt_toInt64, k0, k2, q01_f hc, if_pos rfl]
        · refine yOpL_same (-9223372036854775808) ?_ ?_ h
          · unfold f_g_make
            rw [if_neg ha, q_d100 N hN, q_100 N hN, if_neg (show ¬ (8 : Int32) < nI (N / 100) from nI_nlt (a := 8) (by omega) (by omega)), if_neg (show ¬ (12 : Int32) < nI (N % 100) from nI_nlt (a := 12) (by omega) (by omega)), p_isWithin, Option.bind_some, l0, l99, q01_f hb, if_pos rfl]
          · unfold f_m_make
            rw [if_neg ha, q_d100 N hN, q_100 N hN, if_neg (show ¬ (8 : Int32) < nI (N / 100) from nI_nlt (a := 8) (by omega) (by omega)), if_neg (show ¬ (12 : Int32) < nI (N % 100) from nI_nlt (a := 12) (by omega) (by omega)), p_within, Option.bind_some, Int32.toInt_toInt64, k0, k99, q01_f hb, if_pos rfl]
      · have hd : N % 100 < 100 := Nat.mod_lt _ (by omega)
        refine yOpL_same (-9223372036854775808) ?_ ?_ h
        · unfold f_g_make
          rw [if_neg ha, q_d100 N hN, q_100 N hN, if_neg (show ¬ (8 : Int32) < nI (N / 100) from nI_nlt (a := 8) (by omega) (by omega)), if_pos (show (12 : Int32) < nI (N % 100) from nI_lt (a := 12) (by omega) (by omega))]
        · unfold f_m_make
          rw [if_neg ha, q_d100 N hN, q_100 N hN, if_neg (show ¬ (8 : Int32) < nI (N / 100) from nI_nlt (a := 8) (by omega) (by omega)), if_pos (show (12 : Int32) < nI (N % 100) from nI_lt (a := 12) (by omega) (by omega))]
    · refine yOpL_same (-9223372036854775808) ?_ ?_ h
      · unfold f_g_make
        rw [if_neg ha, q_d100 N hN, if_pos (show (8 : Int32) < nI (N / 100) from nI_lt (a := 8) (by omega) (by omega))]
      · unfold f_m_make
        rw [if_neg ha, q_d100 N hN, if_pos (show (8 : Int32) < nI (N / 100) from nI_lt (a := 8) (by omega) (by omega))]
