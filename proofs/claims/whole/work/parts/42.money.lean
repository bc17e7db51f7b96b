/-! OPS 12: undercut, share -/
theorem q_neg10' : ¬ (1 : Int32) = 0 := by decide
theorem q_rem2 {k : Nat} (h : k < 1000) : zrem (nI k) 2 = nI (k % 2) := zrem_at (d := 2) (by omega) (by omega) (by omega)
theorem und_m_stop (n : Nat) (v1 v2 v3 v4 v5 v6 : Int32) (s t : zSt) : ∃ r, f_g_undercut_149 v2 v4 v5 v6 s = some (r, s) ∧ f_m_undercut_72 (n + 1) v1 v2 v3 v4 v5 v6 0 t = some (r, t) := by
  unfold f_g_undercut_149 f_m_undercut_72
  rw [if_pos rfl]
  by_cases h0 : v2 = 0
  · exact ⟨v6, if_pos h0, if_pos h0⟩
  · by_cases h1 : v2 = 1
    · exact ⟨v4, by rw [if_neg h0, if_pos h1], by rw [if_neg h0, if_pos h1]⟩
    · exact ⟨v5, by rw [if_neg h0, if_neg h1], by rw [if_neg h0, if_neg h1]⟩
theorem und_loop {p0 : Nat} (hp : p0 ≤ 50) (v1 v2 v5 : Int32) (h1 : 0 ≤ v1.toInt) (h5 : 0 ≤ v5.toInt) (s t : zSt) : ∀ (m k n n' : Nat) (v3 v4 : Int32), k + m = 51 → m < n → m + 1 < n' → (k % 2 = 0 → v3.toInt = (p0 : Int) - k) → (k % 2 = 1 → v4.toInt = (p0 : Int) - k) →
    ∃ r, f_g_undercut_62 n v1 v2 v3 v4 v5 (nI k) s = some (r, s) ∧ f_m_undercut_72 n' v1 v2 v5 v3 v4 (nI k) 1 t = some (r, t) := by
  intro m
  induction m with
  | zero =>
    intro k n n' v3 v4 hk hn hn' e3 e4
    obtain ⟨n, rfl⟩ : ∃ x, n = x + 1 := ⟨n - 1, by omega⟩
    obtain ⟨n', rfl⟩ : ∃ x, n' = x + 1 + 1 := ⟨n' - 2, by omega⟩
    have e : k = 51 := by omega
    subst e
    have e4' := e4 (by decide)
    obtain ⟨r, r1, r2⟩ := und_m_stop n' v1 v2 v5 v3 v4 (nI 51) s t
    refine ⟨r, ?_, ?_⟩
    · unfold f_g_undercut_62
      rw [if_pos (by decide)]
      exact r1
    · have hs : (v4 - 1).toInt = (p0 : Int) - 52 := by
        rw [q_subI (by rw [l1]; omega) (by rw [l1]; omega), l1]; omega
      have hlt : v4 - 1 < v5 := by rw [q_lt]; omega
      unfold f_m_undercut_72
      rw [if_neg q_neg10', if_neg (by decide)]
      unfold f_m_undercut_95
      rw [if_neg (by decide)]
      unfold f_m_undercut_111
      rw [if_pos hlt]
      unfold f_m_undercut_119
      rw [if_pos rfl]
      exact r2
  | succ m ih =>
    intro k n n' v3 v4 hk hn hn' e3 e4
    obtain ⟨n, rfl⟩ : ∃ x, n = x + 1 := ⟨n - 1, by omega⟩
    obtain ⟨n', rfl⟩ : ∃ x, n' = x + 1 + 1 := ⟨n' - 2, by omega⟩
    have h50 : ¬ (50 : Int32) < nI k := nI_nlt (a := 50) (by omega) (by omega)
    have er := q_rem2 (k := k) (by omega)
    obtain ⟨r, r1, r2⟩ := und_m_stop n' v1 v2 v5 v3 v4 (nI k) s t
    by_cases ev : k % 2 = 0
    · rw [ev] at er
      have er : zrem (nI k) 2 = 0 := er
      have e3' := e3 ev
      have hs : (v3 - 1).toInt = (p0 : Int) - (k + 1 : Nat) := by
        rw [q_subI (by rw [l1]; omega) (by rw [l1]; omega), l1]; omega
      have hG : f_g_undercut_62 (n + 1) v1 v2 v3 v4 v5 (nI k) s = if v1 ≤ v3 - 1 then f_g_undercut_62 n v1 v2 v3 (v3 - 1) v5 (nI (k + 1)) s else f_g_undercut_149 v2 v3 v4 (nI k) s := by
        conv => lhs; unfold f_g_undercut_62
        rw [if_neg h50, if_pos er]
        unfold f_g_undercut_81
        rw [if_neg q_neg10']
        unfold f_g_undercut_94
        rw [if_neg q_neg10']
        unfold f_g_undercut_111
        simp only [if_neg q_neg10', nI_1]
      have hM : f_m_undercut_72 (n' + 1 + 1) v1 v2 v5 v3 v4 (nI k) 1 t = if v3 - 1 < v1 then f_m_undercut_72 (n' + 1) v1 v2 v5 v3 v4 (nI k) 0 t else f_m_undercut_72 (n' + 1) v1 v2 v5 v3 (v3 - 1) (nI (k + 1)) 1 t := by
        conv => lhs; unfold f_m_undercut_72
        rw [if_neg q_neg10', if_pos er]
        unfold f_m_undercut_95
        rw [if_pos er]
        unfold f_m_undercut_111 f_m_undercut_119
        simp only [if_neg q_neg10', if_true, if_pos er]
        unfold f_m_undercut_140
        simp only [if_pos er, nI_1]
      by_cases c : v1 ≤ v3 - 1
      · rw [hG, if_pos c, hM, if_neg (by rw [q_lt]; rw [q_le] at c; omega)]
        exact ih (k + 1) n (n' + 1) v3 (v3 - 1) (by omega) (by omega) (by omega) (fun z => absurd z (by omega)) (fun _ => hs)
      · rw [hG, if_neg c, hM, if_pos (by rw [q_lt]; rw [q_le] at c; omega)]
        exact ⟨r, r1, r2⟩
    · rw [show k % 2 = 1 by omega] at er
      have er : ¬ zrem (nI k) 2 = 0 := by rw [er]; decide
      have e4' := e4 (by omega)
      have hs : (v4 - 1).toInt = (p0 : Int) - (k + 1 : Nat) := by
        rw [q_subI (by rw [l1]; omega) (by rw [l1]; omega), l1]; omega
      have hG : f_g_undercut_62 (n + 1) v1 v2 v3 v4 v5 (nI k) s = if v5 ≤ v4 - 1 then f_g_undercut_62 n v1 v2 (v4 - 1) v4 v5 (nI (k + 1)) s else f_g_undercut_149 v2 v3 v4 (nI k) s := by
        conv => lhs; unfold f_g_undercut_62
        rw [if_neg h50, if_neg er]
        unfold f_g_undercut_81
        rw [if_pos rfl]
        unfold f_g_undercut_94
        rw [if_pos rfl]
        unfold f_g_undercut_111
        simp only [if_true, nI_1]
      have hM : f_m_undercut_72 (n' + 1 + 1) v1 v2 v5 v3 v4 (nI k) 1 t = if v4 - 1 < v5 then f_m_undercut_72 (n' + 1) v1 v2 v5 v3 v4 (nI k) 0 t else f_m_undercut_72 (n' + 1) v1 v2 v5 (v4 - 1) v4 (nI (k + 1)) 1 t := by
        conv => lhs; unfold f_m_undercut_72
        rw [if_neg q_neg10', if_neg er]
        unfold f_m_undercut_95
        rw [if_neg er]
        unfold f_m_undercut_111 f_m_undercut_119
        simp only [if_neg q_neg10', if_true, if_neg er]
        unfold f_m_undercut_140
        simp only [if_neg er, nI_1]
      by_cases c : v5 ≤ v4 - 1
      · rw [hG, if_pos c, hM, if_neg (by rw [q_lt]; rw [q_le] at c; omega)]
        exact ih (k + 1) n (n' + 1) (v4 - 1) v4 (by omega) (by omega) (by omega) (fun _ => hs) (fun z => absurd z (by omega))
      · rw [hG, if_neg c, hM, if_pos (by rw [q_lt]; rw [q_le] at c; omega)]
        exact ⟨r, r1, r2⟩
theorem und_g {s t : zSt} (g1 : ∀ j, j < 8 → s.1 2 j = t.1 1 j) (g2 : ∀ j, j < 8 → zrg j (s.1 2 j)) {a b : Int32} (ha : 0 ≤ a.toInt ∧ a.toInt ≤ 50) (hb : 0 ≤ b.toInt ∧ b.toInt ≤ 2) : f_g_undercut a b s = if s.1 2 4 = 0 then some (-5, s) else f_g_undercut_62 zFu a b (s.1 2 3) (s.1 2 4) ((3 * s.1 2 0 + s.1 2 1) / s.1 2 2) 0 s := by
  unfold f_g_undercut
  generalize zFu = F
  simp only [p_isWithin, Option.bind_some, l0, l50, l2]
  rw [q01_t ha, if_neg q_neg10', q01_t hb, if_neg q_neg10', show (3 : Int32) = nI 3 from rfl, zld_at (show 3 < 8 by omega) (by omega), show (4 : Int32) = nI 4 from rfl, zld_at (show 4 < 8 by omega) (by omega)]
  simp only [Option.bind_some]
  rw [p_gGlass (g2 2 (by omega))]
  simp only [Option.bind_some]
  rw [show nI 3 = (3 : Int32) from rfl]
theorem und_m {s t : zSt} (g1 : ∀ j, j < 8 → s.1 2 j = t.1 1 j) (g2 : ∀ j, j < 8 → zrg j (s.1 2 j)) {a b : Int32} (ha : 0 ≤ a.toInt ∧ a.toInt ≤ 50) (hb : 0 ≤ b.toInt ∧ b.toInt ≤ 2) : f_m_undercut a b t = if t.1 1 4 = 0 then some (-5, t) else f_m_undercut_72 zFu a b ((3 * t.1 1 0 + t.1 1 1) / t.1 1 2) (t.1 1 3) (t.1 1 4) 0 1 t := by
  have hn : ¬ t.1 1 2 = 0 := by
    have := g2 2 (by omega)
    rw [g1 2 (by omega)] at this
    intro z
    rw [z] at this
    exact absurd this.1 (by rw [l0]; unfold zlo; simp)
  unfold f_m_undercut
  generalize zFu = F
  simp only [p_within, Option.bind_some, Int32.toInt_toInt64, k0, k50, k2]
  rw [q01_t ha, if_neg q_neg10', q01_t hb, if_neg q_neg10', show (4 : Int32) = nI 4 from rfl, zld_at (show 4 < 8 by omega) (by omega)]
  rw [Option.bind_some]
  rw [p_mJug]
  generalize 3 * t.1 1 0 + t.1 1 1 = J
  rw [Option.bind_some]
  rw [show (2 : Int32) = nI 2 from rfl, zld_at (show 2 < 8 by omega) (by omega)]
  rw [Option.bind_some]
  unfold zdv
  rw [if_neg hn]
  rw [Option.bind_some]
  rw [show (3 : Int32) = nI 3 from rfl, zld_at (show 3 < 8 by omega) (by omega)]
  rw [Option.bind_some]
  rw [zld_at (show 4 < 8 by omega) (by omega)]
  rw [Option.bind_some]
theorem op_undercut {s t : zSt} (h : yR s t) (a b : Int32) : yOp (f_g_undercut a b) (f_m_undercut a b) s t := by
  obtain ⟨⟨g1, g2, -⟩, -⟩ := id h
  by_cases ha : 0 ≤ a.toInt ∧ a.toInt ≤ 50
  · by_cases hb : 0 ≤ b.toInt ∧ b.toInt ≤ 2
    · have hG := und_g (t := t) g1 g2 ha hb
      have hM := und_m g1 g2 ha hb
      by_cases hb0 : s.1 2 4 = 0
      · refine yOp_same (-5) ?_ ?_ h
        · rw [hG, if_pos hb0]
        · rw [hM, ← g1 4 (by omega), if_pos hb0]
      · have h3 := g2 3 (by omega)
        obtain ⟨p0, hp0, ep0⟩ := q_ix (x := s.1 2 3) (n := 50) h3
        have hcost : 0 ≤ ((3 * s.1 2 0 + s.1 2 1) / s.1 2 2).toInt := by
          obtain ⟨x0, hx0, e0⟩ := q_ix (x := s.1 2 0) (n := 9) (g2 0 (by omega))
          obtain ⟨x1, hx1, e1⟩ := q_ix (x := s.1 2 1) (n := 9) (g2 1 (by omega))
          have r2 := g2 2 (by omega)
          obtain ⟨x2, hx2, e2⟩ := q_ix (x := s.1 2 2) (n := 20) ⟨by have := r2.1; unfold zlo at this; simp at this; omega, r2.2⟩
          have hx21 : 1 ≤ x2 := by
            have := r2.1
            rw [e2, q_nI (by omega)] at this
            unfold zlo at this
            simp at this
            omega
          rw [e0, e1, e2, show (3 : Int32) = nI 3 from rfl, pk_mul, nI_add, pk_div (by omega) (by omega) (by omega), q_nI (by have := Nat.div_le_self (3 * x0 + x1) x2; omega)]
          exact Int.natCast_nonneg _
        have hz := zFu_big
        obtain ⟨r, r1, r2⟩ := und_loop hp0 a b ((3 * s.1 2 0 + s.1 2 1) / s.1 2 2) ha.1 hcost s t 51 0 zFu zFu (s.1 2 3) (s.1 2 4) (by omega) (by omega) (by omega) (fun _ => by rw [ep0, q_nI (by omega)]; omega) (fun z => absurd z (by decide))
        rw [show nI 0 = (0 : Int32) from rfl] at r1 r2
        refine yOp_same r ?_ ?_ h
        · rw [hG, if_neg hb0]; exact r1
        · rw [hM, ← g1 4 (by omega), ← g1 3 (by omega), ← g1 2 (by omega), ← g1 1 (by omega), ← g1 0 (by omega), if_neg hb0]; exact r2
    · refine yOp_same (-1) ?_ ?_ h
      · unfold f_g_undercut
        generalize zFu = F
        simp only [p_isWithin, Option.bind_some, l0, l50, l2]
        rw [q01_t ha, if_neg q_neg10', q01_f hb, if_pos rfl]
      · unfold f_m_undercut
        generalize zFu = F
        simp only [p_within, Option.bind_some, Int32.toInt_toInt64, k0, k50, k2]
        rw [q01_t ha, if_neg q_neg10', q01_f hb, if_pos rfl]
  · refine yOp_same (-1) ?_ ?_ h
    · unfold f_g_undercut
      generalize zFu = F
      simp only [p_isWithin, Option.bind_some, l0, l50]
      rw [q01_f ha, if_pos rfl]
    · unfold f_m_undercut
      generalize zFu = F
      simp only [p_within, Option.bind_some, Int32.toInt_toInt64, k0, k50]
      rw [q01_f ha, if_pos rfl]
/-! the greatest common divisor -/
theorem y_lI {a : Nat} (h : a < 2 ^ 63) : (lN a).toInt = (a : Int) := lg_ofNat_toInt h
theorem y_c0 : lg_cmp (lN 0) 0 = 0 := (q_cmp_0 _).mpr rfl
theorem gcd_gm (s t : zSt) : ∀ (k a b v n n' : Nat), b < 2 ^ k → 2 * k + v ≤ 998 → 2 * k < n → 2 * k < n' → 0 < Nat.gcd b a → a < 2 ^ 62 → b < 2 ^ 62 →
    f_su_divisor_15 n (lN a) (lN b) (nI v) s = some (lN (Nat.gcd b a), s) ∧ f_m_common_17 n' (lN a) (lN b) t = some (lN (Nat.gcd b a), t) := by
  have stop : ∀ (a v n n' : Nat), v ≤ 999 → 0 < a → a < 2 ^ 62 → f_su_divisor_15 (n + 1) (lN a) (lN 0) (nI v) s = some (lN a, s) ∧ f_m_common_17 (n' + 1) (lN a) (lN 0) t = some (lN a, t) := by
    intro a v n n' hv h0 ha
    refine ⟨?_, ?_⟩
    · unfold f_su_divisor_15
      rw [if_neg (show ¬ (1000 : Int32) ≤ nI v from nI_ge (b := 1000) (by omega) (by omega)), if_pos y_c0]
      unfold zmaxL
      by_cases z : (1 : Int64) < lN a
      · rw [if_pos z]
      · rw [if_neg z]
        have : ¬ (1 : Int) < (a : Int) := fun w => z (by rw [Int64.lt_iff_toInt_lt, y_lI (by omega), k1]; exact w)
        have e : a = 1 := by omega
        subst e
        rfl
    · unfold f_m_common_17
      rw [if_pos y_c0]
  have step : ∀ (a b v n n' : Nat), v ≤ 999 → 0 < b → a < 2 ^ 62 → b < 2 ^ 62 → f_su_divisor_15 (n + 1) (lN a) (lN b) (nI v) s = f_su_divisor_15 n (lN b) (lN (a % b)) (nI (v + 1)) s ∧ f_m_common_17 (n' + 1) (lN a) (lN b) t = f_m_common_17 n' (lN b) (lN (a % b)) t := by
    intro a b v n n' hv h0 ha hb
    have nz : ¬ lN b = 0 := by
      rw [n64_inj, y_lI (by omega), k0]; omega
    have er : zrvl (lN a) (lN b) = some (lN (a % b)) := by
      unfold zrvl zremL
      rw [if_neg nz, pk_lRem (by omega) h0 (by omega)]
    refine ⟨?_, ?_⟩
    · conv => lhs; unfold f_su_divisor_15
      rw [if_neg (show ¬ (1000 : Int32) ≤ nI v from nI_ge (b := 1000) (by omega) (by omega)), if_neg (fun z => nz ((q_cmp_0 _).mp z)), er]
      simp only [Option.bind_some, nI_1]
    · conv => lhs; unfold f_m_common_17
      rw [if_neg (fun z => nz ((q_cmp_0 _).mp z)), er]
      simp only [Option.bind_some]
  intro k
  induction k with
  | zero =>
    intro a b v n n' hb hv hn hn' hg ha hb2
    obtain ⟨n, rfl⟩ : ∃ x, n = x + 1 := ⟨n - 1, by omega⟩
    obtain ⟨n', rfl⟩ : ∃ x, n' = x + 1 := ⟨n' - 1, by omega⟩
    have e : b = 0 := by omega
    subst e
    rw [Nat.gcd_zero_left] at hg ⊢
    exact stop a v n n' (by omega) hg ha
  | succ k ih =>
    intro a b v n n' hb hv hn hn' hg ha hb2
    obtain ⟨n, rfl⟩ : ∃ x, n = x + 1 + 1 := ⟨n - 2, by omega⟩
    obtain ⟨n', rfl⟩ : ∃ x, n' = x + 1 + 1 := ⟨n' - 2, by omega⟩
    by_cases b0 : b = 0
    · subst b0
      rw [Nat.gcd_zero_left] at hg ⊢
      exact stop a v (n + 1) (n' + 1) (by omega) hg ha
    · have hr : a % b < b := Nat.mod_lt _ (by omega)
      obtain ⟨s1, s2⟩ := step a b v (n + 1) (n' + 1) (by omega) (by omega) ha hb2
      rw [s1, s2]
      rw [Nat.gcd_rec b a] at hg ⊢
      by_cases r0 : a % b = 0
      · rw [r0, Nat.gcd_zero_left]
        exact stop b (v + 1) n n' (by omega) (by omega) hb2
      · obtain ⟨u1, u2⟩ := step b (a % b) (v + 1) n n' (by omega) (by omega) hb2 (by omega)
        rw [u1, u2]
        rw [Nat.gcd_rec (a % b) b] at hg ⊢
        have h1 : b % (a % b) < a % b := Nat.mod_lt _ (by omega)
        have h2 : b % (a % b) ≤ b - a % b := by
          rw [Nat.mod_eq_sub_mod (by omega)]
          exact Nat.mod_le _ _
        have h3 : 2 ^ (k + 1) = 2 * 2 ^ k := by rw [Nat.pow_succ]; omega
        exact ih (a % b) (b % (a % b)) (v + 1 + 1) n n' (by omega) (by omega) (by omega) (by omega) hg (by omega) (by omega)
theorem zabs_at {A : Int64} (h : A.toInt.natAbs < 2 ^ 62) : zabsL A = lN A.toInt.natAbs ∧ (if 0 ≤ lg_cmp A 0 then A else -A) = lN A.toInt.natAbs := by
  have en : (-A).toInt = -A.toInt := by
    rw [Int64.toInt_neg]
    exact Int.bmod_eq_of_le (by omega) (by omega)
  refine ⟨?_, ?_⟩
  · unfold zabsL
    rw [n64_inj, y_lI (by omega)]
    by_cases z : 0 < A
    · rw [if_pos z]
      have := Int64.lt_iff_toInt_lt.mp z
      rw [k0] at this
      omega
    · rw [if_neg z, en]
      have : ¬ 0 < A.toInt := fun w => z (Int64.lt_iff_toInt_lt.mpr (by rw [k0]; exact w))
      omega
  · rw [n64_inj, y_lI (by omega)]
    by_cases z : 0 ≤ lg_cmp A 0
    · rw [if_pos z]
      have h2 : ¬ A.toInt < 0 := fun w => by
        have := (q_cmp_lt A 0).mpr w
        rw [q_le] at z
        rw [q_lt] at this
        omega
      omega
    · rw [if_neg z, en]
      have h2 : A.toInt < 0 := by
        have := (q_cmp_lt A 0).mp (by rw [q_lt]; rw [q_le] at z; omega)
        exact this
      omega
theorem div_common {A : Int64} {b : Nat} (hA : A.toInt.natAbs < 2 ^ 62) (hb : 1 ≤ b) (hb2 : b < 2 ^ 62) (s t : zSt) :
    f_su_divisor A (lN b) s = some (lN (Nat.gcd b A.toInt.natAbs), s) ∧ f_m_common A (lN b) t = some (lN (Nat.gcd b A.toInt.natAbs), t) := by
  have hz := zFu_big
  obtain ⟨e1, e2⟩ := zabs_at hA
  obtain ⟨e3, -⟩ := zabs_at (A := lN b) (by rw [y_lI (by omega)]; omega)
  rw [y_lI (by omega), Int.natAbs_natCast] at e3
  obtain ⟨r1, r2⟩ := gcd_gm s t 62 A.toInt.natAbs b 0 zFu zFu hb2 (by omega) (by omega) (by omega) (Nat.gcd_pos_of_pos_left _ hb) hA hb2
  refine ⟨?_, ?_⟩
  · unfold f_su_divisor
    rw [e1, e3]
    exact r1
  · unfold f_m_common
    by_cases z : 0 ≤ lg_cmp A 0
    · rw [if_pos z] at e2 ⊢
      generalize A.toInt.natAbs = q at *
      rw [e2]
      exact r2
    · rw [if_neg z] at e2 ⊢
      rw [e2]
      exact r2
