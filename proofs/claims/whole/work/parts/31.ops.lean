/-! OPS 1: places, flow, stand, of, feed, brings, minutes, slates, image, counts -/
theorem zw_v (s : zSt) (k j : Nat) (v : Int32) : (zw s k j v).1 k j = v := by rw [zw_same]; exact q_updS _ _ _
theorem q_lit (n : Nat) : (OfNat.ofNat n : Int32) = nI n := rfl
theorem q_100 (n : Nat) (h : n < 2147483648) : zrem (nI n) 100 = nI (n % 100) := zrem_at (d := 100) h (by omega) (by omega)
theorem q_d100 (n : Nat) (h : n < 2147483648) : nI n / 100 = nI (n / 100) := pk_div (d := 100) h (by omega) (by omega)
theorem q_10 (n : Nat) (h : n < 2147483648) : zrem (nI n) 10 = nI (n % 10) := zrem_at (d := 10) h (by omega) (by omega)
theorem q_d10 (n : Nat) (h : n < 2147483648) : nI n / 10 = nI (n / 10) := pk_div (d := 10) h (by omega) (by omega)
theorem q_pos {x : Int32} (h : ¬ x.toInt < 0) : ∃ n : Nat, n < 2147483648 ∧ x = nI n := by
  have h1 := q_rng x
  exact ⟨x.toInt.toNat, by omega, by rw [q_eq, q_nI (by omega)]; omega⟩
/-- from to: 100 times from, and to -/
def zSp (a : Int32) : Prop := ∃ f t : Nat, f ≤ t ∧ t ≤ 31 ∧ a = nI (100 * f + t)
theorem zSp_of {n : Nat} (hn : n < 2147483648) : zSp (nI n) ↔ n % 100 ≤ 31 ∧ n / 100 ≤ n % 100 := by
  constructor
  · rintro ⟨f, t, h1, h2, h3⟩
    have e : n = 100 * f + t := by
      have := (nI_eq (a := n) (b := 100 * f + t) hn (by omega)).mp h3
      exact this
    omega
  · intro h
    exact ⟨n / 100, n % 100, h.2, h.1, by congr 1; omega⟩
theorem zSp_neg {a : Int32} (h : a.toInt < 0) : ¬ zSp a := by
  rintro ⟨f, t, h1, h2, rfl⟩
  rw [q_nI (by omega)] at h
  omega
theorem p_gSpan (a : Int32) (s : zSt) : (zSp a → f_g_isSpan a s = some (1, s)) ∧ (¬ zSp a → f_g_isSpan a s = some (0, s)) := by
  have e0 : (0 : Int32).toInt = 0 := rfl
  by_cases h : a.toInt < 0
  · refine ⟨fun z => absurd z (zSp_neg h), fun _ => ?_⟩
    simp [f_g_isSpan, q_lt, e0, h]
  · obtain ⟨n, hn, rfl⟩ := q_pos h
    rw [zSp_of hn]
    have hn2 : n % 100 < 2147483648 := by omega
    have hn3 : n / 100 < 2147483648 := by omega
    simp only [f_g_isSpan, q_lt, e0, h, if_false, p_gQ, Option.bind_some, q01_0, q_100 n hn, q_d100 n hn, q_nI hn2, q_nI hn3]
    constructor
    · intro z
      rw [if_neg (by omega), if_neg (by omega)]
    · intro z
      by_cases z1 : n % 100 ≤ 31
      · rw [if_neg (by omega), if_pos (by omega)]
      · rw [if_pos (by omega)]
theorem p_mSpan (a : Int32) (s : zSt) : (zSp a → f_m_isFt a s = some (1, s)) ∧ (¬ zSp a → f_m_isFt a s = some (0, s)) := by
  have e0 : (0 : Int32).toInt = 0 := rfl
  by_cases h : a.toInt < 0
  · refine ⟨fun z => absurd z (zSp_neg h), fun _ => ?_⟩
    simp [f_m_isFt, q_lt, e0, h]
  · obtain ⟨n, hn, rfl⟩ := q_pos h
    rw [zSp_of hn]
    have hn2 : n % 100 < 2147483648 := by omega
    have hn3 : n / 100 < 2147483648 := by omega
    simp only [f_m_isFt, q_lt, e0, h, if_false, p_mQ, Option.bind_some, q01_0, q_100 n hn, q_d100 n hn, q_nI hn2, q_nI hn3]
    constructor
    · intro z
      rw [if_neg (by omega), if_neg (by omega)]
    · intro z
      by_cases z1 : ((n % 100 : Nat) : Int) < ((n / 100 : Nat) : Int)
      · rw [if_pos z1]
      · rw [if_neg z1, if_pos (by omega)]
theorem p_gPlace {p : Nat} (hp : p ≤ 4) (a : Int32) (s : zSt) (h : s.1 6 3 = nI p) : f_st_isPlace a s = some (q01 (0 ≤ a.toInt ∧ a.toInt < (p : Int)), s) := by
  unfold f_st_isPlace
  have e : (nI p - 1 : Int32).toInt = (p : Int) - 1 := pk_sub_toInt (a := p) (b := 1) (by omega) (by omega)
  have e0 : (0 : Int32).toInt = 0 := rfl
  simp only [p_isWithin, Option.bind_some, q01_bo, h, e, e0]
  congr 2
  unfold q01
  by_cases hc : 0 ≤ a.toInt ∧ a.toInt < (p : Int)
  · rw [if_pos hc, if_pos (by omega)]
  · rw [if_neg hc, if_neg (by omega)]
theorem p_mPlace {p : Nat} (hp : p ≤ 4) (a : Int32) (s : zSt) (h : s.1 0 8 = nI p) : f_m_isPlace a s = some (q01 (0 ≤ a.toInt ∧ a.toInt < (p : Int)), s) := by
  unfold f_m_isPlace
  have e : (nI p - 1 : Int32).toInt = (p : Int) - 1 := pk_sub_toInt (a := p) (b := 1) (by omega) (by omega)
  have e0 : (0 : Int64).toInt = 0 := rfl
  simp only [p_within, Option.bind_some, q01_bo, h, Int32.toInt_toInt64, e, e0]
  congr 2
  unfold q01
  by_cases hc : 0 ≤ a.toInt ∧ a.toInt < (p : Int)
  · rw [if_pos hc, if_pos (by omega)]
  · rw [if_neg hc, if_neg (by omega)]
theorem q_ixl {x : Int32} {n : Nat} (h : 0 ≤ x.toInt ∧ x.toInt < (n : Int)) : ∃ j : Nat, j < n ∧ x = nI j := by
  refine ⟨x.toInt.toNat, by omega, ?_⟩
  have h1 := q_rng x
  rw [q_eq, nI_toInt (by omega)]
  omega
theorem op_place {s t : zSt} (h : yR s t) : yOp f_g_place f_m_place s t := by
  obtain ⟨h1, ⟨g1, g2, g3, g4, p, hp, e1, e2⟩, h3⟩ := id h
  by_cases hc : p = 4
  · subst hc
    refine yOp_same (-3) ?_ ?_ h
    · simp only [f_g_place, e1]; rfl
    · simp only [f_m_place, e2]; rfl
  · have hlt : p < 4 := by omega
    have hl : nI p < 4 := nI_lt (b := 4) hlt (by omega)
    have hn : ¬ nI p = 4 := fun z => by
      have := (nI_eq (a := p) (b := 4) (by omega) (by omega)).mp z
      omega
    refine ⟨nI p, zw s 6 3 (nI (p + 1)), zw t 0 8 (nI (p + 1)), ?_, ?_, ?_⟩
    · simp only [f_g_place, e1, if_pos hl, nI_1]
    · simp only [f_m_place, e2, if_neg hn, nI_1, zw_1, if_true, q_updS, nI_pred]
    · exact ⟨h1, ⟨g1, g2, g3, g4, p + 1, by omega, zw_v _ _ _ _, zw_v _ _ _ _⟩, h3⟩
theorem flow_loop {p f T : Nat} (v : Int32) (hv : 0 ≤ v.toInt ∧ v.toInt ≤ 9) (hp : p < 4) (hT : T ≤ 31) (hf : f ≤ 31) : ∀ (m q n n' : Nat) (s t : zSt), q + m = T + 1 → m < n → m < n' → yR s t → ∃ r s' t', f_g_flow_36 n (nI p) (nI (100 * f + T)) v (nI q) s = some (r, s') ∧ f_m_flow_35 n' (nI p) (nI (100 * f + T)) v (nI q) t = some (r, t') ∧ yR s' t' := by
  intro m
  induction m with
  | zero =>
    intro q n n' s t hq hn hn' h
    obtain ⟨n, rfl⟩ : ∃ k, n = k + 1 := ⟨n - 1, by omega⟩
    obtain ⟨n', rfl⟩ : ∃ k, n' = k + 1 := ⟨n' - 1, by omega⟩
    have e : q = T + 1 := by omega
    subst e
    have hc : nI T < nI (T + 1) := nI_lt (by omega) (by omega)
    have e1 : (100 * f + T) % 100 = T := by omega
    exact ⟨_, s, t, by simp only [f_g_flow_36, q_100 _ (show 100 * f + T < 2147483648 by omega), e1, if_pos hc]; rfl, by simp only [f_m_flow_35, q_100 _ (show 100 * f + T < 2147483648 by omega), e1, if_pos hc], h⟩
  | succ m ih =>
    intro q n n' s t hq hn hn' h
    obtain ⟨n, rfl⟩ : ∃ k, n = k + 1 := ⟨n - 1, by omega⟩
    obtain ⟨n', rfl⟩ : ∃ k, n' = k + 1 := ⟨n' - 1, by omega⟩
    have hc : ¬ nI T < nI q := nI_nlt (by omega) (by omega)
    have e1 : (100 * f + T) % 100 = T := by omega
    have e32 : (32 : Int32) = nI 32 := rfl
    have i1 : nI p * 32 + nI q = nI (32 * p + q) := by rw [e32, pk_mul, nI_add]; congr 1; omega
    have i2 : 32 * nI p + nI q = nI (32 * p + q) := by rw [e32, pk_mul, nI_add]
    obtain ⟨h1, ⟨g1, g2, g3, g4, pp, hpp, e1', e2'⟩, h3⟩ := h
    have hR : yR (zw s 9 (32 * p + q) v) (zw t 7 (32 * p + q) v) := ⟨h1, ⟨g1, g2, q_syn g3 _ v, q_all (P := fun _ x => 0 ≤ x.toInt ∧ x.toInt ≤ 9) g4 (fun _ => hv), pp, hpp, e1', e2'⟩, h3⟩
    obtain ⟨r, s', t', a1, a2, a3⟩ := ih (q + 1) n n' _ _ (by omega) (by omega) (by omega) hR
    refine ⟨r, s', t', ?_, ?_, a3⟩
    · simp only [f_g_flow_36, q_100 _ (show 100 * f + T < 2147483648 by omega), e1, if_neg hc, i1, zst_at (show 32 * p + q < 128 by omega) (by omega), Option.bind_some, nI_1]
      exact a1
    · simp only [f_m_flow_35, q_100 _ (show 100 * f + T < 2147483648 by omega), e1, if_neg hc, i2, zst_at (show 32 * p + q < 128 by omega) (by omega), Option.bind_some, nI_1]
      exact a2
theorem zFu_big : 4999 < zFu := by unfold zFu; omega
theorem op_flow {s t : zSt} (h : yR s t) (a b c : Int32) : yOp (f_g_flow a b c) (f_m_flow a b c) s t := by
  obtain ⟨h1, ⟨g1, g2, g3, g4, p, hp, e1, e2⟩, h3⟩ := id h
  by_cases ha : 0 ≤ a.toInt ∧ a.toInt < (p : Int)
  · by_cases hb : zSp b
    · by_cases hc : 0 ≤ c.toInt ∧ c.toInt ≤ 9
      · obtain ⟨j, hj, rfl⟩ := q_ixl ha
        obtain ⟨f, T, hf, hT, rfl⟩ := id hb
        have hz := zFu_big
        obtain ⟨r, s', t', a1, a2, a3⟩ := flow_loop (p := j) (f := f) (T := T) c hc (by omega) hT (by omega) (T + 1 - f) f zFu zFu s t (by omega) (by omega) (by omega) h
        have e3 : (100 * f + T) / 100 = f := by omega
        refine ⟨r, s', t', ?_, ?_, a3⟩
        · simp [f_g_flow, p_gPlace hp _ s e1, q01_0, ha, (p_gSpan _ s).1 hb, p_isWithin, hc, q_d100 _ (show 100 * f + T < 2147483648 by omega), e3, a1]
        · simp [f_m_flow, p_mPlace hp _ t e2, q01_0, ha, (p_mSpan _ t).1 hb, p_within, hc, q_d100 _ (show 100 * f + T < 2147483648 by omega), e3, a2]
      · exact yOp_same (-1) (by simp [f_g_flow, p_gPlace hp _ s e1, q01_0, ha, (p_gSpan _ s).1 hb, p_isWithin, hc]) (by simp [f_m_flow, p_mPlace hp _ t e2, q01_0, ha, (p_mSpan _ t).1 hb, p_within, hc]) h
    · exact yOp_same (-1) (by simp [f_g_flow, p_gPlace hp _ s e1, q01_0, ha, (p_gSpan _ s).2 hb]) (by simp [f_m_flow, p_mPlace hp _ t e2, q01_0, ha, (p_mSpan _ t).2 hb]) h
  · exact yOp_same (-1) (by simp [f_g_flow, p_gPlace hp _ s e1, q01_0, ha]) (by simp [f_m_flow, p_mPlace hp _ t e2, q01_0, ha]) h
theorem op_brings {s t : zSt} (h : yR s t) (a b : Int32) : yOp (f_g_brings a b) (f_m_brings a b) s t := by
  by_cases ha : 1 ≤ a.toInt ∧ a.toInt ≤ 7
  · by_cases hb : 0 ≤ b.toInt ∧ b.toInt ≤ 999
    · obtain ⟨j, hj, rfl⟩ := q_ix (x := a) (n := 7) (by omega)
      rw [q_nI (by omega)] at ha
      obtain ⟨h1, h2, h3, h4, h5, h6, h7, ⟨g1, g2, g3, g4⟩, h9⟩ := h
      refine ⟨t.1 17 j, zw s 30 j b, zw t 17 j b, ?_, ?_, ?_⟩
      · simp [f_g_brings, p_isWithin, q01_0, q_nI (show j < 2147483648 by omega), ha, hb, zld_at (show j < 8 by omega), zst_at (show j < 8 by omega), g1 j (by omega)]
      · simp [f_m_brings, p_within, q01_0, q_nI (show j < 2147483648 by omega), ha, hb, zld_at (show j < 8 by omega), zst_at (show j < 8 by omega)]
      · exact ⟨h1, h2, h3, h4, h5, h6, h7, ⟨q_syn g1 j b, q_all (P := fun _ x => 0 ≤ x.toInt ∧ x.toInt ≤ 999) g2 (fun _ => hb), (q_updN (by omega)).trans g3, g4⟩, h9⟩
    · exact yOp_same (-1) (by simp [f_g_brings, p_isWithin, q01_0, ha, hb]) (by simp [f_m_brings, p_within, q01_0, ha, hb]) h
  · exact yOp_same (-1) (by simp [f_g_brings, p_isWithin, q01_0, ha]) (by simp [f_m_brings, p_within, q01_0, ha]) h
theorem op_minutes {s t : zSt} (h : yR s t) (a b : Int32) : yOp (f_g_minutes a b) (f_m_minutes a b) s t := by
  by_cases ha : 0 ≤ a.toInt ∧ a.toInt ≤ 2
  · by_cases hb : 0 ≤ b.toInt ∧ b.toInt ≤ 600
    · obtain ⟨j, hj, rfl⟩ := q_ix (x := a) (n := 2) (by omega)
      obtain ⟨h1, h2, h3, h4, h5, h6, h7, ⟨g1, g2, g3, g4, g5⟩, h9⟩ := h
      refine ⟨t.1 18 j, zw s 31 j b, zw t 18 j b, ?_, ?_, ?_⟩
      · simp [f_g_minutes, p_isWithin, q01_0, ha, hb, zld_at (show j < 3 by omega), zst_at (show j < 3 by omega), g4 j (by omega)]
      · simp [f_m_minutes, p_within, q01_0, ha, hb, zld_at (show j < 3 by omega), zst_at (show j < 3 by omega)]
      · exact ⟨h1, h2, h3, h4, h5, h6, h7, ⟨g1, g2, g3, q_syn g4 j b, q_all (P := fun _ x => 0 ≤ x.toInt ∧ x.toInt ≤ 600) g5 (fun _ => hb)⟩, h9⟩
    · exact yOp_same (-1) (by simp [f_g_minutes, p_isWithin, q01_0, ha, hb]) (by simp [f_m_minutes, p_within, q01_0, ha, hb]) h
  · exact yOp_same (-1) (by simp [f_g_minutes, p_isWithin, q01_0, ha]) (by simp [f_m_minutes, p_within, q01_0, ha]) h
theorem op_feed {s t : zSt} (h : yR s t) (a : Int32) : yOp (f_g_feed a) (f_m_feed a) s t := by
  by_cases ha : 0 ≤ a.toInt ∧ a.toInt ≤ 255
  · obtain ⟨h1, h2, h3, ⟨n, hn, e1, e2, g⟩, h5⟩ := id h
    obtain ⟨j, hj, rfl⟩ := q_ix (x := a) (n := 255) (by omega)
    by_cases hc : n = 120
    · subst hc
      have hl : ¬ nI 120 < (120 : Int32) := by decide
      have he : nI 120 = (120 : Int32) := rfl
      exact yOp_same (-3) (by simp [f_g_feed, p_isWithin, q01_0, ha, f_tp_add, e1, hl]) (by simp [f_m_feed, p_within, q01_0, ha, e2, he]) h
    · have hl : nI n < (120 : Int32) := nI_lt (b := 120) (by omega) (by omega)
      have hne : ¬ nI n = (120 : Int32) := fun z => by
        have := (nI_eq (a := n) (b := 120) (by omega) (by omega)).mp z
        omega
      refine ⟨nI (n + 1), zw (zw s 14 n (nI j)) 13 1 (nI (n + 1)), zw (zw t 8 n (nI j)) 0 11 (nI (n + 1)), ?_, ?_, ?_⟩
      · simp [f_g_feed, p_isWithin, q01_0, ha, f_tp_add, e1, hl, zst_at (show n < 120 by omega), zw_1, nI_1, q_updS]
      · simp [f_m_feed, p_within, q01_0, ha, e2, hne, zst_at (show n < 120 by omega), zw_1, nI_1, q_updS]
      · refine ⟨h1, h2, h3, ⟨n + 1, by omega, zw_v _ _ _ _, zw_v _ _ _ _, fun k hk => ?_⟩, h5⟩
        show upd (s.1 14) n (nI j) k = upd (t.1 8) n (nI j) k ∧ ∃ c : Nat, c < 256 ∧ upd (t.1 8) n (nI j) k = nI c
        by_cases e : k = n
        · subst e; rw [q_updS, q_updS]; exact ⟨rfl, j, by omega, rfl⟩
        · rw [q_updN e, q_updN e]; exact g k (by omega)
  · exact yOp_same (-1) (by simp [f_g_feed, p_isWithin, q01_0, ha]) (by simp [f_m_feed, p_within, q01_0, ha]) h
