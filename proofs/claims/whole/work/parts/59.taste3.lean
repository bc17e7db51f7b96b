/-! LAWS 5: the laws begun; taste -/
theorem yR_fr {s t s' t' : zSt} (h : yR s t) (s2 : s'.2 = s.2) (t2 : t'.2 = t.2) (sa : ∀ a, a ≠ 16 → a ≠ 19 → a ≠ 22 → a ≠ 23 → a ≠ 24 → a ≠ 27 → a ≠ 28 → s'.1 a = s.1 a) (ta : ∀ a, a ≠ 0 → a ≠ 11 → a ≠ 12 → t'.1 a = t.1 a) (t0 : ∀ j, (j < 14 ∨ 26 < j) → t'.1 0 j = t.1 0 j) : yR s' t' := by
  have A : ∀ a, (a < 16 ∨ a = 17 ∨ a = 18 ∨ a = 20 ∨ a = 21 ∨ a = 25 ∨ a = 26 ∨ 28 < a) → s'.1 a = s.1 a := fun a ha => sa a (by omega) (by omega) (by omega) (by omega) (by omega) (by omega) (by omega)
  have B : ∀ a, (1 ≤ a ∧ a < 11 ∨ 12 < a) → t'.1 a = t.1 a := fun a ha => ta a (by omega) (by omega) (by omega)
  have hs : ∀ b : Nat, 28 < b → s'.1 b = s.1 b := fun b hb => A b (by omega)
  obtain ⟨h1, h2, h3, h4, h5, h6, h7, h8, h9, h10, p0, p1, p2, p3, p4, p5⟩ := h
  refine ⟨?_, ?_, ?_, ?_, ?_, ?_, ?_, ?_, ?_, ?_, ?_, ?_, ?_, ?_, ?_, ?_⟩
  · rw [A 2 (by omega), A 3 (by omega), A 4 (by omega), A 5 (by omega), A 1 (by omega), B 1 (by omega), B 2 (by omega), B 3 (by omega), B 4 (by omega), t0 5 (by omega), t0 4 (by omega)]; exact h1
  · rw [A 7 (by omega), A 8 (by omega), A 9 (by omega), A 6 (by omega), B 5 (by omega), B 6 (by omega), B 7 (by omega), t0 8 (by omega)]; exact h2
  · rw [A 10 (by omega), A 11 (by omega), A 6 (by omega), B 22 (by omega), B 23 (by omega), t0 38 (by omega)]; exact h3
  · rw [A 14 (by omega), A 13 (by omega), B 8 (by omega), t0 11 (by omega)]; exact h4
  · rw [A 17 (by omega), A 18 (by omega), B 10 (by omega), B 9 (by omega)]; exact h5
  · rw [A 20 (by omega), A 21 (by omega), B 10 (by omega), B 9 (by omega)]; exact h6
  · rw [A 0 (by omega), A 25 (by omega), A 26 (by omega), t0 27 (by omega), B 13 (by omega), B 14 (by omega), t0 30 (by omega)]; exact h7
  · rw [A 30 (by omega), A 31 (by omega), B 17 (by omega), B 18 (by omega)]; exact h8
  · rw [A 33 (by omega), A 34 (by omega), A 35 (by omega), B 19 (by omega)]; exact h9
  · rw [A 37 (by omega), A 38 (by omega), A 36 (by omega), B 24 (by omega), B 25 (by omega), t0 41 (by omega), t0 44 (by omega)]; exact h10
  · rw [A 40 (by omega), s2, B 26 (by omega), B 27 (by omega), t2, t0 41 (by omega)]; exact p0
  · rw [A 42 (by omega), s2, B 26 (by omega), B 27 (by omega), t2, t0 41 (by omega)]; exact p1
  · rw [A 44 (by omega), s2, B 26 (by omega), B 27 (by omega), t2, t0 41 (by omega)]; exact p2
  · rw [A 46 (by omega), s2, B 26 (by omega), B 27 (by omega), t2, t0 41 (by omega)]; exact p3
  · rw [A 48 (by omega), s2, B 26 (by omega), B 27 (by omega), t2, t0 41 (by omega)]; exact p4
  · rw [A 50 (by omega), s2, B 26 (by omega), B 27 (by omega), t2, t0 41 (by omega)]; exact p5
theorem zcp_at (s : zSt) {k0 n0 k1 n1 a b c : Nat} (ha : a + c ≤ n0) (hb : b + c ≤ n1) (h0 : n0 < 2000) (h1 : n1 < 2000) : zcp s k0 n0 k1 n1 (nI a) (nI b) (nI c) = some (zcps s k0 k1 a b c) := by
  unfold zcp
  rw [nI_clamp (show a < 2147483648 by omega), nI_clamp (show b < 2147483648 by omega), nI_clamp (show c < 2147483648 by omega), if_pos ⟨nI_pos (by omega), nI_pos (by omega), nI_pos (by omega), ha, hb⟩]
theorem g_begin (p : Int32) (s : zSt) : ∃ s', f_ls_begin p s = some s' ∧ s'.2 = s.2 ∧ (∀ a, a ≠ 16 → a ≠ 23 → a ≠ 24 → s'.1 a = s.1 a) ∧ (s'.1 23 0 = s.1 2 0 ∧ s'.1 23 1 = s.1 2 1 ∧ s'.1 23 2 = s.1 2 2 ∧ s'.1 23 6 = p ∧ s'.1 23 7 = s.1 2 4 ∧ s'.1 16 3 = s.1 2 5) ∧ ∀ j, j < 1056 → s'.1 24 j = -1 := by
  have hc : zcp s 2 8 23 9 0 0 3 = some (zcps s 2 23 0 0 3) := zcp_at s (a := 0) (b := 0) (c := 3) (by omega) (by omega) (by omega) (by omega)
  have S6 : ∀ (x : zSt) (v : Int32), zst x 23 9 6 v = some (zw x 23 6 v) := fun x v => zst_at (j := 6) (by omega) (by omega)
  have S7 : ∀ (x : zSt) (v : Int32), zst x 23 9 7 v = some (zw x 23 7 v) := fun x v => zst_at (j := 7) (by omega) (by omega)
  have L4 : ∀ (x : zSt), zld x 2 8 4 = some (x.1 2 4) := fun x => zld_at (j := 4) (by omega) (by omega)
  have L5 : ∀ (x : zSt), zld x 2 8 5 = some (x.1 2 5) := fun x => zld_at (j := 5) (by omega) (by omega)
  unfold f_ls_begin
  rw [hc, Option.bind_some, S6, Option.bind_some, L4, Option.bind_some, S7, Option.bind_some, L5, Option.bind_some, Option.bind_some]
  refine ⟨_, rfl, rfl, fun a h1 h2 h3 => ?_, ⟨rfl, rfl, rfl, rfl, rfl, rfl⟩, fun j hj => ?_⟩
  · simp only [zfill, zw_1, zcps, if_neg h1, if_neg h2, if_neg h3]
  · simp only [zfill, if_true]
    rw [if_pos hj]
theorem yLw_b {s t s' : zSt} (h : yR s t) {p : Int32} (hp : p = t.1 1 3) (sa : ∀ a, a ≠ 16 → a ≠ 23 → a ≠ 24 → s'.1 a = s.1 a) (hn : s'.1 23 0 = s.1 2 0 ∧ s'.1 23 1 = s.1 2 1 ∧ s'.1 23 2 = s.1 2 2 ∧ s'.1 23 6 = p ∧ s'.1 23 7 = s.1 2 4 ∧ s'.1 16 3 = s.1 2 5) : yLw s' t := by
  obtain ⟨⟨r1, -⟩, ⟨r2, -⟩, -, -, r5, r6, -⟩ := h
  obtain ⟨n0, n1, n2, n3, n4, n5⟩ := hn
  refine ⟨⟨n0.trans (r1 0 (by omega)), n1.trans (r1 1 (by omega)), n2.trans (r1 2 (by omega)), n3.trans hp, n4.trans (r1 4 (by omega)), n5.trans (r1 5 (by omega))⟩, fun j hj => ?_, ?_, ?_⟩
  · rw [sa 7 (by omega) (by omega) (by omega)]; exact r2 j hj
  · rw [sa 17 (by omega) (by omega) (by omega), sa 18 (by omega) (by omega) (by omega)]; exact r5
  · rw [sa 20 (by omega) (by omega) (by omega), sa 21 (by omega) (by omega) (by omega)]; exact r6
theorem yR_lw {s t s1 s' t' : zSt} (h : yR s t) (b2 : s1.2 = s.2) (sa : ∀ a, a ≠ 16 → a ≠ 23 → a ≠ 24 → s1.1 a = s.1 a) (hg : yGf s1 s') (hm : yMf t t') : yR s' t' := by
  obtain ⟨g1, g2, -⟩ := hg
  obtain ⟨m1, m2, m3⟩ := hm
  exact yR_fr h (g1.trans b2) m1 (fun a a1 a2 a3 a4 a5 _ _ => (g2 a a4 a2 a3 a5).trans (sa a a1 a4 a5)) (fun a a1 a2 _ => m2 a a1 a2) (fun j hj => m3 j (by omega))
theorem op_taste {s t : zSt} (h : yR s t) (a b c : Int32) : yOp (f_g_taste a b c) (f_m_taste a b c) s t := by
  obtain ⟨⟨r1, -⟩, -⟩ := id h
  by_cases ha : 0 ≤ a.toInt ∧ a.toInt ≤ 31
  · by_cases hb : 0 ≤ b.toInt ∧ b.toInt ≤ 32
    · by_cases hc : 0 ≤ c.toInt ∧ c.toInt ≤ 1
      · obtain ⟨q, hq, rfl⟩ := q_ix (x := a) (n := 31) ha
        obtain ⟨A, hA, rfl⟩ := q_ix (x := b) (n := 32) hb
        obtain ⟨s1, b1, b2, b3, b4, b5⟩ := g_begin (s.1 2 3) s
        have hL : yLw s1 t := yLw_b h (r1 3 (by omega)) b3 b4
        have hk1 : ¬ s1.1 17 3 = 0 → ∃ k, k ≤ 121 ∧ s1.1 17 2 = nI k := yL_k hL.2.2.1
        have hk2 : ¬ s1.1 20 3 = 0 → ∃ k, k ≤ 121 ∧ s1.1 20 2 = nI k := yL_k hL.2.2.2
        have L3 : zld s 2 8 3 = some (s.1 2 3) := zld_at (j := 3) (by omega) (by omega)
        have LQ : zld s1 7 32 (nI q) = some (s1.1 7 q) := zld_at (by omega) (by omega)
        have hG : f_g_taste (nI q) (nI A) c s = if c = 0 then (f_ls_tasteOf (nI q) (s1.1 7 q) (nI A) s1).bind fun x7 => some (x7.1, x7.2) else (f_ls_buysOf (nI q) (s1.1 7 q) (nI A) s1).bind fun x8 => some (x8.1, x8.2) := by
          unfold f_g_taste
          rw [p_gQ, Option.bind_some, q01_t ha, if_neg q_neg10', p_isWithin, Option.bind_some, l0, l32, q01_t hb, if_neg q_neg10', p_isWithin, Option.bind_some, l0, l1, q01_t hc, if_neg q_neg10']
          dsimp only
          rw [L3, Option.bind_some, b1, Option.bind_some, LQ, Option.bind_some]
        have hM : f_m_taste (nI q) (nI A) c t = if c = 0 then (f_m_tasteOf (nI q) (nI A) t).bind fun x4 => some (x4.1, x4.2) else (f_m_buysOf (nI q) (nI A) t).bind fun x5 => some (x5.1, x5.2) := by
          unfold f_m_taste
          rw [p_mQ, Option.bind_some, q01_t ha, if_neg q_neg10', p_within, Option.bind_some, Int32.toInt_toInt64, k0, k32, q01_t hb, if_neg q_neg10', p_within, Option.bind_some, Int32.toInt_toInt64, k0, k1, q01_t hc, if_neg q_neg10']
        by_cases c0 : c = 0
        · obtain ⟨s2, g1, g2, -⟩ := g_tasteOf hk1 (nI q) (s1.1 7 q) (nI A)
          obtain ⟨t2, m1, m2⟩ := m_tasteOf hL (show q < 32 by omega) (nI A)
          refine ⟨zTas s1 (nI q) (s1.1 7 q) (nI A), s2, t2, ?_, ?_, yR_lw h b2 b3 g2 m2⟩
          · rw [hG, if_pos c0, g1, Option.bind_some]
          · rw [hM, if_pos c0, m1, Option.bind_some]
        · obtain ⟨s2, g1, g2, -⟩ := g_buysOf hk1 hk2 (show q < 32 by omega) hA (s1.1 7 q) (Or.inl (b5 _ (by omega)))
          obtain ⟨t2, m1, m2⟩ := m_buysOf hL (show q < 32 by omega) (nI A)
          refine ⟨zBuy s1 (nI q) (s1.1 7 q) (nI A), s2, t2, ?_, ?_, yR_lw h b2 b3 g2 m2⟩
          · rw [hG, if_neg c0, g1, Option.bind_some]
          · rw [hM, if_neg c0, m1, Option.bind_some]
      · refine yOp_same (-1) ?_ ?_ h
        · unfold f_g_taste
          rw [p_gQ, Option.bind_some, q01_t ha, if_neg q_neg10', p_isWithin, Option.bind_some, l0, l32, q01_t hb, if_neg q_neg10', p_isWithin, Option.bind_some, l0, l1, q01_f hc, if_pos rfl]
        · unfold f_m_taste
          rw [p_mQ, Option.bind_some, q01_t ha, if_neg q_neg10', p_within, Option.bind_some, Int32.toInt_toInt64, k0, k32, q01_t hb, if_neg q_neg10', p_within, Option.bind_some, Int32.toInt_toInt64, k0, k1, q01_f hc, if_pos rfl]
    · refine yOp_same (-1) ?_ ?_ h
      · unfold f_g_taste
        rw [p_gQ, Option.bind_some, q01_t ha, if_neg q_neg10', p_isWithin, Option.bind_some, l0, l32, q01_f hb, if_pos rfl]
      · unfold f_m_taste
        rw [p_mQ, Option.bind_some, q01_t ha, if_neg q_neg10', p_within, Option.bind_some, Int32.toInt_toInt64, k0, k32, q01_f hb, if_pos rfl]
  · refine yOp_same (-1) ?_ ?_ h
    · unfold f_g_taste
      rw [p_gQ, Option.bind_some, q01_f ha, if_pos rfl]
    · unfold f_m_taste
      rw [p_mQ, Option.bind_some, q01_f ha, if_pos rfl]
