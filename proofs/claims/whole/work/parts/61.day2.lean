/-! DAYS 2: a glass goes, a quarter ends -/
theorem yDn_left {o G S l m : Nat} {s t : zSt} (h : yDn o s t G S) (e : s.1 o 5 = nI l) (hl : m ≤ l) (hl2 : l ≤ 20) : yDn o (zw s o 5 (nI m)) (zw t 0 22 (nI m)) G S := by
  obtain ⟨e8, e6, e3, e4, e9, e13, ⟨g1, g2, g3, g4⟩, ⟨s1, s2, s3, s4⟩, l', l1, l2, l3, l4⟩ := h
  have el : l' = l := (nI_eq (by omega) (by omega)).mp (l2.symm.trans e)
  subst el
  refine ⟨?_, ?_, ?_, ?_, ?_, ?_, ⟨g1, g2, ?_, g4⟩, ⟨s1, s2, ?_, s4⟩, m, by omega, ?_, rfl, fun hm => ?_⟩
  · rw [zw_o, if_neg (by omega)]; exact e8
  · rw [zw_o, if_neg (by omega)]; exact e6
  · rw [zw_o, if_neg (by omega)]; exact e3
  · rw [zw_o, if_neg (by omega)]; exact e4
  · rw [zw_o, if_neg (by omega)]; exact e9
  · rw [zw_o, if_neg (by omega)]; exact e13
  · rw [zw_o, if_neg (by omega)]; exact g3
  · rw [zw_o, if_neg (by omega)]; exact s3
  · rw [zw_o, if_pos rfl]
  · obtain ⟨A, a1, a2, a3⟩ := l4 (by omega)
    exact ⟨A, a1, by rw [zw_o, if_neg (by omega)]; exact a2, a3⟩
/-- drunk and poured are counted alike -/
theorem yDn_drunk {o G S : Nat} {s t : zSt} (h : yDn o s t G S) : yDn o (zw s o 3 (s.1 o 3 + 1)) (zw t 0 25 (t.1 0 25 + 1)) G S := by
  obtain ⟨e8, e6, e3, e4, e9, e13, ⟨g1, g2, g3, g4⟩, ⟨s1, s2, s3, s4⟩, l, l1, l2, l3, l4⟩ := h
  refine ⟨?_, ?_, ?_, ?_, ?_, ?_, ⟨g1, g2, ?_, g4⟩, ⟨s1, s2, ?_, s4⟩, l, l1, ?_, l3, fun hm => ?_⟩
  · rw [zw_o, if_neg (by omega)]; exact e8
  · rw [zw_o, if_neg (by omega)]; exact e6
  · rw [zw_o, if_pos rfl, e3]; rfl
  · rw [zw_o, if_neg (by omega)]; exact e4
  · rw [zw_o, if_neg (by omega)]; exact e9
  · rw [zw_o, if_neg (by omega)]; exact e13
  · rw [zw_o, if_neg (by omega)]; exact g3
  · rw [zw_o, if_neg (by omega)]; exact s3
  · rw [zw_o, if_neg (by omega)]; exact l2
  · obtain ⟨A, a1, a2, a3⟩ := l4 hm
    exact ⟨A, a1, by rw [zw_o, if_neg (by omega)]; exact a2, a3⟩
theorem yDn_poured {o G S : Nat} {s t : zSt} (h : yDn o s t G S) {v : Int32} : yDn o (zw s o 4 (s.1 o 4 + v)) (zw t 0 26 (t.1 0 26 + v)) G S := by
  obtain ⟨e8, e6, e3, e4, e9, e13, ⟨g1, g2, g3, g4⟩, ⟨s1, s2, s3, s4⟩, l, l1, l2, l3, l4⟩ := h
  refine ⟨?_, ?_, ?_, ?_, ?_, ?_, ⟨g1, g2, ?_, g4⟩, ⟨s1, s2, ?_, s4⟩, l, l1, ?_, l3, fun hm => ?_⟩
  · rw [zw_o, if_neg (by omega)]; exact e8
  · rw [zw_o, if_neg (by omega)]; exact e6
  · rw [zw_o, if_neg (by omega)]; exact e3
  · rw [zw_o, if_pos rfl, e4]; rfl
  · rw [zw_o, if_neg (by omega)]; exact e9
  · rw [zw_o, if_neg (by omega)]; exact e13
  · rw [zw_o, if_neg (by omega)]; exact g3
  · rw [zw_o, if_neg (by omega)]; exact s3
  · rw [zw_o, if_neg (by omega)]; exact l2
  · obtain ⟨A, a1, a2, a3⟩ := l4 hm
    exact ⟨A, a1, by rw [zw_o, if_neg (by omega)]; exact a2, a3⟩
theorem grow_rel {o G S : Nat} {s t : zSt} (h : yDn o s t G S) (ho : 25 ≤ o ∧ o ≤ 28) : ∃ s' t', f_dy_grow o s = some s' ∧ f_m_quarterGoes_122 t = some t' ∧ yDn o s' t' G S ∧ yDf s s' ∧ yDm t t' ∧ (∀ a, a ≠ o → s'.1 a = s.1 a) ∧ t'.1 12 = t.1 12 ∧ (∀ i, (i = 1 ∨ i = 2 ∨ i = 10) → s'.1 o i = s.1 o i) := by
  obtain ⟨e8, e6, e3, e4, e9, e13, ⟨g1, g2, g3, g4⟩, ⟨s1, s2, s3, s4⟩, l, l1, l2, l3, l4⟩ := id h
  have L5 : ∀ x : zSt, zld x 1 8 5 = some (x.1 1 5) := fun x => zld_at (j := 5) (by omega) (by omega)
  by_cases c : l = 0
  · subst c
    refine ⟨zw s o 7 (s.1 o 7 + 1), t, ?_, ?_, ?_, yDf_w ho, yDm_r t, fun a ha => zw_e ha, rfl, ?_⟩
    · unfold f_dy_grow
      rw [l2, if_pos (by decide), Option.bind_some]
    · unfold f_m_quarterGoes_122
      rw [l3, if_pos (by decide)]
    · refine ⟨?_, ?_, ?_, ?_, ?_, ?_, ⟨g1, g2, ?_, g4⟩, ⟨s1, s2, ?_, s4⟩, 0, by omega, ?_, l3, fun hm => absurd hm (by omega)⟩
      · rw [zw_o, if_neg (by omega)]; exact e8
      · rw [zw_o, if_neg (by omega)]; exact e6
      · rw [zw_o, if_neg (by omega)]; exact e3
      · rw [zw_o, if_neg (by omega)]; exact e4
      · rw [zw_o, if_neg (by omega)]; exact e9
      · rw [zw_o, if_neg (by omega)]; exact e13
      · rw [zw_o, if_neg (by omega)]; exact g3
      · rw [zw_o, if_neg (by omega)]; exact s3
      · rw [zw_o, if_neg (by omega)]; exact l2
    · intro i hi; rw [zw_o, if_neg (by omega)]
  · obtain ⟨A, a1, a2, a3⟩ := l4 (by omega)
    have ln : ¬ nI l ≤ 0 := nI_nle (by omega) (by omega)
    by_cases d : A + 1 < S
    · refine ⟨zw s o 7 (nI (A + 1)), zw t 0 23 (nI (A + 1)), ?_, ?_, ?_, yDf_w ho, yDm_w (by omega), fun a ha => zw_e ha, rfl, ?_⟩
      · unfold f_dy_grow
        rw [l2, if_neg ln, a2, s3, nI_1, if_pos (nI_lt d (by omega)), Option.bind_some]
      · unfold f_m_quarterGoes_122
        rw [l3, if_neg ln, L5, Option.bind_some, a3, s4, nI_1, if_pos (nI_lt d (by omega))]
      · refine ⟨?_, ?_, ?_, ?_, ?_, ?_, ⟨g1, g2, ?_, g4⟩, ⟨s1, s2, ?_, s4⟩, l, l1, ?_, l3, fun _ => ⟨A + 1, d, ?_, rfl⟩⟩
        · rw [zw_o, if_neg (by omega)]; exact e8
        · rw [zw_o, if_neg (by omega)]; exact e6
        · rw [zw_o, if_neg (by omega)]; exact e3
        · rw [zw_o, if_neg (by omega)]; exact e4
        · rw [zw_o, if_neg (by omega)]; exact e9
        · rw [zw_o, if_neg (by omega)]; exact e13
        · rw [zw_o, if_neg (by omega)]; exact g3
        · rw [zw_o, if_neg (by omega)]; exact s3
        · rw [zw_o, if_neg (by omega)]; exact l2
        · rw [zw_o, if_pos rfl]
      · intro i hi; rw [zw_o, if_neg (by omega)]
    · have hp := yDn_poured h (v := nI l)
      have hq := yDn_left (m := 0) hp (show (zw s o 4 (s.1 o 4 + nI l)).1 o 5 = nI l by rw [zw_o, if_neg (by omega)]; exact l2) (by omega) l1
      obtain ⟨s', t', r1, r2, r3, r4, r5, r6, r7, r8⟩ := refill_rel hq ho
      refine ⟨s', t', ?_, ?_, r3, yDf_t (yDf_t (yDf_w ho) (yDf_w ho)) r4, yDm_t (yDm_t (yDm_w (by omega)) (yDm_w (by omega))) r5, fun a ha => by rw [r6 a ha, zw_e ha, zw_e ha], r7, ?_⟩
      · unfold f_dy_grow
        rw [l2, if_neg ln, a2, s3, nI_1, if_neg (nI_nlt (by omega) (by omega)), Option.bind_some, Option.bind_some]
        rw [show nI 0 = (0 : Int32) from rfl] at r1
        rw [r1, Option.bind_some]
      · unfold f_m_quarterGoes_122
        rw [l3, if_neg ln, L5, Option.bind_some, a3, s4, nI_1, if_neg (nI_nlt (by omega) (by omega))]
        rw [show nI 0 = (0 : Int32) from rfl] at r2
        rw [r2, Option.bind_some]
      · intro i hi; rw [r8 i hi, zw_o, if_neg (by omega), zw_o, if_neg (by omega)]
