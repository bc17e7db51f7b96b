/-! DAYS 12: judge, seeded -/
theorem yR_ps {s t : zSt} (h : yR s t) : yPs s t := by
  obtain ⟨-, ⟨-, g2, g3, g4, P, hP, e1, e2⟩, -⟩ := h
  exact ⟨P, hP, e1, e2, g2, g3, g4⟩
/-- a shelf that the reference calls a row of shorts -/
theorem row_is {s t : zSt} (h : yR s t) {k : Nat} (hk : k < 6) (e : t.1 26 k = nI 51) : ∃ n, n ≤ 60 ∧ s.1 (40 + 2 * k) 2 = nI n ∧ t.1 27 k = nI n ∧ ∀ j, j < 60 → s.2 (40 + 2 * k + 1) j = t.2 28 (60 * k + j) := by
  rcases yR_get h hk with ⟨c, -⟩ | ⟨w, n, c1, c2, -, c3, -⟩ | ⟨r, n, c1, c2, c3, c4, c5, c6, c7, c8, -⟩
  · rw [e] at c; exact absurd c (by decide)
  · rw [e] at c3
    have := (nI_eq (a := 51) (b := w) (by omega) (by omega)).mp c3
    omega
  · exact ⟨n, c2, c6, c7, c8⟩
theorem first_rel {s t : zSt} (h : yR s t) (hL : yLw s t) (hf : zFo s) {k : Nat} (hk : k < 6) (e : t.1 26 k = nI 51) (seed : Int32) :
    ∃ (s' t' : zSt) (a : Int32), f_g_firstWrong (40 + 2 * k) seed s = some (a, s') ∧ f_m_firstFalse (nI k) seed t = some (a, t') ∧ yR s' t' ∧ yLw s' t' ∧ zFo s' ∧ t'.1 26 = t.1 26 := by
  have hzF := zFu_big
  obtain ⟨⟨r1, r1b, -⟩, -⟩ := id h
  obtain ⟨n, n1, n2, n3, n4⟩ := row_is h hk e
  have L3 : zld s 2 8 3 = some (s.1 2 3) := zld_at (j := 3) (by omega) (by omega)
  have L7 : zld s 2 8 7 = some (s.1 2 7) := zld_at (j := 7) (by omega) (by omega)
  obtain ⟨s1, t1, G, S, x1, x2, x3, x4, x5, x6, x7, x8, x9, x10⟩ := begin_rel hL hf (yR_ps h) (fun j hj => by rw [← r1 j hj]; exact r1b j hj) (p := s.1 2 3) (jg := s.1 2 7) ⟨r1 0 (by omega), r1 1 (by omega), r1 2 (by omega), r1 5 (by omega), r1 6 (by omega), r1 7 (by omega)⟩ seed
  obtain ⟨s', t', r, a, y1, y2, y3, y4, y5, y6, y7⟩ := judge_loop hk n1 32 0 zFu zFu zFu s1 t1 0 (by omega) (by omega) (by omega) (by omega) x3 x4 x5 x6 (fun j hj => absurd hj (by omega)) (fun j _ hj => x7 j hj) x8 (by
    rw [x9.2 (40 + 2 * k) (by omega) (by omega) (by omega) (by omega) (by omega) (by omega)]; exact n2) (by
    rw [x10.2.1 27 (by omega) (by omega) (by omega)]; exact n3) (fun j hj => by rw [x9.1, x10.1]; exact n4 j hj)
  have Q := yQw_t x9 y6
  have M := yQm_t x10 y7
  refine ⟨s', t', a, ?_, ?_, yR_fr h Q.1 M.1 (fun a _ a2 a3 a4 a5 a6 a7 => Q.2 a a2 a3 a4 a5 a6 a7) (fun a a1 a2 a3 => M.2.1 a a1 a2 a3) (fun j hj => M.2.2 j hj), y4, y5, M.2.1 26 (by omega) (by omega) (by omega)⟩
  · unfold f_g_firstWrong
    rw [L3, Option.bind_some, L7, Option.bind_some, x1, Option.bind_some]
    rw [show nI 0 = (0 : Int32) from rfl] at y1
    exact y1
  · unfold f_m_firstFalse
    rw [show nI 0 = (0 : Int32) from rfl] at y2 y3
    rw [x2, y2, Option.bind_some]
    exact y3
theorem seeded_loop {k : Nat} (hk : k < 6) : ∀ (m i F F' : Nat) (s t : zSt), i + m = 100 → m < F → m < F' → yR s t → yLw s t → zFo s → t.1 26 k = nI 51 →
    ∃ (r : Int32) (s' t' : zSt), f_g_seeded_47 F (nI i) (40 + 2 * k) s = some (r, s') ∧ f_m_seeded_16 F' (nI k) (nI i) t = some (r, t') ∧ yR s' t' := by
  intro m
  induction m with
  | zero =>
    intro i F F' s t hi hF hF' h hL hf e
    obtain ⟨F, rfl⟩ : ∃ x, F = x + 1 := ⟨F - 1, by omega⟩
    obtain ⟨F', rfl⟩ : ∃ x, F' = x + 1 := ⟨F' - 1, by omega⟩
    have ei : i = 100 := by omega
    subst ei
    refine ⟨-2, s, t, ?_, ?_, h⟩
    · unfold f_g_seeded_47
      rw [if_pos (by decide)]
    · unfold f_m_seeded_16
      rw [if_pos (by decide)]
  | succ m ih =>
    intro i F F' s t hi hF hF' h hL hf e
    obtain ⟨F, rfl⟩ : ∃ x, F = x + 1 := ⟨F - 1, by omega⟩
    obtain ⟨F', rfl⟩ : ∃ x, F' = x + 1 := ⟨F' - 1, by omega⟩
    have n100 : ¬ (100 : Int32) ≤ nI i := nI_ge (b := 100) (by omega) (by omega)
    obtain ⟨s1, t1, a, x1, x2, x3, x4, x5, x6⟩ := first_rel h hL hf hk e (nI i)
    unfold f_g_seeded_47 f_m_seeded_16
    rw [if_neg n100, if_neg n100, x1, x2, Option.bind_some, Option.bind_some]
    dsimp only
    by_cases c : a = -2
    · rw [if_pos c, if_pos c]
      exact ⟨nI i, s1, t1, rfl, rfl, x3⟩
    · rw [if_neg c, if_neg c, nI_1]
      exact ih (i + 1) F F' s1 t1 (by omega) (by omega) (by omega) x3 x4 x5 (by rw [x6]; exact e)
/-- what a shelf is asked for: a day told -/
theorem day_is {s t : zSt} (h : yR s t) {k : Nat} (hk : k < 6) : (∃ c : Int32, c < 0 ∧ ¬ c = 0 ∧ f_sh_refusalOfSort (40 + 2 * k) 1 s = some (c, s) ∧ f_m_dayIs (nI k) t = some (c, t)) ∨ (t.1 26 k = nI 51 ∧ f_sh_refusalOfSort (40 + 2 * k) 1 s = some (0, s) ∧ f_m_dayIs (nI k) t = some (1, t)) := by
  have L26 : zld t 26 6 (nI k) = some (t.1 26 k) := zld_at hk (by omega)
  have hM : f_m_dayIs (nI k) t = if 0 ≤ t.1 26 k then (if t.1 26 k = 51 then some (1, t) else some (-12, t)) else some (-11, t) := by
    unfold f_m_dayIs
    rw [p_mShelf, Option.bind_some, q01_t (by rw [q_nI (by omega)]; omega), if_neg q_neg10']
    dsimp only
    rw [L26, Option.bind_some, Option.bind_some]
  rcases yR_get h hk with ⟨c1, c2, c3, -⟩ | ⟨w, n, c1, c2, -, c3, c4, c5, -⟩ | ⟨r, n, c1, c2, c3, c4, c5, c6, c7, c8, -⟩
  · refine Or.inl ⟨-11, by decide, by decide, ?_, ?_⟩
    · unfold f_sh_refusalOfSort
      rw [e_empty c2 c3, Option.bind_some, if_neg q_neg10']
    · rw [hM, c1, if_neg (by decide)]
  · refine Or.inl ⟨-12, by decide, by decide, ?_, ?_⟩
    · unfold f_sh_refusalOfSort
      rw [e_glass (by omega) c4, Option.bind_some, if_pos rfl, r_not c5, Option.bind_some, if_pos rfl]
    · rw [hM, c3, if_pos (nI_pos' (by omega)), if_neg (show ¬ nI w = (51 : Int32) from fun e => absurd ((nI_eq (a := w) (b := 51) (by omega) (by omega)).mp e) (by omega))]
  · by_cases z : r = 1
    · subst z
      refine Or.inr ⟨c3, ?_, ?_⟩
      · unfold f_sh_refusalOfSort
        rw [e_row (by omega) c4 c5, Option.bind_some, if_pos rfl, r_is (by omega) c5, Option.bind_some, q01_t (by rfl), if_neg q_neg10']
      · rw [hM, c3, if_pos (nI_pos' (by omega)), if_pos (show nI (50 + 1) = (51 : Int32) from rfl)]
    · refine Or.inl ⟨-12, by decide, by decide, ?_, ?_⟩
      · unfold f_sh_refusalOfSort
        rw [e_row (by omega) c4 c5, Option.bind_some, if_pos rfl, r_is (by omega) c5, Option.bind_some, q01_f (show ¬ nI r = (1 : Int32) from fun e => z ((nI_eq (a := r) (b := 1) (by omega) (by omega)).mp e)), if_pos rfl]
      · rw [hM, c3, if_pos (nI_pos' (by omega)), if_neg (show ¬ nI (50 + r) = (51 : Int32) from fun e => absurd ((nI_eq (a := 50 + r) (b := 51) (by omega) (by omega)).mp e) (by omega))]
theorem day_bad {a : Int32} (h : ¬ (0 ≤ a.toInt ∧ a.toInt ≤ 5)) (t : zSt) : f_m_dayIs a t = some (-1, t) := by
  unfold f_m_dayIs
  rw [p_mShelf, Option.bind_some, q01_f h, if_pos rfl]
theorem begin_R {s t : zSt} (h : yR s t) : ∃ s1, f_ls_begin (s.1 2 3) s = some s1 ∧ yR s1 t ∧ yLw s1 t ∧ zFo s1 := by
  obtain ⟨⟨r1, -⟩, -⟩ := id h
  obtain ⟨s1, b1, b2, b3, b4, b5⟩ := g_begin (s.1 2 3) s
  exact ⟨s1, b1, yR_fr h b2 rfl (fun a a1 _ _ a4 a5 _ _ => b3 a a1 a4 a5) (fun _ _ _ _ => rfl) (fun _ _ => rfl), yLw_b h (r1 3 (by omega)) b3 b4, fun q A hq hA => Or.inl (b5 _ (by omega))⟩
theorem op_judge {s t : zSt} (h : yR s t) (a b : Int32) : yOp (f_g_judge a b) (f_m_judge a b) s t := by
  unfold yOp f_g_judge f_m_judge
  have L3 : zld s 2 8 3 = some (s.1 2 3) := zld_at (j := 3) (by omega) (by omega)
  by_cases c : 0 ≤ a.toInt ∧ a.toInt ≤ 5
  · obtain ⟨k, hk, rfl⟩ := q_ix (n := 5) c
    rw [if_pos (show 0 ≤ (nI k).toInt ∧ (nI k).toInt < 6 by omega), Option.bind_some, nI_clamp (by omega)]
    rcases day_is h (show k < 6 by omega) with ⟨x, x1, x2, x3, x4⟩ | ⟨x1, x2, x3⟩
    · rw [x3, x4, Option.bind_some, Option.bind_some, if_neg x2, if_neg (show ¬ 0 ≤ x by rw [q_le]; rw [q_lt] at x1; omega), x4, Option.bind_some]
      exact ⟨x, s, t, rfl, rfl, h⟩
    · obtain ⟨s1, y1, y2, y3, y4⟩ := begin_R h
      obtain ⟨s2, t2, r, z1, z2, z3, -⟩ := first_rel y2 y3 y4 (show k < 6 by omega) x1 b
      rw [x2, x3, Option.bind_some, Option.bind_some, if_pos rfl, if_pos (show (0 : Int32) ≤ 1 by decide)]
      dsimp only
      rw [L3, Option.bind_some, y1, Option.bind_some, z1, Option.bind_some, z2, Option.bind_some]
      exact ⟨r, s2, t2, rfl, rfl, z3⟩
  · rw [if_neg (show ¬ (0 ≤ a.toInt ∧ a.toInt < 6) by omega), day_bad c, Option.bind_some, if_neg (show ¬ (0 : Int32) ≤ -1 by decide)]
    dsimp only
    rw [day_bad c, Option.bind_some]
    exact ⟨-1, s, t, rfl, rfl, h⟩
theorem op_seeded {s t : zSt} (h : yR s t) (a : Int32) : yOp (f_g_seeded a) (f_m_seeded a) s t := by
  have hzF := zFu_big
  unfold yOp f_g_seeded f_m_seeded
  have L3 : zld s 2 8 3 = some (s.1 2 3) := zld_at (j := 3) (by omega) (by omega)
  by_cases c : 0 ≤ a.toInt ∧ a.toInt ≤ 5
  · obtain ⟨k, hk, rfl⟩ := q_ix (n := 5) c
    rw [if_pos (show 0 ≤ (nI k).toInt ∧ (nI k).toInt < 6 by omega), Option.bind_some, nI_clamp (by omega)]
    rcases day_is h (show k < 6 by omega) with ⟨x, x1, x2, x3, x4⟩ | ⟨x1, x2, x3⟩
    · rw [x3, x4, Option.bind_some, Option.bind_some, if_neg x2, if_neg (show ¬ 0 ≤ x by rw [q_le]; rw [q_lt] at x1; omega), x4, Option.bind_some]
      exact ⟨x, s, t, rfl, rfl, h⟩
    · obtain ⟨s1, y1, y2, y3, y4⟩ := begin_R h
      have := seeded_loop (show k < 6 by omega) 100 0 zFu zFu s1 t (by omega) (by omega) (by omega) y2 y3 y4 x1
      rw [x2, x3, Option.bind_some, Option.bind_some, if_pos rfl, if_pos (show (0 : Int32) ≤ 1 by decide)]
      dsimp only
      rw [L3, Option.bind_some, y1, Option.bind_some]
      exact this
  · rw [if_neg (show ¬ (0 ≤ a.toInt ∧ a.toInt < 6) by omega), day_bad c, Option.bind_some, if_neg (show ¬ (0 : Int32) ≤ -1 by decide)]
    dsimp only
    rw [day_bad c, Option.bind_some]
    exact ⟨-1, s, t, rfl, rfl, h⟩
