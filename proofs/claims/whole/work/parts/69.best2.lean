/-! DAYS 10: best -/
theorem best_ready {what : Int32} {M w : Nat} (C : (what = 0 ∧ M = 50 ∧ w = 3) ∨ (what = 1 ∧ M = 9 ∧ w = 7)) {s0 t0 s t : zSt} (h : yR s0 t0) (hb : yBs w s0 t0 s t) {i : Nat} (hi : i ≤ M) (hv : w = 3 ∨ i = 0 ∨ (yLw s t ∧ zFo s)) (F : Nat) (seed b g : Int32) :
    ∃ (s1 : zSt) (p jg : Int32), f_g_best_32 (F + 1) seed what (nI M) b g (nI i) s = f_g_best_101 (f_g_best_32 F) seed what (nI M) b g (nI i) p jg s1 ∧ yBs w s0 t0 s1 (zw t 1 w (nI i)) ∧ yLw s1 (zw t 1 w (nI i)) ∧ zFo s1 ∧ p = (zw t 1 w (nI i)).1 1 3 ∧ jg = (zw t 1 w (nI i)).1 1 7 := by
  obtain ⟨⟨r1, -⟩, -⟩ := id h
  obtain ⟨b1, b2, b3, b4, b5, b6⟩ := id hb
  have A2 : s.1 2 = s0.1 2 := b3 2 (by omega) (by omega) (by omega) (by omega) (by omega) (by omega) (by omega)
  have L3 : zld s 2 8 3 = some (s.1 2 3) := zld_at (j := 3) (by omega) (by omega)
  have L7 : zld s 2 8 7 = some (s.1 2 7) := zld_at (j := 7) (by omega) (by omega)
  have hlt : ¬ nI M < nI i := nI_nlt (by omega) (by omega)
  rcases C with ⟨rfl, rfl, rfl⟩ | ⟨rfl, rfl, rfl⟩
  · have e7 : s.1 2 7 = t.1 1 7 := by rw [A2, b5 7 (by omega)]; exact r1 7 (by omega)
    obtain ⟨s1, x1, x2, x3, x4⟩ := try_begin h (yBs_t hb (nI i)) (Or.inl rfl) (p := nI i) (by rw [zw_o, if_pos rfl])
    refine ⟨s1, nI i, t.1 1 7, ?_, x2, x3, x4, by rw [zw_o, if_pos rfl], by rw [zw_o, if_neg (by omega)]⟩
    conv => lhs; unfold f_g_best_32
    rw [if_neg hlt, if_pos rfl]
    unfold f_g_best_56
    rw [if_pos rfl, L7, Option.bind_some]
    unfold f_g_best_77
    rw [if_pos rfl]
    unfold f_g_best_88
    rw [x1, Option.bind_some, e7]
  · have e3 : s.1 2 3 = t.1 1 3 := by rw [A2, b5 3 (by omega)]; exact r1 3 (by omega)
    have ne : ¬ (1 : Int32) = 0 := by decide
    have e3' : (zw t 1 7 (nI i)).1 1 3 = t.1 1 3 := by rw [zw_o, if_neg (by omega)]
    have e7' : (zw t 1 7 (nI i)).1 1 7 = nI i := by rw [zw_o, if_pos rfl]
    have hG : f_g_best_32 (F + 1) seed 1 (nI 9) b g (nI i) s = if nI i = 0 then f_g_best_88 (f_g_best_32 F) seed 1 (nI 9) b g (nI i) (s.1 2 3) (nI i) s else f_g_best_101 (f_g_best_32 F) seed 1 (nI 9) b g (nI i) (s.1 2 3) (nI i) s := by
      conv => lhs; unfold f_g_best_32
      rw [if_neg hlt, if_neg ne, L3, Option.bind_some]
      unfold f_g_best_56
      rw [if_neg ne]
      unfold f_g_best_77
      rw [if_neg ne]
    by_cases z : i = 0
    · subst z
      obtain ⟨s1, x1, x2, x3, x4⟩ := try_begin h (yBs_t hb (nI 0)) (Or.inr rfl) (p := s.1 2 3) (by rw [e3', e3])
      refine ⟨s1, s.1 2 3, nI 0, ?_, x2, x3, x4, by rw [e3', e3], e7'.symm⟩
      rw [hG, if_pos (show nI 0 = (0 : Int32) from rfl)]
      unfold f_g_best_88
      rw [x1, Option.bind_some]
    · obtain ⟨y1, y2⟩ := (hv.resolve_left (by omega)).resolve_left z
      refine ⟨s, s.1 2 3, nI i, ?_, yBs_t hb (nI i), ?_, y2, by rw [e3', e3], e7'.symm⟩
      · rw [hG, if_neg (show ¬ nI i = (0 : Int32) from fun e => z ((nI_eq (a := i) (b := 0) (by omega) (by omega)).mp e))]
      · obtain ⟨⟨m0, m1, m2, m3, m4, m5⟩, y3⟩ := y1
        have E : ∀ j, j ≠ 7 → (zw t 1 7 (nI i)).1 1 j = t.1 1 j := fun j hj => by rw [zw_o, if_neg hj]
        exact ⟨⟨by rw [E 0 (by omega)]; exact m0, by rw [E 1 (by omega)]; exact m1, by rw [E 2 (by omega)]; exact m2, by rw [E 3 (by omega)]; exact m3, by rw [E 4 (by omega)]; exact m4, by rw [E 5 (by omega)]; exact m5⟩, y3⟩
theorem best_loop {what : Int32} {M w : Nat} (C : (what = 0 ∧ M = 50 ∧ w = 3) ∨ (what = 1 ∧ M = 9 ∧ w = 7)) {s0 t0 : zSt} (h : yR s0 t0) (seed : Int32) : ∀ (m i F F' : Nat) (s t : zSt) (bG gG bM gM : Int32), i + m = M + 1 → m < F → m < F' → yBs w s0 t0 s t → (w = 3 ∨ i = 0 ∨ (yLw s t ∧ zFo s)) → ((i = 0 ∧ bM = -1) ∨ (0 < i ∧ ∃ b, b < 100 ∧ bG = nI b ∧ bM = nI b ∧ gG = gM)) →
    ∃ (r : Int32) (s' t' : zSt), f_g_best_32 F seed what (nI M) bG gG (nI i) s = some (r, s') ∧ f_m_best_40 F' seed what (nI w) (t0.1 1 w) bM gM (nI i) t = some (r, t') ∧ yR s' t' := by
  have hw : w = 3 ∨ w = 7 := by omega
  have hM50 : M ≤ 50 := by omega
  have hm : ∀ (F' : Nat) (bM gM : Int32) (i : Nat) (t : zSt), f_m_best_40 (F' + 1) seed what (nI w) (t0.1 1 w) bM gM (nI i) t = f_m_best_53 (f_m_best_40 F') seed what (nI w) (t0.1 1 w) bM gM (nI i) (nI M) (nI i) t := by
    intro F' bM gM i t
    conv => lhs; unfold f_m_best_40
    rcases C with ⟨rfl, rfl, rfl⟩ | ⟨rfl, rfl, rfl⟩
    · rw [if_pos rfl]; rfl
    · rw [if_neg (by decide)]; rfl
  have S : ∀ (x : zSt) (v : Int32), zst x 1 8 (nI w) v = some (zw x 1 w v) := fun x v => zst_at (by omega) (by omega)
  intro m
  induction m with
  | zero =>
    intro i F F' s t bG gG bM gM hi hF hF' hb hv hc
    obtain ⟨F, rfl⟩ : ∃ x, F = x + 1 := ⟨F - 1, by omega⟩
    obtain ⟨F', rfl⟩ : ∃ x, F' = x + 1 := ⟨F' - 1, by omega⟩
    obtain ⟨-, b, -, c2, c3, -⟩ := hc.resolve_left (by omega)
    have hlt : nI M < nI i := nI_lt (by omega) (by omega)
    refine ⟨bG, s, zw t 1 w (t0.1 1 w), ?_, ?_, yBs_end h hb⟩
    · unfold f_g_best_32
      rw [if_pos hlt]
    · rw [hm]
      unfold f_m_best_53
      rw [if_pos hlt, S, Option.bind_some, c2, c3]
  | succ m ih =>
    intro i F F' s t bG gG bM gM hi hF hF' hb hv hc
    obtain ⟨F, rfl⟩ : ∃ x, F = x + 1 := ⟨F - 1, by omega⟩
    obtain ⟨F', rfl⟩ : ∃ x, F' = x + 1 := ⟨F' - 1, by omega⟩
    have hlt : ¬ nI M < nI i := nI_nlt (by omega) (by omega)
    obtain ⟨s1, p, jg, x1, x2, x3, x4, x5, x6⟩ := best_ready C h hb (show i ≤ M by omega) hv F seed bG gG
    have hz : zrg w ((zw t 1 w (nI i)).1 1 w) := by
      rw [zw_o, if_pos rfl]
      unfold zrg
      rw [q_nI (by omega)]
      rcases C with ⟨-, rfl, rfl⟩ | ⟨-, rfl, rfl⟩ <;> simp only [zlo, zhi] <;> simp <;> omega
    obtain ⟨s2, t2, g, y1, y2, y3, y4, y5, y6, -⟩ := try_rel h x2 hw x3 x4 hz x5 x6 seed
    have gM1 : f_m_best_40 (F' + 1) seed what (nI w) (t0.1 1 w) bM gM (nI i) t = if bM < 0 then f_m_best_40 F' seed what (nI w) (t0.1 1 w) (nI i) g (nI i + 1) t2 else if g ≤ gM then f_m_best_40 F' seed what (nI w) (t0.1 1 w) bM gM (nI i + 1) t2 else f_m_best_40 F' seed what (nI w) (t0.1 1 w) (nI i) g (nI i + 1) t2 := by
      rw [hm]
      unfold f_m_best_53
      rw [if_neg hlt, S, Option.bind_some, y3, Option.bind_some]
    have gG1 : f_g_best_32 (F + 1) seed what (nI M) bG gG (nI i) s = if nI i = 0 then f_g_best_32 F seed what (nI M) (nI i) g (nI i + 1) s2 else if g ≤ gG then f_g_best_32 F seed what (nI M) bG gG (nI i + 1) s2 else f_g_best_32 F seed what (nI M) (nI i) g (nI i + 1) s2 := by
      rw [x1]
      unfold f_g_best_101
      rw [y1, Option.bind_some, y2, Option.bind_some, Option.bind_some]
      dsimp only
      rw [y2, Option.bind_some]
    rw [gM1, gG1]
    have go : ∀ b gv : Int32, (∃ n, n < 100 ∧ b = nI n) → ∃ (r : Int32) (s' t' : zSt), f_g_best_32 F seed what (nI M) b gv (nI i + 1) s2 = some (r, s') ∧ f_m_best_40 F' seed what (nI w) (t0.1 1 w) b gv (nI i + 1) t2 = some (r, t') ∧ yR s' t' := by
      intro b gv ⟨n, n1, n2⟩
      rw [nI_1]
      exact ih (i + 1) F F' s2 t2 b gv b gv (by omega) (by omega) (by omega) y4 (Or.inr (Or.inr ⟨y5, y6⟩)) (Or.inr ⟨by omega, n, n1, n2, n2, rfl⟩)
    rcases hc with ⟨c1, c2⟩ | ⟨c1, b, c2, c3, c4, c5⟩
    · subst c1
      rw [if_pos (show nI 0 = (0 : Int32) from rfl), c2, if_pos (by decide)]
      exact go (nI 0) g ⟨0, by omega, rfl⟩
    · rw [if_neg (show ¬ nI i = (0 : Int32) from fun e => absurd ((nI_eq (a := i) (b := 0) (by omega) (by omega)).mp e) (by omega)), c4, if_neg (show ¬ nI b < (0 : Int32) from fun e => absurd e (nI_pos (by omega))), c5, c3]
      by_cases w : g ≤ gM
      · rw [if_pos w, if_pos w]
        exact go (nI b) gM ⟨b, c2, rfl⟩
      · rw [if_neg w, if_neg w]
        exact go (nI i) g ⟨i, by omega, rfl⟩
theorem op_best {s t : zSt} (h : yR s t) (a b : Int32) : yOp (f_g_best a b) (f_m_best a b) s t := by
  have hzF := zFu_big
  have b0 : ∀ w, yBs w s t s t := fun w => ⟨rfl, rfl, fun _ _ _ _ _ _ _ _ => rfl, fun _ _ _ _ _ => rfl, fun _ _ => rfl, fun _ _ => rfl⟩
  unfold yOp f_g_best f_m_best
  rw [p_isWithin, Option.bind_some, p_within, Option.bind_some, Int32.toInt_toInt64, l0, l1, k0, k1]
  by_cases c : 0 ≤ b.toInt ∧ b.toInt ≤ 1
  · rw [q01_t c, if_neg q_neg10', if_neg q_neg10']
    dsimp only
    by_cases z : b = 0
    · rw [if_pos z, if_pos z]
      unfold f_m_best_22
      rw [show zld t 1 8 3 = some (t.1 1 3) from zld_at (j := 3) (by omega) (by omega), Option.bind_some]
      exact best_loop (what := b) (M := 50) (w := 3) (Or.inl ⟨z, rfl, rfl⟩) h a 51 0 zFu zFu s t 0 0 (-1) 0 (by omega) (by omega) (by omega) (b0 3) (Or.inl rfl) (Or.inl ⟨rfl, rfl⟩)
    · have z1 : b = 1 := by
        rw [q_eq, l1]
        have : ¬ b.toInt = 0 := fun e => z (by rw [q_eq, l0]; exact e)
        omega
      rw [if_neg z, if_neg z]
      unfold f_m_best_22
      rw [show zld t 1 8 7 = some (t.1 1 7) from zld_at (j := 7) (by omega) (by omega), Option.bind_some]
      exact best_loop (what := b) (M := 9) (w := 7) (Or.inr ⟨z1, rfl, rfl⟩) h a 10 0 zFu zFu s t 0 0 (-1) 0 (by omega) (by omega) (by omega) (b0 7) (Or.inr (Or.inl rfl)) (Or.inl ⟨rfl, rfl⟩)
  · rw [q01_f c, if_pos rfl, if_pos rfl]
    exact ⟨-1, s, t, rfl, rfl, h⟩
