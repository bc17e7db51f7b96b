/-! DAYS 9: best, one try -/
theorem yLw_p {s0 t0 s t : zSt} (h : yR s0 t0) (s7 : s.1 7 = s0.1 7) (s17 : s.1 17 = s0.1 17) (s18 : s.1 18 = s0.1 18) (s20 : s.1 20 = s0.1 20) (s21 : s.1 21 = s0.1 21) (t5 : t.1 5 = t0.1 5) (t9 : t.1 9 = t0.1 9) (t10 : t.1 10 = t0.1 10) (hn : s.1 23 0 = t.1 1 0 ∧ s.1 23 1 = t.1 1 1 ∧ s.1 23 2 = t.1 1 2 ∧ s.1 23 6 = t.1 1 3 ∧ s.1 23 7 = t.1 1 4 ∧ s.1 16 3 = t.1 1 5) : yLw s t := by
  obtain ⟨-, ⟨r2, -⟩, -, -, r5, r6, -⟩ := h
  refine ⟨hn, fun j hj => ?_, ?_, ?_⟩
  · rw [s7, t5]; exact r2 j hj
  · rw [s17, s18, t10, t9]; exact r5
  · rw [s20, s21, t10, t9]; exact r6
/-- the states while best tries: w is what it tries -/
def yBs (w : Nat) (s0 t0 s t : zSt) : Prop := s.2 = s0.2 ∧ t.2 = t0.2 ∧ (∀ a, a ≠ 16 → a ≠ 19 → a ≠ 22 → a ≠ 23 → a ≠ 24 → a ≠ 27 → a ≠ 28 → s.1 a = s0.1 a) ∧ (∀ a, a ≠ 0 → a ≠ 1 → a ≠ 11 → a ≠ 12 → t.1 a = t0.1 a) ∧ (∀ j, j ≠ w → t.1 1 j = t0.1 1 j) ∧ ∀ j, (j < 14 ∨ 26 < j) → t.1 0 j = t0.1 0 j
theorem yBs_end {w : Nat} {s0 t0 s t : zSt} (h : yR s0 t0) (hb : yBs w s0 t0 s t) : yR s (zw t 1 w (t0.1 1 w)) := by
  obtain ⟨b1, b2, b3, b4, b5, b6⟩ := hb
  refine yR_fr h b1 b2 b3 (fun a a1 a2 a3 => ?_) (fun j hj => b6 j hj)
  by_cases e : a = 1
  · subst e
    funext j
    show upd (t.1 1) w (t0.1 1 w) j = t0.1 1 j
    by_cases ej : j = w
    · subst ej; rw [q_updS]
    · rw [q_updN ej]; exact b5 j ej
  · rw [zw_e e]; exact b4 a a1 e a2 a3
theorem try_rel {w : Nat} {s0 t0 s t : zSt} (h : yR s0 t0) (hb : yBs w s0 t0 s t) (hw : w = 3 ∨ w = 7) (hL : yLw s t) (hf : zFo s) (hz : zrg w (t.1 1 w)) {p jg : Int32} (hp : p = t.1 1 3) (hj : jg = t.1 1 7) (seed : Int32) :
    ∃ (s' t' : zSt) (g : Int32), f_g_spend 27 seed p jg s = some s' ∧ f_dy_gain 27 s' = some (g, s') ∧ f_m_gainOf seed t = some (g, t') ∧ yBs w s0 t0 s' t' ∧ yLw s' t' ∧ zFo s' ∧ t'.1 1 = t.1 1 := by
  obtain ⟨b1, b2, b3, b4, b5, b6⟩ := id hb
  obtain ⟨⟨r1, r1b, -⟩, ⟨-, g2, g3, g4, P, hP, e1, e2⟩, -⟩ := id h
  have A : ∀ a, a < 16 → s.1 a = s0.1 a := fun a ha => b3 a (by omega) (by omega) (by omega) (by omega) (by omega) (by omega) (by omega)
  have hps : yPs s t := ⟨P, hP, by rw [A 6 (by omega)]; exact e1, by rw [b6 8 (by omega)]; exact e2, fun j hj => by rw [A 8 (by omega), b4 6 (by omega) (by omega) (by omega) (by omega)]; exact g2 j hj, fun j hj => by rw [A 9 (by omega), b4 7 (by omega) (by omega) (by omega) (by omega)]; exact g3 j hj, fun j hj => by rw [b4 7 (by omega) (by omega) (by omega) (by omega)]; exact g4 j hj⟩
  have hr : ∀ j, j < 8 → zrg j (t.1 1 j) := by
    intro j hj8
    by_cases e : j = w
    · rw [e]; exact hz
    · rw [b5 j e, ← r1 j hj8]; exact r1b j hj8
  have hN : ∀ j, j < 8 → j ≠ w → s.1 2 j = t.1 1 j := fun j hj8 hjw => by rw [A 2 (by omega), b5 j hjw]; exact r1 j hj8
  obtain ⟨s', t', r, c1, c2, c3, c4, ⟨G, S, c5⟩, c6, c7, c8, c9, c10, c11⟩ := spend_rel (o := 27) (by omega) hL hf hps hr (p := p) (jg := jg) ⟨hN 0 (by omega) (by omega), hN 1 (by omega) (by omega), hN 2 (by omega) (by omega), hN 5 (by omega) (by omega), hN 6 (by omega) (by omega), hj⟩ seed
  obtain ⟨-, e6, -⟩ := c5
  have T1 := c9.2.1 1 (by omega) (by omega) (by omega)
  have L3 : zld t' 1 8 3 = some (t'.1 1 3) := zld_at (j := 3) (by omega) (by omega)
  refine ⟨s', t', r * t.1 1 3 - t'.1 0 24 * (3 * t.1 1 0 + t.1 1 1), c1, ?_, ?_, ⟨c8.1.trans b1, c9.1.trans b2, fun a a1 a2 a3 a4 a5 a6 a7 => ?_, fun a a1 a2 a3 a4 => ?_, fun j hj => ?_, fun j hj => ?_⟩, c3, c4, T1⟩
  · unfold f_dy_gain
    rw [c7, c10, c11, hp, hN 0 (by omega) (by omega), hN 1 (by omega) (by omega), e6]
  · unfold f_m_gainOf
    rw [c2, Option.bind_some]
    dsimp only
    rw [L3, Option.bind_some, p_mJug, Option.bind_some, T1]
  · rw [c8.2 a a2 a3 a4 a5 a6 a7]; exact b3 a a1 a2 a3 a4 a5 a6 a7
  · rw [c9.2.1 a a1 a3 a4]; exact b4 a a1 a2 a3 a4
  · rw [T1]; exact b5 j hj
  · rw [c9.2.2 j hj]; exact b6 j hj
theorem yBs_t {w : Nat} {s0 t0 s t : zSt} (hb : yBs w s0 t0 s t) (v : Int32) : yBs w s0 t0 s (zw t 1 w v) := by
  obtain ⟨b1, b2, b3, b4, b5, b6⟩ := hb
  exact ⟨b1, b2, b3, fun a a1 a2 a3 a4 => by rw [zw_e a2]; exact b4 a a1 a2 a3 a4, fun j hj => by rw [zw_o, if_neg hj]; exact b5 j hj, fun j hj => b6 j hj⟩
theorem yBs_b {w : Nat} {s0 t0 s s' t : zSt} (hb : yBs w s0 t0 s t) (h2 : s'.2 = s.2) (sa : ∀ a, a ≠ 16 → a ≠ 23 → a ≠ 24 → s'.1 a = s.1 a) : yBs w s0 t0 s' t := by
  obtain ⟨b1, b2, b3, b4, b5, b6⟩ := hb
  exact ⟨h2.trans b1, b2, fun a a1 a2 a3 a4 a5 a6 a7 => (sa a a1 a4 a5).trans (b3 a a1 a2 a3 a4 a5 a6 a7), b4, b5, b6⟩
/-- the laws begun for a try -/
theorem try_begin {w : Nat} {s0 t0 s t : zSt} (h : yR s0 t0) (hb : yBs w s0 t0 s t) (hw : w = 3 ∨ w = 7) {p : Int32} (hp : p = t.1 1 3) : ∃ s', f_ls_begin p s = some s' ∧ yBs w s0 t0 s' t ∧ yLw s' t ∧ zFo s' := by
  obtain ⟨⟨r1, -⟩, -⟩ := id h
  obtain ⟨s', e1, e2, e3, e4, e5⟩ := g_begin p s
  obtain ⟨b1, b2, b3, b4, b5, b6⟩ := id hb
  have A : ∀ a, (a < 16 ∨ a = 17 ∨ a = 18 ∨ a = 20 ∨ a = 21) → s'.1 a = s0.1 a := fun a ha => (e3 a (by omega) (by omega) (by omega)).trans (b3 a (by omega) (by omega) (by omega) (by omega) (by omega) (by omega) (by omega))
  have A2 : s.1 2 = s0.1 2 := b3 2 (by omega) (by omega) (by omega) (by omega) (by omega) (by omega) (by omega)
  have N : ∀ j, j < 8 → j ≠ w → s.1 2 j = t.1 1 j := fun j hj8 hjw => by rw [A2, b5 j hjw]; exact r1 j hj8
  obtain ⟨n0, n1, n2, n3, n4, n5⟩ := e4
  refine ⟨s', e1, yBs_b hb e2 e3, yLw_p h (A 7 (by omega)) (A 17 (by omega)) (A 18 (by omega)) (A 20 (by omega)) (A 21 (by omega)) (b4 5 (by omega) (by omega) (by omega) (by omega)) (b4 9 (by omega) (by omega) (by omega) (by omega)) (b4 10 (by omega) (by omega) (by omega) (by omega)) ⟨?_, ?_, ?_, ?_, ?_, ?_⟩, fun q A hq hA => Or.inl (e5 _ (by omega))⟩
  · rw [n0]; exact N 0 (by omega) (by omega)
  · rw [n1]; exact N 1 (by omega) (by omega)
  · rw [n2]; exact N 2 (by omega) (by omega)
  · rw [n3]; exact hp
  · rw [n4]; exact N 4 (by omega) (by omega)
  · rw [n5]; exact N 5 (by omega) (by omega)
