/-! DAYS 6: the quarters of a day -/
theorem day_loop {o G S : Nat} (ho : o = 25 ∨ o = 27) : ∀ (m q F F' : Nat) (s t : zSt) (v : Int32), q + m = 32 → m < F → m < F' → yLw s t → zFo s → yDn o s t G S → yPs s t → (∀ j, j < q → s.1 (o + 1) j = t.1 12 j) → (∀ j, q ≤ j → j < 32 → s.1 (o + 1) j = 0) → s.1 o 1 = v →
    ∃ (s' t' : zSt) (r : Int32), f_g_spend_15 o F (nI q) s = some s' ∧ f_m_dayGoes_33 F' v (nI q) t = some (r, t') ∧ yLw s' t' ∧ zFo s' ∧ yDn o s' t' G S ∧ yPs s' t' ∧ (∀ j, j < 32 → s'.1 (o + 1) j = t'.1 12 j) ∧ s'.1 o 1 = r ∧ yQf o s s' ∧ yQm t t' ∧ (∀ j, j < q → t'.1 12 j = t.1 12 j) := by
  intro m
  induction m with
  | zero =>
    intro q F F' s t v hq hF hF' h1 h2 h3 h4 h5 h6 h7
    obtain ⟨F, rfl⟩ : ∃ x, F = x + 1 := ⟨F - 1, by omega⟩
    obtain ⟨F', rfl⟩ : ∃ x, F' = x + 1 := ⟨F' - 1, by omega⟩
    have e : q = 32 := by omega
    subst e
    refine ⟨s, t, v, ?_, ?_, h1, h2, h3, h4, h5, h7, yQf_r o s, ⟨rfl, fun _ _ _ _ => rfl, fun _ _ => rfl⟩, fun _ _ => rfl⟩
    · unfold f_g_spend_15
      rw [if_pos (by decide)]
    · unfold f_m_dayGoes_33
      rw [if_pos (by decide)]
  | succ m ih =>
    intro q F F' s t v hq hF hF' h1 h2 h3 h4 h5 h6 h7
    obtain ⟨F, rfl⟩ : ∃ x, F = x + 1 := ⟨F - 1, by omega⟩
    obtain ⟨F', rfl⟩ : ∃ x, F' = x + 1 := ⟨F' - 1, by omega⟩
    obtain ⟨s1, t1, a1, a2, ⟨b1, b2, b3, b4⟩, a4, a5, a6, a7⟩ := quarter_rel ho (show q < 32 by omega) h1 h2 h3 h4 (h6 q (Nat.le_refl _) (by omega))
    obtain ⟨s', t', r, c1, c2, c3, c4, c5, c6, c7, c8, c9, c10, c11⟩ := ih (q + 1) F F' s1 t1 (v + t1.1 12 q) (by omega) (by omega) (by omega) b1 b2 b3 (yPs_q h4 ho (yQw_f a6) a7) (fun j hj => by
      by_cases ej : j = q
      · subst ej; exact b4
      · rw [(a4 j ej).1, (a4 j ej).2]; exact h5 j (by omega)) (fun j hj hj2 => by rw [(a4 j (by omega)).1]; exact h6 j (by omega) hj2) (by rw [a5, h7])
    refine ⟨s', t', r, ?_, ?_, c3, c4, c5, c6, c7, c8, yQf_t a6 c9, yQm_t a7 c10, fun j hj => (c11 j (by omega)).trans (a4 j (by omega)).2⟩
    · unfold f_g_spend_15
      rw [if_neg (show ¬ (32 : Int32) ≤ nI q from nI_ge (b := 32) (by omega) (by omega)), a1, Option.bind_some, nI_1]
      exact c1
    · have L : zld t1 12 32 (nI q) = some (t1.1 12 q) := zld_at (by omega) (by omega)
      unfold f_m_dayGoes_33
      rw [if_neg (show ¬ (32 : Int32) ≤ nI q from nI_ge (b := 32) (by omega) (by omega)), a2, Option.bind_some, L, Option.bind_some, nI_1]
      exact c2
def zBe (o : Nat) (seed p jg : Int32) (s : zSt) : zSt := zw (zw (zw (zw (zw (zw (zw (zw (zw (zw (zw (zw (zfill s (o + 1) 32 0) o 1 0) o 3 0) o 4 0) o 5 0) o 6 0) o 8 seed) o 2 p) o 9 jg) o 10 (3 * s.1 2 0 + s.1 2 1)) o 11 (s.1 2 2)) o 12 (s.1 2 5)) o 13 (s.1 2 6)
def zTe (t : zSt) (seed : Int32) : zSt := zw (zw (zw (zw (zw t 0 21 seed) 0 22 0) 0 24 0) 0 25 0) 0 26 0
/-- a day begun: by the same seed, the price and the jugs that the reference's recipe holds -/
theorem spend_rel {o : Nat} {s t : zSt} (ho : o = 25 ∨ o = 27) (hL : yLw s t) (hf : zFo s) (hp : yPs s t) (hr : ∀ j, j < 8 → zrg j (t.1 1 j)) {p jg : Int32} (h0 : s.1 2 0 = t.1 1 0 ∧ s.1 2 1 = t.1 1 1 ∧ s.1 2 2 = t.1 1 2 ∧ s.1 2 5 = t.1 1 5 ∧ s.1 2 6 = t.1 1 6 ∧ jg = t.1 1 7) (seed : Int32) :
    ∃ (s' t' : zSt) (r : Int32), f_g_spend o seed p jg s = some s' ∧ f_m_dayGoes seed t = some (r, t') ∧ yLw s' t' ∧ zFo s' ∧ (∃ G S, yDn o s' t' G S) ∧ (∀ j, j < 32 → s'.1 (o + 1) j = t'.1 12 j) ∧ s'.1 o 1 = r ∧ yQw o s s' ∧ yQm t t' ∧ s'.1 o 2 = p ∧ s'.1 o 10 = 3 * s.1 2 0 + s.1 2 1 := by
  have ho' : 25 ≤ o ∧ o ≤ 28 := by omega
  obtain ⟨n0, n1, n2, n5, n6, n7⟩ := h0
  obtain ⟨G, hG, eG⟩ := q_ix (x := t.1 1 2) (n := 20) (by have := hr 2 (by omega); unfold zrg zlo zhi at this; simp at this; omega)
  obtain ⟨S, hS, eS⟩ := q_ix (x := t.1 1 5) (n := 32) (by have := hr 5 (by omega); unfold zrg zlo zhi at this; simp at this; omega)
  have hG1 : 1 ≤ G := by
    have := hr 2 (by omega)
    rw [eG] at this
    unfold zrg zlo at this
    rw [q_nI (by omega)] at this
    simp at this
    omega
  have hS1 : 1 ≤ S := by
    have := hr 5 (by omega)
    rw [eS] at this
    unfold zrg zlo at this
    rw [q_nI (by omega)] at this
    simp at this
    omega
  have hzF := zFu_big
  have L2 : ∀ (x : zSt), zld x 2 8 2 = some (x.1 2 2) := fun x => zld_at (j := 2) (by omega) (by omega)
  have L5 : ∀ (x : zSt), zld x 2 8 5 = some (x.1 2 5) := fun x => zld_at (j := 5) (by omega) (by omega)
  have L6 : ∀ (x : zSt), zld x 2 8 6 = some (x.1 2 6) := fun x => zld_at (j := 6) (by omega) (by omega)
  have hT : yDm t (zTe t seed) := yDm_t (yDm_t (yDm_t (yDm_t (yDm_w (j := 21) (v := seed) (by omega)) (yDm_w (j := 22) (v := 0) (by omega))) (yDm_w (j := 24) (v := 0) (by omega))) (yDm_w (j := 25) (v := 0) (by omega))) (yDm_w (j := 26) (v := 0) (by omega))
  rcases ho with rfl | rfl
  · have hb : f_dy_begin 25 seed p jg s = (f_dy_refill 25 (zBe 25 seed p jg s)).bind fun x18 => some x18 := by
      unfold f_dy_begin
      rw [Option.bind_some, Option.bind_some, Option.bind_some, Option.bind_some, Option.bind_some, Option.bind_some, Option.bind_some, Option.bind_some, Option.bind_some, p_gJug, Option.bind_some, Option.bind_some, L2, Option.bind_some, Option.bind_some, L5, Option.bind_some, Option.bind_some, L6, Option.bind_some, Option.bind_some]
      rfl
    have hB : yDf s (zBe 25 seed p jg s) := ⟨rfl, fun a ha => by
      have x1 : ¬ a = 25 := by omega
      have x2 : ¬ a = 26 := by omega
      simp only [zBe, zw_1, zfill, if_neg x1, if_neg x2]⟩
    have hn : yDn 25 (zBe 25 seed p jg s) (zTe t seed) G S := ⟨rfl, rfl, rfl, rfl, n7, n6, ⟨hG1, hG, n2.trans eG, eG⟩, ⟨hS1, hS, n5.trans eS, eS⟩, 0, by omega, rfl, rfl, fun h => absurd h (by omega)⟩
    obtain ⟨s1, t1, r1, r2, r3, r4, r5, r6, r7, r8⟩ := refill_rel hn ho'
    have D := yDf_t hB r4
    have M := yDm_t hT r5
    have E : ∀ a, a ≠ 25 → a ≠ 26 → s1.1 a = s.1 a := fun a b1 b2 => (r6 a b1).trans (by simp only [zBe, zw_1, zfill, if_neg b1, if_neg b2])
    have Q : yQw 25 s s1 := ⟨D.1, fun a _ _ _ _ b5 b6 => E a b5 b6⟩
    obtain ⟨s', t', r, c1, c2, c3, c4, c5, c6, c7, c8, c9, c10, -⟩ := day_loop (o := 25) (by omega) 32 0 zFu zFu s1 t1 0 (by omega) (by omega) (by omega) (yLw_d hL D M) (zFo_d hf D) r3 (yPs_q hp (by omega) Q (yQm_d M)) (fun j hj => absurd hj (by omega)) (fun j _ hj => by
      rw [r6 (26) (by omega)]
      show (if j < 32 then (0 : Int32) else s.1 (26) j) = 0
      rw [if_pos hj]) (by rw [r8 1 (by omega)]; rfl)
    refine ⟨s', t', r, ?_, ?_, c3, c4, ⟨G, S, c5⟩, c7, c8, yQw_t Q (yQw_f c9), yQm_t (yQm_d M) c10, (c9.2.2 2 (by omega)).trans ((r8 2 (by omega)).trans rfl), (c9.2.2 10 (by omega)).trans ((r8 10 (by omega)).trans rfl)⟩
    · unfold f_g_spend
      rw [hb, r1, Option.bind_some, Option.bind_some]
      rw [show nI 0 = (0 : Int32) from rfl] at c1
      exact c1
    · have hm : f_m_dayGoes seed t = (f_m_makesOne (zTe t seed)).bind fun x1 => f_m_dayGoes_33 zFu 0 0 x1 := by
        unfold f_m_dayGoes zTe
        rfl
      rw [hm, r2, Option.bind_some]
      rw [show nI 0 = (0 : Int32) from rfl] at c2
      exact c2
  · have hb : f_dy_begin 27 seed p jg s = (f_dy_refill 27 (zBe 27 seed p jg s)).bind fun x18 => some x18 := by
      unfold f_dy_begin
      rw [Option.bind_some, Option.bind_some, Option.bind_some, Option.bind_some, Option.bind_some, Option.bind_some, Option.bind_some, Option.bind_some, Option.bind_some, p_gJug, Option.bind_some, Option.bind_some, L2, Option.bind_some, Option.bind_some, L5, Option.bind_some, Option.bind_some, L6, Option.bind_some, Option.bind_some]
      rfl
    have hB : yDf s (zBe 27 seed p jg s) := ⟨rfl, fun a ha => by
      have x1 : ¬ a = 27 := by omega
      have x2 : ¬ a = 28 := by omega
      simp only [zBe, zw_1, zfill, if_neg x1, if_neg x2]⟩
    have hn : yDn 27 (zBe 27 seed p jg s) (zTe t seed) G S := ⟨rfl, rfl, rfl, rfl, n7, n6, ⟨hG1, hG, n2.trans eG, eG⟩, ⟨hS1, hS, n5.trans eS, eS⟩, 0, by omega, rfl, rfl, fun h => absurd h (by omega)⟩
    obtain ⟨s1, t1, r1, r2, r3, r4, r5, r6, r7, r8⟩ := refill_rel hn ho'
    have D := yDf_t hB r4
    have M := yDm_t hT r5
    have E : ∀ a, a ≠ 27 → a ≠ 28 → s1.1 a = s.1 a := fun a b1 b2 => (r6 a b1).trans (by simp only [zBe, zw_1, zfill, if_neg b1, if_neg b2])
    have Q : yQw 27 s s1 := ⟨D.1, fun a _ _ _ _ b5 b6 => E a b5 b6⟩
    obtain ⟨s', t', r, c1, c2, c3, c4, c5, c6, c7, c8, c9, c10, -⟩ := day_loop (o := 27) (by omega) 32 0 zFu zFu s1 t1 0 (by omega) (by omega) (by omega) (yLw_d hL D M) (zFo_d hf D) r3 (yPs_q hp (by omega) Q (yQm_d M)) (fun j hj => absurd hj (by omega)) (fun j _ hj => by
      rw [r6 (28) (by omega)]
      show (if j < 32 then (0 : Int32) else s.1 (28) j) = 0
      rw [if_pos hj]) (by rw [r8 1 (by omega)]; rfl)
    refine ⟨s', t', r, ?_, ?_, c3, c4, ⟨G, S, c5⟩, c7, c8, yQw_t Q (yQw_f c9), yQm_t (yQm_d M) c10, (c9.2.2 2 (by omega)).trans ((r8 2 (by omega)).trans rfl), (c9.2.2 10 (by omega)).trans ((r8 10 (by omega)).trans rfl)⟩
    · unfold f_g_spend
      rw [hb, r1, Option.bind_some, Option.bind_some]
      rw [show nI 0 = (0 : Int32) from rfl] at c1
      exact c1
    · have hm : f_m_dayGoes seed t = (f_m_makesOne (zTe t seed)).bind fun x1 => f_m_dayGoes_33 zFu 0 0 x1 := by
        unfold f_m_dayGoes zTe
        rfl
      rw [hm, r2, Option.bind_some]
      rw [show nI 0 = (0 : Int32) from rfl] at c2
      exact c2
