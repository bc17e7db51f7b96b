/-! DAYS 11: a day judged -/
theorem begin_rel {s t : zSt} (hL : yLw s t) (hf : zFo s) (hp : yPs s t) (hr : ∀ j, j < 8 → zrg j (t.1 1 j)) {p jg : Int32} (h0 : s.1 2 0 = t.1 1 0 ∧ s.1 2 1 = t.1 1 1 ∧ s.1 2 2 = t.1 1 2 ∧ s.1 2 5 = t.1 1 5 ∧ s.1 2 6 = t.1 1 6 ∧ jg = t.1 1 7) (seed : Int32) :
    ∃ (s1 t1 : zSt) (G S : Nat), f_dy_begin 27 seed p jg s = some s1 ∧ f_m_dayGoes seed t = f_m_dayGoes_33 zFu 0 0 t1 ∧ yLw s1 t1 ∧ zFo s1 ∧ yDn 27 s1 t1 G S ∧ yPs s1 t1 ∧ (∀ j, j < 32 → s1.1 28 j = 0) ∧ s1.1 27 1 = 0 ∧ yQw 27 s s1 ∧ yQm t t1 := by
  obtain ⟨n0, n1, n2, n5, n6, n7⟩ := h0
  obtain ⟨G, hG, eG⟩ := q_ix (x := t.1 1 2) (n := 20) (by have := hr 2 (by omega); unfold zrg zlo zhi at this; simp at this; omega)
  obtain ⟨S, hS, eS⟩ := q_ix (x := t.1 1 5) (n := 32) (by have := hr 5 (by omega); unfold zrg zlo zhi at this; simp at this; omega)
  have hG1 : 1 ≤ G := by
    have := hr 2 (by omega)
    rw [eG] at this
    unfold zrg zlo at this
    rw [q_nI (by omega)] at this
    simp at this
    omega
  have hS1 : 1 ≤ S := by
    have := hr 5 (by omega)
    rw [eS] at this
    unfold zrg zlo at this
    rw [q_nI (by omega)] at this
    simp at this
    omega
  have L2 : ∀ (x : zSt), zld x 2 8 2 = some (x.1 2 2) := fun x => zld_at (j := 2) (by omega) (by omega)
  have L5 : ∀ (x : zSt), zld x 2 8 5 = some (x.1 2 5) := fun x => zld_at (j := 5) (by omega) (by omega)
  have L6 : ∀ (x : zSt), zld x 2 8 6 = some (x.1 2 6) := fun x => zld_at (j := 6) (by omega) (by omega)
  have hT : yDm t (zTe t seed) := yDm_t (yDm_t (yDm_t (yDm_t (yDm_w (j := 21) (v := seed) (by omega)) (yDm_w (j := 22) (v := 0) (by omega))) (yDm_w (j := 24) (v := 0) (by omega))) (yDm_w (j := 25) (v := 0) (by omega))) (yDm_w (j := 26) (v := 0) (by omega))
  have hb : f_dy_begin 27 seed p jg s = (f_dy_refill 27 (zBe 27 seed p jg s)).bind fun x18 => some x18 := by
    unfold f_dy_begin
    rw [Option.bind_some, Option.bind_some, Option.bind_some, Option.bind_some, Option.bind_some, Option.bind_some, Option.bind_some, Option.bind_some, Option.bind_some, p_gJug, Option.bind_some, Option.bind_some, L2, Option.bind_some, Option.bind_some, L5, Option.bind_some, Option.bind_some, L6, Option.bind_some, Option.bind_some]
    rfl
  have hB : yDf s (zBe 27 seed p jg s) := ⟨rfl, fun a ha => by
    have x1 : ¬ a = 27 := by omega
    have x2 : ¬ a = 28 := by omega
    simp only [zBe, zw_1, zfill, if_neg x1, if_neg x2]⟩
  have hn : yDn 27 (zBe 27 seed p jg s) (zTe t seed) G S := ⟨rfl, rfl, rfl, rfl, n7, n6, ⟨hG1, hG, n2.trans eG, eG⟩, ⟨hS1, hS, n5.trans eS, eS⟩, 0, by omega, rfl, rfl, fun h => absurd h (by omega)⟩
  obtain ⟨s1, t1, r1, r2, r3, r4, r5, r6, r7, r8⟩ := refill_rel hn (by omega)
  have D := yDf_t hB r4
  have M := yDm_t hT r5
  have E : ∀ a, a ≠ 27 → a ≠ 28 → s1.1 a = s.1 a := fun a b1 b2 => (r6 a b1).trans (by simp only [zBe, zw_1, zfill, if_neg b1, if_neg b2])
  have Q : yQw 27 s s1 := ⟨D.1, fun a _ _ _ _ b5 b6 => E a b5 b6⟩
  refine ⟨s1, t1, G, S, ?_, ?_, yLw_d hL D M, zFo_d hf D, r3, yPs_q hp (by omega) Q (yQm_d M), fun j hj => ?_, ?_, Q, yQm_d M⟩
  · rw [hb, r1, Option.bind_some]
  · have hm : f_m_dayGoes seed t = (f_m_makesOne (zTe t seed)).bind fun x1 => f_m_dayGoes_33 zFu 0 0 x1 := by
      unfold f_m_dayGoes zTe
      rfl
    rw [hm, r2, Option.bind_some]
  · rw [r6 28 (by omega)]
    show (if j < 32 then (0 : Int32) else s.1 28 j) = 0
    rw [if_pos hj]
  · rw [r8 1 (by omega)]; rfl
theorem yLw_q {s t t' : zSt} (h : yLw s t) (hm : yQm t t') : yLw s t' := by
  obtain ⟨m1, m2, m3⟩ := hm
  unfold yLw
  rw [m2 1 (by omega) (by omega) (by omega), m2 5 (by omega) (by omega) (by omega), m2 9 (by omega) (by omega) (by omega), m2 10 (by omega) (by omega) (by omega)]
  exact h
theorem lg_cmp_0 (a b : Int64) : lg_cmp a b = 0 ↔ a.toInt = b.toInt := by
  unfold lg_cmp
  have e : (a = b) ↔ a.toInt = b.toInt := Int64.toInt_inj.symm
  simp only [gt_iff_lt, Int64.lt_iff_toInt_lt, e]
  by_cases h1 : b.toInt < a.toInt
  · rw [if_pos h1]
    constructor
    · intro h; exact absurd h (by decide)
    · intro h; omega
  · rw [if_neg h1]
    by_cases h2 : a.toInt = b.toInt
    · rw [if_pos h2]
      exact ⟨fun _ => h2, fun _ => rfl⟩
    · rw [if_neg h2]
      constructor
      · intro h; exact absurd h (by decide)
      · intro h; exact absurd h h2
/-- both loops stop alike -/
theorem judge_loop {k n : Nat} (hk : k < 6) (hn : n ≤ 60) {G S : Nat} : ∀ (m q F F' F'' : Nat) (s t : zSt) (v : Int32), q + m = 32 → m < F → m < F' → m < F'' → yLw s t → zFo s → yDn 27 s t G S → yPs s t → (∀ j, j < q → s.1 28 j = t.1 12 j) → (∀ j, q ≤ j → j < 32 → s.1 28 j = 0) → s.1 27 1 = v → s.1 (40 + 2 * k) 2 = nI n → t.1 27 k = nI n → (∀ j, j < 60 → s.2 (40 + 2 * k + 1) j = t.2 28 (60 * k + j)) →
    ∃ (s' t' : zSt) (r a : Int32), f_g_firstWrong_33 (40 + 2 * k) F (nI q) s = some (a, s') ∧ f_m_dayGoes_33 F' v (nI q) t = some (r, t') ∧ f_m_firstFalse_8 F'' (nI k) (nI q) t' = some (a, t') ∧ yLw s' t' ∧ zFo s' ∧ yQw 27 s s' ∧ yQm t t' := by
  intro m
  induction m with
  | zero =>
    intro q F F' F'' s t v hq hF hF' hF'' h1 h2 h3 h4 h5 h6 h7 h8 h9 h10
    obtain ⟨F, rfl⟩ : ∃ x, F = x + 1 := ⟨F - 1, by omega⟩
    obtain ⟨F', rfl⟩ : ∃ x, F' = x + 1 := ⟨F' - 1, by omega⟩
    obtain ⟨F'', rfl⟩ : ∃ x, F'' = x + 1 := ⟨F'' - 1, by omega⟩
    have e : q = 32 := by omega
    subst e
    have L27 : zld t 27 6 (nI k) = some (t.1 27 k) := zld_at hk (by omega)
    refine ⟨s, t, v, -2, ?_, ?_, ?_, h1, h2, yQw_f (yQf_r 27 s), ⟨rfl, fun _ _ _ _ => rfl, fun _ _ => rfl⟩⟩
    · unfold f_g_firstWrong_33
      rw [if_pos (by decide)]
    · unfold f_m_dayGoes_33
      rw [if_pos (by decide)]
    · unfold f_m_firstFalse_8
      rw [L27, Option.bind_some, h9]
      by_cases c : nI n ≤ nI 32
      · rw [if_pos c]
      · rw [if_neg c, if_pos (by decide)]
  | succ m ih =>
    intro q F F' F'' s t v hq hF hF' hF'' h1 h2 h3 h4 h5 h6 h7 h8 h9 h10
    obtain ⟨F, rfl⟩ : ∃ x, F = x + 1 := ⟨F - 1, by omega⟩
    obtain ⟨F', rfl⟩ : ∃ x, F' = x + 1 := ⟨F' - 1, by omega⟩
    obtain ⟨F'', rfl⟩ : ∃ x, F'' = x + 1 := ⟨F'' - 1, by omega⟩
    have n32 : ¬ (32 : Int32) ≤ nI q := nI_ge (b := 32) (by omega) (by omega)
    have L27 : ∀ x : zSt, zld x 27 6 (nI k) = some (x.1 27 k) := fun x => zld_at hk (by omega)
    have T27 : ∀ x : zSt, yQm t x → x.1 27 k = nI n := fun x hx => by rw [hx.2.1 27 (by omega) (by omega) (by omega)]; exact h9
    by_cases c : n ≤ q
    · obtain ⟨s', t', r, c1, c2, c3, c4, c5, c6, c7, c8, c9, c10, c11⟩ := day_loop (o := 27) (Or.inr rfl) (m + 1) q (F + 1) (F' + 1) s t v hq hF hF' h1 h2 h3 h4 h5 h6 h7
      refine ⟨s, t', r, -2, ?_, c2, ?_, yLw_q h1 c10, h2, yQw_f (yQf_r 27 s), c10⟩
      · unfold f_g_firstWrong_33
        rw [if_neg n32, h8, if_pos (nI_le c (by omega))]
      · unfold f_m_firstFalse_8
        rw [L27, Option.bind_some, T27 t' c10, if_pos (nI_le c (by omega))]
    · have nq : ¬ nI n ≤ nI q := nI_ge (by omega) (by omega)
      obtain ⟨s1, t1, a1, a2, ⟨b1, b2, b3, b4⟩, a4, a5, a6, a7⟩ := quarter_rel (o := 27) (Or.inr rfl) (show q < 32 by omega) h1 h2 h3 h4 (h6 q (Nat.le_refl _) (by omega))
      have L12 : ∀ x : zSt, zld x 12 32 (nI q) = some (x.1 12 q) := fun x => zld_at (by omega) (by omega)
      have L28 : zld s1 28 32 (nI q) = some (s1.1 28 q) := zld_at (by omega) (by omega)
      have LS : zldl s1 (40 + 2 * k + 1) 60 (nI q) = some (s1.2 (40 + 2 * k + 1) q) := zldl_at (by omega) (by omega)
      have LT : ∀ x : zSt, zldl x 28 360 ((60 * nI k) + nI q) = some (x.2 28 (60 * k + q)) := fun x => by
        rw [show (60 : Int32) = nI 60 from rfl, pk_mul, nI_add]
        exact zldl_at (by omega) (by omega)
      have hp1 := yPs_q h4 (Or.inr rfl) (yQw_f a6) a7
      have h5' : ∀ j, j < q + 1 → s1.1 28 j = t1.1 12 j := fun j hj => by
        by_cases ej : j = q
        · subst ej; exact b4
        · rw [(a4 j ej).1, (a4 j ej).2]; exact h5 j (by omega)
      have h6' : ∀ j, q + 1 ≤ j → j < 32 → s1.1 28 j = 0 := fun j hj hj2 => by rw [(a4 j (by omega)).1]; exact h6 j (by omega) hj2
      have h7' : s1.1 27 1 = v + t1.1 12 q := by rw [a5, h7]
      have h8' : s1.1 (40 + 2 * k) 2 = nI n := by
        rw [(yQw_f a6).2 (40 + 2 * k) (by omega) (by omega) (by omega) (by omega) (by omega) (by omega)]; exact h8
      have h10' : ∀ j, j < 60 → s1.2 (40 + 2 * k + 1) j = t1.2 28 (60 * k + j) := fun j hj => by rw [a6.1, a7.1]; exact h10 j hj
      have hG : f_g_firstWrong_33 (40 + 2 * k) (F + 1) (nI q) s = if lg_cmp (s1.1 28 q).toInt64 (s1.2 (40 + 2 * k + 1) q) = 0 then f_g_firstWrong_33 (40 + 2 * k) F (nI (q + 1)) s1 else some (nI q, s1) := by
        conv => lhs; unfold f_g_firstWrong_33
        rw [if_neg n32, h8, if_neg nq, a1, Option.bind_some, L28, Option.bind_some, LS, Option.bind_some, nI_1]
      have hD : f_m_dayGoes_33 (F' + 1) v (nI q) t = f_m_dayGoes_33 F' (v + t1.1 12 q) (nI (q + 1)) t1 := by
        conv => lhs; unfold f_m_dayGoes_33
        rw [if_neg n32, a2, Option.bind_some, L12, Option.bind_some, nI_1]
      have hM : ∀ x : zSt, yQm t x → x.1 12 q = t1.1 12 q → f_m_firstFalse_8 (F'' + 1) (nI k) (nI q) x = if lg_cmp (s1.1 28 q).toInt64 (s1.2 (40 + 2 * k + 1) q) = 0 then f_m_firstFalse_8 F'' (nI k) (nI (q + 1)) x else some (nI q, x) := by
        intro x hx h12
        conv => lhs; unfold f_m_firstFalse_8
        rw [L27, Option.bind_some, T27 x hx, if_neg nq, if_neg n32, LT, Option.bind_some, L12, Option.bind_some, h12, ← b4, hx.1, ← h10 q (by omega), ← a6.1, nI_1]
        by_cases e : lg_cmp (s1.1 28 q).toInt64 (s1.2 (40 + 2 * k + 1) q) = 0
        · rw [if_pos e, if_pos ((lg_cmp_0 _ _).mpr ((lg_cmp_0 _ _).mp e).symm)]
        · rw [if_neg e, if_neg (fun z => e ((lg_cmp_0 _ _).mpr ((lg_cmp_0 _ _).mp z).symm))]
      by_cases e : lg_cmp (s1.1 28 q).toInt64 (s1.2 (40 + 2 * k + 1) q) = 0
      · obtain ⟨s', t', r, a, d1, d2, d3, d4, d5, d6, d7⟩ := ih (q + 1) F F' F'' s1 t1 (v + t1.1 12 q) (by omega) (by omega) (by omega) (by omega) b1 b2 b3 hp1 h5' h6' h7' h8' (T27 t1 a7) h10'
        have d8 : t'.1 12 q = t1.1 12 q := by
          obtain ⟨s2, t2, r2, c1, c2, c3, c4, c5, c6, c7, c8, c9, c10, c11⟩ := day_loop (o := 27) (Or.inr rfl) m (q + 1) F F' s1 t1 (v + t1.1 12 q) (by omega) (by omega) (by omega) b1 b2 b3 hp1 h5' h6' h7'
          rw [d2] at c2
          have := congrArg Prod.snd (Option.some.inj c2)
          rw [show t' = t2 from this]
          exact c11 q (by omega)
        refine ⟨s', t', r, a, ?_, by rw [hD]; exact d2, ?_, d4, d5, yQw_t (yQw_f a6) d6, yQm_t a7 d7⟩
        · rw [hG, if_pos e]; exact d1
        · rw [hM t' (yQm_t a7 d7) d8, if_pos e]; exact d3
      · obtain ⟨s2, t2, r2, c1, c2, c3, c4, c5, c6, c7, c8, c9, c10, c11⟩ := day_loop (o := 27) (Or.inr rfl) m (q + 1) F F' s1 t1 (v + t1.1 12 q) (by omega) (by omega) (by omega) b1 b2 b3 hp1 h5' h6' h7'
        refine ⟨s1, t2, r2, nI q, ?_, by rw [hD]; exact c2, ?_, yLw_q b1 c10, b2, yQw_f a6, yQm_t a7 c10⟩
        · rw [hG, if_neg e]
        · rw [hM t2 (yQm_t a7 c10) (c11 q (by omega)), if_neg e]
