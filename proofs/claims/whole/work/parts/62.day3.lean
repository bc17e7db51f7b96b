/-! DAYS 3: the passers of a quarter -/
theorem yDn_cg {o G S : Nat} {s t s' t' : zSt} (h : yDn o s t G S) (hs : ∀ i, i ≠ 1 → s'.1 o i = s.1 o i) (ht : ∀ j, 21 ≤ j → j ≤ 26 → t'.1 0 j = t.1 0 j) (h1 : t'.1 1 = t.1 1) : yDn o s' t' G S := by
  unfold yDn
  rw [hs 8 (by omega), hs 6 (by omega), hs 3 (by omega), hs 4 (by omega), hs 9 (by omega), hs 13 (by omega), hs 11 (by omega), hs 12 (by omega), hs 5 (by omega), hs 7 (by omega), ht 21 (by omega) (by omega), ht 24 (by omega) (by omega), ht 25 (by omega) (by omega), ht 26 (by omega) (by omega), ht 22 (by omega) (by omega), ht 23 (by omega) (by omega), h1]
  exact h
def yQw (o : Nat) (s s' : zSt) : Prop := s'.2 = s.2 ∧ ∀ a, a ≠ 19 → a ≠ 22 → a ≠ 23 → a ≠ 24 → a ≠ o → a ≠ o + 1 → s'.1 a = s.1 a
/-- the day's price and its jug's cost stay too -/
def yQf (o : Nat) (s s' : zSt) : Prop := s'.2 = s.2 ∧ (∀ a, a ≠ 19 → a ≠ 22 → a ≠ 23 → a ≠ 24 → a ≠ o → a ≠ o + 1 → s'.1 a = s.1 a) ∧ ∀ i, (i = 2 ∨ i = 10) → s'.1 o i = s.1 o i
theorem yQw_f {o : Nat} {s s' : zSt} (h : yQf o s s') : yQw o s s' := ⟨h.1, h.2.1⟩
theorem yQw_t {o : Nat} {a b c : zSt} (h : yQw o a b) (h' : yQw o b c) : yQw o a c := ⟨h'.1.trans h.1, fun x x1 x2 x3 x4 x5 x6 => (h'.2 x x1 x2 x3 x4 x5 x6).trans (h.2 x x1 x2 x3 x4 x5 x6)⟩
theorem yQf_r (o : Nat) (s : zSt) : yQf o s s := ⟨rfl, fun _ _ _ _ _ _ _ => rfl, fun _ _ => rfl⟩
def yQm (t t' : zSt) : Prop := t'.2 = t.2 ∧ (∀ a, a ≠ 0 → a ≠ 11 → a ≠ 12 → t'.1 a = t.1 a) ∧ ∀ j, (j < 14 ∨ 26 < j) → t'.1 0 j = t.1 0 j
theorem yQf_t {o : Nat} {a b c : zSt} (h : yQf o a b) (h' : yQf o b c) : yQf o a c := ⟨h'.1.trans h.1, fun x x1 x2 x3 x4 x5 x6 => (h'.2.1 x x1 x2 x3 x4 x5 x6).trans (h.2.1 x x1 x2 x3 x4 x5 x6), fun i hi => (h'.2.2 i hi).trans (h.2.2 i hi)⟩
theorem yQm_t {a b c : zSt} (h : yQm a b) (h' : yQm b c) : yQm a c := ⟨h'.1.trans h.1, fun x x1 x2 x3 => (h'.2.1 x x1 x2 x3).trans (h.2.1 x x1 x2 x3), fun j hj => (h'.2.2 j hj).trans (h.2.2 j hj)⟩
theorem yQm_d {t t' : zSt} (h : yDm t t') : yQm t t' := ⟨h.1, fun a a1 _ a3 => h.2.1 a a1 a3, fun j hj => h.2.2 j (by omega)⟩
theorem yQm_m {t t' : zSt} (h : yMf t t') : yQm t t' := ⟨h.1, fun a a1 a2 _ => h.2.1 a a1 a2, fun j hj => h.2.2 j (by omega)⟩
theorem yQf_g {o : Nat} {s s' : zSt} (h : yGf s s') (ho : 25 ≤ o ∧ o ≤ 28) : yQf o s s' := ⟨h.1, fun a a1 a2 a3 a4 _ _ => h.2.1 a a3 a1 a2 a4, fun i _ => by rw [h.2.1 o (by omega) (by omega) (by omega) (by omega)]⟩
theorem yQf_o {o : Nat} {s s' : zSt} (h : yDf s s') (h2 : ∀ a, a ≠ o → s'.1 a = s.1 a) (h3 : ∀ i, (i = 1 ∨ i = 2 ∨ i = 10) → s'.1 o i = s.1 o i) : yQf o s s' := ⟨h.1, fun a _ _ _ _ a5 _ => h2 a a5, fun i hi => h3 i (by omega)⟩
theorem zFo_b {s s' : zSt} (h : zFo s) (hg : yGf s s') {q A : Nat} {k : Int32} (hk : k = s.1 7 q) (hA : A ≤ 32) (hf : ∀ j, s'.1 24 j = s.1 24 j ∨ (j = q * 33 + A ∧ s'.1 24 j = zBuy s (nI q) k (nI A))) : zFo s' := by
  intro q' A' hq hA'
  rw [zBuy_f hg, hg.2.1 7 (by omega) (by omega) (by omega) (by omega)]
  rcases hf (q' * 33 + A') with e | ⟨e1, e2⟩
  · rw [e]; exact h q' A' hq hA'
  · have eq : q' = q := by omega
    have eA : A' = A := by omega
    subst eq eA
    rw [e2, hk]
    exact Or.inr rfl
/-- what a quarter keeps, as it goes -/
def yQu (o q G S : Nat) (s t : zSt) : Prop := yLw s t ∧ zFo s ∧ yDn o s t G S ∧ s.1 (o + 1) q = t.1 12 q
theorem zw_comm (s : zSt) {k k' j j' : Nat} {a b : Int32} (h : k ≠ k') : zw (zw s k j a) k' j' b = zw (zw s k' j' b) k j a := by
  show (_, s.2) = (_, s.2)
  congr 1
  funext c
  by_cases h1 : c = k
  · subst h1
    simp only [zw_1, if_neg h, if_true]
  · by_cases h2 : c = k'
    · subst h2
      simp only [zw_1, if_neg h1, if_true]
    · simp only [zw_1, if_neg h1, if_neg h2]
theorem q_ss (a b : Int32) : (a + 1) - (b + 1) = a - b := by
  rw [q_eq]
  have h1 := q_subE (a + 1) (b + 1)
  have h2 := q_addE a 1
  have h3 := q_addE b 1
  have h4 := q_subE a b
  have r1 := q_rng ((a + 1) - (b + 1))
  have r2 := q_rng (a - b)
  rw [l1] at h2 h3
  omega
theorem pass_loop {o G S q p : Nat} (ho : o = 25 ∨ o = 27) (hq : q < 32) (hp : p ≤ 9) {k : Int32} : ∀ (m i F F' : Nat) (s t : zSt), i + m = p → m < F → m < F' → yQu o q G S s t → s.1 7 q = k →
    ∃ (s' t' : zSt), f_dy_pass_26 o F (nI q) k (nI p) (nI i) s = f_dy_pass_26 o (F - m) (nI q) k (nI p) (nI p) s' ∧ f_m_quarterGoes_15 F' (nI q) (nI p) (nI i) t = f_m_quarterGoes_15 (F' - m) (nI q) (nI p) (nI p) t' ∧ yQu o q G S s' t' ∧ (∀ j, j ≠ q → s'.1 (o + 1) j = s.1 (o + 1) j ∧ t'.1 12 j = t.1 12 j) ∧ s'.1 o 1 - s'.1 (o + 1) q = s.1 o 1 - s.1 (o + 1) q ∧ yQf o s s' ∧ yQm t t' := by
  have ho' : 25 ≤ o ∧ o ≤ 28 := by omega
  intro m
  induction m with
  | zero =>
    intro i F F' s t hi hF hF' h hk
    have e : i = p := by omega
    subst e
    exact ⟨s, t, rfl, rfl, h, fun _ _ => ⟨rfl, rfl⟩, rfl, yQf_r o s, ⟨rfl, fun _ _ _ _ => rfl, fun _ _ => rfl⟩⟩
  | succ m ih =>
    intro i F F' s t hi hF hF' ⟨hL, hf, hn, hs⟩ hk
    obtain ⟨F, rfl⟩ : ∃ x, F = x + 1 := ⟨F - 1, by omega⟩
    obtain ⟨F', rfl⟩ : ∃ x, F' = x + 1 := ⟨F' - 1, by omega⟩
    obtain ⟨r, s1, t1, d1, d2, d3, d4, d5, d6, d7, d8, d9⟩ := draw_rel hn ho'
    have hL1 := yLw_d hL d4 d5
    have hf1 := zFo_d hf d4
    have hs1 : s1.1 (o + 1) q = t1.1 12 q := by rw [d6 (o + 1) (by omega), d7]; exact hs
    have hk1 : s1.1 7 q = k := by rw [d4.2 7 (by omega)]; exact hk
    obtain ⟨-, -, -, -, -, -, -, ⟨S1, S2, -, -⟩, l, l1, l2, l3, l4⟩ := id d3
    have next : ∀ s2 t2 : zSt, f_dy_pass_26 o (F + 1) (nI q) k (nI p) (nI i) s = f_dy_pass_26 o F (nI q) k (nI p) (nI (i + 1)) s2 → f_m_quarterGoes_15 (F' + 1) (nI q) (nI p) (nI i) t = f_m_quarterGoes_15 F' (nI q) (nI p) (nI (i + 1)) t2 → yQu o q G S s2 t2 → s2.1 7 q = k → (∀ j, j ≠ q → s2.1 (o + 1) j = s.1 (o + 1) j ∧ t2.1 12 j = t.1 12 j) → s2.1 o 1 - s2.1 (o + 1) q = s.1 o 1 - s.1 (o + 1) q → yQf o s s2 → yQm t t2 →
        ∃ (s' t' : zSt), f_dy_pass_26 o (F + 1) (nI q) k (nI p) (nI i) s = f_dy_pass_26 o (F + 1 - (m + 1)) (nI q) k (nI p) (nI p) s' ∧ f_m_quarterGoes_15 (F' + 1) (nI q) (nI p) (nI i) t = f_m_quarterGoes_15 (F' + 1 - (m + 1)) (nI q) (nI p) (nI p) t' ∧ yQu o q G S s' t' ∧ (∀ j, j ≠ q → s'.1 (o + 1) j = s.1 (o + 1) j ∧ t'.1 12 j = t.1 12 j) ∧ s'.1 o 1 - s'.1 (o + 1) q = s.1 o 1 - s.1 (o + 1) q ∧ yQf o s s' ∧ yQm t t' := by
      intro s2 t2 a1 a2 a3 a4 a5 a6 a7 a8
      obtain ⟨s', t', b1, b2, b3, b4, b5, b6, b7⟩ := ih (i + 1) F F' s2 t2 (by omega) (by omega) (by omega) a3 a4
      refine ⟨s', t', ?_, ?_, b3, fun j hj => ⟨(b4 j hj).1.trans (a5 j hj).1, (b4 j hj).2.trans (a5 j hj).2⟩, b5.trans a6, yQf_t a7 b6, yQm_t a8 b7⟩
      · rw [a1, b1, Nat.add_sub_add_right]
      · rw [a2, b2, Nat.add_sub_add_right]
    have gi : ¬ nI p ≤ nI i := nI_ge (by omega) (by omega)
    by_cases c : l = 0
    · subst c
      refine next s1 t1 ?_ ?_ ⟨hL1, hf1, d3, hs1⟩ hk1 (fun j _ => ⟨by rw [d6 (o + 1) (by omega)], by rw [d7]⟩) (by rw [d8 1 (by omega), d6 (o + 1) (by omega)]) (yQf_o d4 d6 d8) (yQm_d d5)
      · conv => lhs; unfold f_dy_pass_26
        rw [if_neg gi, d1, Option.bind_some]
        dsimp only
        rw [l2, if_pos (by decide), nI_1]
      · conv => lhs; unfold f_m_quarterGoes_15
        rw [if_neg gi, d2, Option.bind_some]
        dsimp only
        rw [l3, if_pos (by decide), nI_1]
    · obtain ⟨A, a1, a2, a3⟩ := l4 (by omega)
      have ln : ¬ nI l ≤ 0 := nI_nle (by omega) (by omega)
      have hk17 : ¬ s1.1 17 3 = 0 → ∃ k, k ≤ 121 ∧ s1.1 17 2 = nI k := yL_k hL1.2.2.1
      have hk20 : ¬ s1.1 20 3 = 0 → ∃ k, k ≤ 121 ∧ s1.1 20 2 = nI k := yL_k hL1.2.2.2
      obtain ⟨s2, g1, g2, g3⟩ := g_buysOf hk17 hk20 hq (show A ≤ 32 by omega) k (by rw [← hk1]; exact hf1 q A hq (by omega))
      obtain ⟨t2, m1, m2⟩ := m_buysOf hL1 hq (nI A)
      rw [hk1] at m1
      have hL2 := yLw_f hL1 g2 m2
      have hf2 := zFo_b hf1 g2 hk1.symm (by omega) g3
      have so : s2.1 o = s1.1 o := g2.2.1 o (by omega) (by omega) (by omega) (by omega)
      have so1 : s2.1 (o + 1) = s1.1 (o + 1) := g2.2.1 (o + 1) (by omega) (by omega) (by omega) (by omega)
      have t12 : t2.1 12 = t1.1 12 := m2.2.1 12 (by omega) (by omega)
      have hn2 : yDn o s2 t2 G S := yDn_cg d3 (fun i _ => by rw [so]) (fun j j1 j2 => m2.2.2 j (by omega)) (m2.2.1 1 (by omega) (by omega))
      have hs2 : s2.1 (o + 1) q = t2.1 12 q := by rw [so1, t12]; exact hs1
      have hk2 : s2.1 7 q = k := by rw [g2.2.1 7 (by omega) (by omega) (by omega) (by omega)]; exact hk1
      have fG := yQf_t (yQf_o (o := o) d4 d6 d8) (yQf_g g2 ho')
      have fM := yQm_t (yQm_d d5) (yQm_m m2)
      have e5 : s2.1 o 5 = nI l := by rw [so]; exact l2
      have e22 : t2.1 0 22 = nI l := (m2.2.2 22 (by omega)).trans l3
      by_cases w : zBuy s1 (nI q) k (nI A) ≤ r
      · refine next s2 t2 ?_ ?_ ⟨hL2, hf2, hn2, hs2⟩ hk2 (fun j _ => ⟨by rw [so1, d6 (o + 1) (by omega)], by rw [t12, d7]⟩) (by rw [so, so1, d8 1 (by omega), d6 (o + 1) (by omega)]) fG fM
        · conv => lhs; unfold f_dy_pass_26
          rw [if_neg gi, d1, Option.bind_some]
          dsimp only
          rw [l2, if_neg ln, a2, g1, Option.bind_some]
          dsimp only
          rw [if_pos w, nI_1]
        · conv => lhs; unfold f_m_quarterGoes_15
          rw [if_neg gi, d2, Option.bind_some]
          dsimp only
          rw [l3, if_neg ln, a3, m1, Option.bind_some]
          dsimp only
          rw [if_pos w, nI_1]
      · have hn3 : yDn o (zw (zw s2 (o + 1) q (s2.1 (o + 1) q + 1)) o 1 (s2.1 o 1 + 1)) (zw t2 12 q (s2.1 (o + 1) q + 1)) G S := yDn_cg hn2 (fun i hi1 => by rw [zw_o, if_neg hi1, zw_e (by omega)]) (fun j j1 j2 => rfl) rfl
        have e5' : (zw (zw s2 (o + 1) q (s2.1 (o + 1) q + 1)) o 1 (s2.1 o 1 + 1)).1 o 5 = nI l := by
          rw [zw_o, if_neg (by omega), zw_e (by omega)]
          exact e5
        have hn4 := yDn_left (m := l - 1) hn3 e5' (by omega) l1
        obtain ⟨s5, t5, r1, r2, r3, r4, r5, r6, r7, r8⟩ := refill_rel hn4 ho'
        have hF : yDf s2 s5 := yDf_t (yDf_t (yDf_t (yDf_w (by omega)) (yDf_w ho')) (yDf_w ho')) r4
        have hM1 : yDm t2 (zw t2 12 q (s2.1 (o + 1) q + 1)) := ⟨rfl, fun a _ a2 => zw_e a2, fun _ _ => rfl⟩
        have hM2 : yDm (zw t2 12 q (s2.1 (o + 1) q + 1)) (zw (zw t2 12 q (s2.1 (o + 1) q + 1)) 0 22 (nI (l - 1))) := yDm_w (by omega)
        have hMm : yDm t2 t5 := yDm_t (yDm_t hM1 hM2) r5
        have q1 : s5.1 (o + 1) = upd (s2.1 (o + 1)) q (s2.1 (o + 1) q + 1) := by
          rw [r6 (o + 1) (by omega), zw_e (by omega), zw_e (by omega), zw_same]
        have q2 : t5.1 12 = upd (t2.1 12) q (s2.1 (o + 1) q + 1) := by
          rw [r7]; rfl
        have q3 : s5.1 o 1 = s2.1 o 1 + 1 := by
          rw [r8 1 (by omega), zw_o, if_neg (by omega), zw_o, if_pos rfl]
        refine next s5 t5 ?_ ?_ ⟨yLw_d hL2 hF hMm, zFo_d hf2 hF, r3, ?_⟩ (by rw [hF.2 7 (by omega)]; exact hk2) (fun j hj => ⟨?_, ?_⟩) ?_ (yQf_t fG ⟨hF.1, fun a b1 b2 b3 b4 b5 b6 => ?_, fun i hi => ?_⟩) (yQm_t fM (yQm_d hMm))
        · conv => lhs; unfold f_dy_pass_26
          rw [if_neg gi, d1, Option.bind_some]
          dsimp only
          rw [l2, if_neg ln, a2, g1, Option.bind_some]
          dsimp only
          rw [if_neg w, zld_at hq (by omega), Option.bind_some, zst_at hq (by omega), Option.bind_some, Option.bind_some, zw_e (show o ≠ o + 1 by omega)]
          unfold f_dy_emptyGlass
          rw [e5', show nI l - 1 = nI (l - 1) from pk_sub (a := l) (b := 1) (by omega), Option.bind_some, r1, Option.bind_some, Option.bind_some, nI_1]
        · conv => lhs; unfold f_m_quarterGoes_15
          rw [if_neg gi, d2, Option.bind_some]
          dsimp only
          rw [l3, if_neg ln, a3, m1, Option.bind_some]
          dsimp only
          rw [if_neg w, e22, show nI l - 1 = nI (l - 1) from pk_sub (a := l) (b := 1) (by omega), zld_at hq (by omega), Option.bind_some, zst_at hq (by omega), Option.bind_some, zw_e (show 12 ≠ 0 by omega), ← hs2, zw_comm t2 (show 0 ≠ 12 by omega), r2, Option.bind_some, nI_1]
        · rw [q1, q2, q_updS, q_updS]
        · rw [q1, q_updN hj, so1, d6 (o + 1) (by omega)]
        · rw [q2, q_updN hj, t12, d7]
        · rw [q3, q1, q_updS, q_ss, so, so1, d8 1 (by omega), d6 (o + 1) (by omega)]
        · rw [r6 a b5, zw_e b5, zw_e b5, zw_e b6]
        · rw [r8 i (by omega), zw_o, if_neg (by omega), zw_o, if_neg (by omega), zw_e (by omega)]
