/-! DAYS 4: the end of a quarter -/
theorem zw_com2 (s : zSt) {k j j' : Nat} {a b : Int32} (h : j ≠ j') : zw (zw s k j a) k j' b = zw (zw s k j' b) k j a := by
  show (_, s.2) = (_, s.2)
  congr 1
  funext c
  by_cases h1 : c = k
  · subst h1
    simp only [if_true]
    funext i
    rw [zw_same, zw_same]
    by_cases e1 : i = j
    · subst e1; rw [q_updN h, q_updS, q_updS]
    · by_cases e2 : i = j'
      · subst e2; rw [q_updS, q_updN e1, q_updS]
      · rw [q_updN e2, q_updN e1, q_updN e1, q_updN e2]
  · simp only [zw_1, if_neg h1]
theorem pass_end {o G S q p : Nat} (ho : o = 25 ∨ o = 27) (hp : p ≤ 9) (k : Int32) (F F' : Nat) {s t : zSt} (h : yQu o q G S s t) :
    ∃ (s' t' : zSt), f_dy_pass_26 o (F + 1) (nI q) k (nI p) (nI p) s = some s' ∧ f_m_quarterGoes_15 (F' + 1) (nI q) (nI p) (nI p) t = some t' ∧ yQu o q G S s' t' ∧ s'.1 (o + 1) = s.1 (o + 1) ∧ t'.1 12 = t.1 12 ∧ s'.1 o 1 = s.1 o 1 ∧ yQf o s s' ∧ yQm t t' := by
  have ho' : 25 ≤ o ∧ o ≤ 28 := by omega
  obtain ⟨hL, hf, hn, hs⟩ := h
  obtain ⟨r, s1, t1, d1, d2, d3, d4, d5, d6, d7, d8, d9⟩ := draw_rel hn ho'
  obtain ⟨-, -, -, -, -, e13, -, -, l, l1, l2, l3, l4⟩ := id d3
  have le : nI p ≤ nI p := nI_le (Nat.le_refl _) (by omega)
  have L6 : zld t1 1 8 6 = some (t1.1 1 6) := zld_at (j := 6) (by omega) (by omega)
  -- the quarter's end from a related pair
  have fin : ∀ s2 t2 : zSt, yDn o s2 t2 G S → yDf s s2 → yDm t t2 → (∀ a, a ≠ o → s2.1 a = s.1 a) → t2.1 12 = t.1 12 → (∀ i, (i = 1 ∨ i = 2 ∨ i = 10) → s2.1 o i = s.1 o i) → f_dy_pass_26 o (F + 1) (nI q) k (nI p) (nI p) s = (f_dy_grow o s2).bind (fun x5 => some x5) → f_m_quarterGoes_15 (F' + 1) (nI q) (nI p) (nI p) t = f_m_quarterGoes_122 t2 →
      ∃ (s' t' : zSt), f_dy_pass_26 o (F + 1) (nI q) k (nI p) (nI p) s = some s' ∧ f_m_quarterGoes_15 (F' + 1) (nI q) (nI p) (nI p) t = some t' ∧ yQu o q G S s' t' ∧ s'.1 (o + 1) = s.1 (o + 1) ∧ t'.1 12 = t.1 12 ∧ s'.1 o 1 = s.1 o 1 ∧ yQf o s s' ∧ yQm t t' := by
    intro s2 t2 n1 n2 n3 n4 n5 n6 hG hM
    obtain ⟨s3, t3, g1, g2, g3, g4, g5, g6, g7, g8⟩ := grow_rel n1 ho'
    have D := yDf_t n2 g4
    have M := yDm_t n3 g5
    have E : ∀ a, a ≠ o → s3.1 a = s.1 a := fun a ha => (g6 a ha).trans (n4 a ha)
    refine ⟨s3, t3, by rw [hG, g1, Option.bind_some], by rw [hM, g2], ⟨yLw_d hL D M, zFo_d hf D, g3, ?_⟩, E _ (by omega), g7.trans n5, (g8 1 (by omega)).trans (n6 1 (by omega)), yQf_o D E (fun i hi => (g8 i hi).trans (n6 i hi)), yQm_d M⟩
    rw [E _ (by omega), g7, n5]
    exact hs
  by_cases c : t1.1 1 6 ≤ r
  · refine fin s1 t1 d3 d4 d5 d6 d7 d8 ?_ ?_
    · unfold f_dy_pass_26
      rw [if_pos le, d1, Option.bind_some]
      dsimp only
      rw [e13, if_pos c]
    · unfold f_m_quarterGoes_15
      rw [if_pos le, d2, Option.bind_some]
      dsimp only
      rw [L6, Option.bind_some, if_pos c]
  · by_cases z : l = 0
    · subst z
      refine fin s1 t1 d3 d4 d5 d6 d7 d8 ?_ ?_
      · unfold f_dy_pass_26
        rw [if_pos le, d1, Option.bind_some]
        dsimp only
        rw [e13, if_neg c, l2, if_pos (by decide)]
      · unfold f_m_quarterGoes_15
        rw [if_pos le, d2, Option.bind_some]
        dsimp only
        rw [L6, Option.bind_some, if_neg c, l3, if_pos (by decide)]
    · have ln : ¬ nI l ≤ 0 := nI_nle (by omega) (by omega)
      have hd := yDn_drunk d3
      have e5' : (zw s1 o 3 (s1.1 o 3 + 1)).1 o 5 = nI l := by rw [zw_o, if_neg (by omega)]; exact l2
      have hl := yDn_left (m := l - 1) hd e5' (by omega) l1
      obtain ⟨s5, t5, r1, r2, r3, r4, r5, r6, r7, r8⟩ := refill_rel hl ho'
      have M1 : yDm t1 (zw t1 0 25 (t1.1 0 25 + 1)) := yDm_w (by omega)
      have M2 : yDm (zw t1 0 25 (t1.1 0 25 + 1)) (zw (zw t1 0 25 (t1.1 0 25 + 1)) 0 22 (nI (l - 1))) := yDm_w (by omega)
      refine fin s5 t5 r3 (yDf_t d4 (yDf_t (yDf_t (yDf_w ho') (yDf_w ho')) r4)) (yDm_t d5 (yDm_t (yDm_t M1 M2) r5)) (fun a ha => by rw [r6 a ha, zw_e ha, zw_e ha, d6 a ha]) (by rw [r7]; exact d7) (fun i hi => by rw [r8 i hi, zw_o, if_neg (by omega), zw_o, if_neg (by omega), d8 i hi]) ?_ ?_
      · unfold f_dy_pass_26
        rw [if_pos le, d1, Option.bind_some]
        dsimp only
        rw [e13, if_neg c, l2, if_neg ln, Option.bind_some]
        unfold f_dy_emptyGlass
        rw [e5', show nI l - 1 = nI (l - 1) from pk_sub (a := l) (b := 1) (by omega), Option.bind_some, r1, Option.bind_some, Option.bind_some]
      · unfold f_m_quarterGoes_15
        rw [if_pos le, d2, Option.bind_some]
        dsimp only
        rw [L6, Option.bind_some, if_neg c, l3, if_neg ln, show nI l - 1 = nI (l - 1) from pk_sub (a := l) (b := 1) (by omega), zw_o, if_neg (by omega), zw_com2 t1 (show 22 ≠ 25 by omega), r2, Option.bind_some]
