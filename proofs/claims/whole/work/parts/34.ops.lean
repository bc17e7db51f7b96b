/-! OPS 4: image, back, body, trace, count -/
theorem gsum_loop (s : zSt) : ∀ (m i n : Nat) (v : Int32), i + m = 32 → m < n → ∃ r, f_st_sumOfHeats_13 n v 32 (nI i) s = some (r, s) ∧ ∀ (n' : Nat) (t : zSt), m < n' → (∀ j, j < 32 → s.1 7 j = t.1 5 j) → f_m_allHeats_4 n' v (nI i) t = some (r, t) := by
  intro m
  induction m with
  | zero =>
    intro i n v hi hn
    obtain ⟨n, rfl⟩ : ∃ x, n = x + 1 := ⟨n - 1, by omega⟩
    have e : i = 32 := by omega
    subst e
    refine ⟨v, by unfold f_st_sumOfHeats_13; rw [if_pos (by decide)], fun n' t hn' _ => ?_⟩
    obtain ⟨n', rfl⟩ : ∃ x, n' = x + 1 := ⟨n' - 1, by omega⟩
    unfold f_m_allHeats_4; rw [if_pos (by decide)]
  | succ m ih =>
    intro i n v hi hn
    obtain ⟨n, rfl⟩ : ∃ x, n = x + 1 := ⟨n - 1, by omega⟩
    have hc : ¬ (32 : Int32) ≤ nI i := nI_ge (b := 32) (by omega) (by omega)
    obtain ⟨r, h1, h2⟩ := ih (i + 1) n (v + s.1 7 i) (by omega) (by omega)
    refine ⟨r, ?_, fun n' t hn' ht => ?_⟩
    · unfold f_st_sumOfHeats_13
      rw [if_neg hc, zld_at (show i < 32 by omega) (by omega)]
      simp only [Option.bind_some, nI_1]
      exact h1
    · obtain ⟨n', rfl⟩ : ∃ x, n' = x + 1 := ⟨n' - 1, by omega⟩
      unfold f_m_allHeats_4
      rw [if_neg hc, zld_at (show i < 32 by omega) (by omega)]
      simp only [Option.bind_some, nI_1, ← ht i (by omega)]
      exact h2 n' t (by omega) ht
theorem sum_heats (s : zSt) : ∃ r, f_st_sumOfHeats s = some (r, s) ∧ ∀ t : zSt, (∀ j, j < 32 → s.1 7 j = t.1 5 j) → f_m_allHeats t = some (r, t) := by
  have hz := zFu_big
  obtain ⟨r, h1, h2⟩ := gsum_loop s 32 0 zFu 0 rfl (by omega)
  exact ⟨r, h1, fun t ht => h2 zFu t (by omega) ht⟩
/-- two rows copied up to k -/
def zcp2 (t : zSt) (a0 a1 b0 b1 k : Nat) : zSt := (fun a => if a = a1 then (fun j => if j < k then t.1 a0 j else t.1 a1 j) else if a = b1 then (fun j => if j < k then t.1 b0 j else t.1 b1 j) else t.1 a, t.2)
theorem zcp2_0 (t : zSt) (a0 a1 b0 b1 : Nat) : zcp2 t a0 a1 b0 b1 0 = t := by
  have : (fun a => if a = a1 then (fun j => if j < 0 then t.1 a0 j else t.1 a1 j) else if a = b1 then (fun j => if j < 0 then t.1 b0 j else t.1 b1 j) else t.1 a) = t.1 := by
    funext a
    by_cases h1 : a = a1
    · subst h1; simp
    · by_cases h2 : a = b1
      · subst h2; simp [h1]
      · simp [h1, h2]
  show (_, t.2) = t
  rw [this]
theorem zcp2_s (t : zSt) (a0 a1 b0 b1 k : Nat) (h1 : a1 ≠ b1) : zw (zw (zcp2 t a0 a1 b0 b1 k) a1 k (t.1 a0 k)) b1 k (t.1 b0 k) = zcp2 t a0 a1 b0 b1 (k + 1) := by
  show (_, _) = (_, _)
  congr 1
  funext a
  by_cases e1 : a = b1
  · subst e1
    simp only [zw_1, zcp2, if_true]
    rw [if_neg (Ne.symm h1)]
    funext j
    by_cases e2 : j = k
    · subst e2
      simp [q_updS, Ne.symm h1]
    · rw [q_updN e2]
      simp only [if_neg (Ne.symm h1)]
      by_cases e3 : j < k
      · rw [if_pos e3, if_pos (by omega)]
      · rw [if_neg e3, if_neg (by omega)]
  · by_cases e4 : a = a1
    · subst e4
      simp only [zw_1, zcp2, if_true, if_neg e1]
      funext j
      by_cases e2 : j = k
      · subst e2
        simp [q_updS]
      · rw [q_updN e2]
        by_cases e3 : j < k
        · simp [e3, Nat.lt_succ_of_lt e3]
        · rw [if_neg e3, if_neg (by omega)]
    · simp only [zw_1, zcp2, if_neg e1, if_neg e4]
theorem image_loop (t : zSt) : ∀ (m i n : Nat), i + m = 32 → m < n → f_m_image_7 n (nI i) (zcp2 t 5 22 6 23 i) = (f_m_allHeats (zcp2 t 5 22 6 23 32)).bind fun x1 => some (x1.1, x1.2) := by
  intro m
  induction m with
  | zero =>
    intro i n hi hn
    obtain ⟨n, rfl⟩ : ∃ x, n = x + 1 := ⟨n - 1, by omega⟩
    have e : i = 32 := by omega
    subst e
    unfold f_m_image_7; rw [if_pos (by decide)]
  | succ m ih =>
    intro i n hi hn
    obtain ⟨n, rfl⟩ : ∃ x, n = x + 1 := ⟨n - 1, by omega⟩
    have hc : ¬ (32 : Int32) ≤ nI i := nI_ge (b := 32) (by omega) (by omega)
    unfold f_m_image_7
    rw [if_neg hc, zld_at (show i < 32 by omega) (by omega)]
    simp only [Option.bind_some]
    rw [zst_at (show i < 32 by omega) (by omega)]
    simp only [Option.bind_some]
    rw [zld_at (show i < 32 by omega) (by omega)]
    simp only [Option.bind_some]
    rw [zst_at (show i < 32 by omega) (by omega)]
    simp only [Option.bind_some, nI_1]
    have e1 : (zw (zw (zcp2 t 5 22 6 23 i) 22 i ((zcp2 t 5 22 6 23 i).1 5 i)) 23 i ((zw (zcp2 t 5 22 6 23 i) 22 i ((zcp2 t 5 22 6 23 i).1 5 i)).1 6 i)) = zcp2 t 5 22 6 23 (i + 1) := zcp2_s t 5 22 6 23 i (by decide)
    rw [e1]
    exact ih (i + 1) n (by omega) (by omega)
theorem back_loop (t : zSt) : ∀ (m i n : Nat), i + m = 32 → m < n → f_m_back_12 n (nI i) (zcp2 t 22 5 23 6 i) = (f_m_allHeats (zcp2 t 22 5 23 6 32)).bind fun x1 => some (x1.1, x1.2) := by
  intro m
  induction m with
  | zero =>
    intro i n hi hn
    obtain ⟨n, rfl⟩ : ∃ x, n = x + 1 := ⟨n - 1, by omega⟩
    have e : i = 32 := by omega
    subst e
    unfold f_m_back_12; rw [if_pos (by decide)]
  | succ m ih =>
    intro i n hi hn
    obtain ⟨n, rfl⟩ : ∃ x, n = x + 1 := ⟨n - 1, by omega⟩
    have hc : ¬ (32 : Int32) ≤ nI i := nI_ge (b := 32) (by omega) (by omega)
    unfold f_m_back_12
    rw [if_neg hc, zld_at (show i < 32 by omega) (by omega)]
    simp only [Option.bind_some]
    rw [zst_at (show i < 32 by omega) (by omega)]
    simp only [Option.bind_some]
    rw [zld_at (show i < 32 by omega) (by omega)]
    simp only [Option.bind_some]
    rw [zst_at (show i < 32 by omega) (by omega)]
    simp only [Option.bind_some, nI_1]
    have e1 : (zw (zw (zcp2 t 22 5 23 6 i) 5 i ((zcp2 t 22 5 23 6 i).1 22 i)) 6 i ((zw (zcp2 t 22 5 23 6 i) 5 i ((zcp2 t 22 5 23 6 i).1 22 i)).1 23 i)) = zcp2 t 22 5 23 6 (i + 1) := zcp2_s t 22 5 23 6 i (by decide)
    rw [e1]
    exact ih (i + 1) n (by omega) (by omega)
theorem cpy_all (f g : Nat → Int32) {j : Nat} (hj : j < 32) : va_cpy f g 0 0 32 j = f j := by
  show (if 0 ≤ j ∧ j < 0 + 32 then f (0 + (j - 0)) else g j) = f j
  rw [if_pos (by omega)]; congr 1; omega
theorem op_image {s t : zSt} (h : yR s t) : yOp f_g_image f_m_image s t := by
  obtain ⟨h1, h2, h3, h4⟩ := id h
  have hz := zFu_big
  obtain ⟨r, a1, a2⟩ := sum_heats (zw (zcps (zcps s 7 10 0 0 32) 8 11 0 0 32) 6 6 1)
  have hl := image_loop (zw t 0 38 1) 32 0 zFu rfl (by omega)
  rw [zcp2_0] at hl
  refine ⟨r, zw (zcps (zcps s 7 10 0 0 32) 8 11 0 0 32) 6 6 1, zcp2 (zw t 0 38 1) 5 22 6 23 32, ?_, ?_, ?_⟩
  · unfold f_g_image f_st_keepImage
    rw [zcp_lit _ _ _ _ _ _ _ _ (by decide)]
    simp only [Option.bind_some]
    rw [zcp_lit _ _ _ _ _ _ _ _ (by decide)]
    simp only [Option.bind_some]
    show (f_st_sumOfHeats (zw (zcps (zcps s 7 10 0 0 32) 8 11 0 0 32) 6 6 1)).bind _ = _
    rw [a1]; rfl
  · unfold f_m_image
    rw [show (0 : Int32) = nI 0 from rfl, hl, a2 (zcp2 (zw t 0 38 1) 5 22 6 23 32) (fun j hj => h2.1 j hj)]; rfl
  · refine ⟨h1, h2, ⟨rfl, fun j hj => ?_, fun j hj => ?_⟩, h4⟩
    · show va_cpy (s.1 7) (s.1 10) 0 0 32 j = if j < 32 then t.1 5 j else t.1 22 j
      rw [cpy_all _ _ hj, if_pos hj]; exact h2.1 j hj
    · show va_cpy (s.1 8) (s.1 11) 0 0 32 j = if j < 32 then t.1 6 j else t.1 23 j
      rw [cpy_all _ _ hj, if_pos hj]; exact h2.2.1 j hj
theorem op_back {s t : zSt} (h : yR s t) : yOp f_g_back f_m_back s t := by
  obtain ⟨h1, h2, ⟨i1, i2, i3⟩, h4⟩ := id h
  by_cases hc : t.1 0 38 = 0
  · exact yOp_same (-5) (by simp [f_g_back, i1, hc]) (by simp [f_m_back, hc]) h
  · have hz := zFu_big
    obtain ⟨r, a1, a2⟩ := sum_heats (zcps (zcps s 10 7 0 0 32) 11 8 0 0 32)
    have hl := back_loop t 32 0 zFu rfl (by omega)
    rw [zcp2_0] at hl
    have g1 : ∀ j, j < 32 → (zcps (zcps s 10 7 0 0 32) 11 8 0 0 32).1 7 j = (zcp2 t 22 5 23 6 32).1 5 j := fun j hj => by
      show va_cpy (s.1 10) (s.1 7) 0 0 32 j = if j < 32 then t.1 22 j else t.1 5 j
      rw [cpy_all _ _ hj, if_pos hj]; exact i2 j hj
    have g2 : ∀ j, j < 32 → (zcps (zcps s 10 7 0 0 32) 11 8 0 0 32).1 8 j = (zcp2 t 22 5 23 6 32).1 6 j := fun j hj => by
      show va_cpy (s.1 11) (s.1 8) 0 0 32 j = if j < 32 then t.1 23 j else t.1 6 j
      rw [cpy_all _ _ hj, if_pos hj]; exact i3 j hj
    refine ⟨r, zcps (zcps s 10 7 0 0 32) 11 8 0 0 32, zcp2 t 22 5 23 6 32, ?_, ?_, ?_⟩
    · unfold f_g_back f_st_takeImage
      rw [i1, if_neg hc, zcp_lit _ _ _ _ _ _ _ _ (by decide)]
      simp only [Option.bind_some]
      rw [zcp_lit _ _ _ _ _ _ _ _ (by decide)]
      simp only [Option.bind_some]
      show (f_st_sumOfHeats (zcps (zcps s 10 7 0 0 32) 11 8 0 0 32)).bind _ = _
      rw [a1]; rfl
    · unfold f_m_back
      rw [if_neg hc, show (0 : Int32) = nI 0 from rfl, hl, a2 _ g1]; rfl
    · exact ⟨h1, ⟨g1, g2, h2.2.2⟩, ⟨i1, i2, i3⟩, h4⟩
theorem op_count {s t : zSt} (h : yR s t) (a : Int32) : yOp (f_g_count a) (f_m_count a) s t := by
  obtain ⟨⟨-, -, d, k, -, -, e1, -, e3, -⟩, ⟨-, -, -, -, p, -, p1, p2⟩, -, ⟨n, -, n1, n2, -⟩, -, -, -, -, -, ⟨⟨z, -, z1, z2, -⟩, b, -, b1, b2, -⟩, -⟩ := id h
  unfold f_g_count f_m_count yOp
  by_cases h0 : a.toInt < 0 ∨ 4 < a.toInt
  · simp only [if_pos h0]; exact ⟨_, s, t, rfl, rfl, h⟩
  · simp only [if_neg h0]
    by_cases c0 : a = 0
    · simp only [if_pos c0]; exact ⟨nI p, s, t, by rw [p1], by rw [p2], h⟩
    · simp only [if_neg c0]
      by_cases c1 : a = 1
      · simp only [if_pos c1]; exact ⟨nI n, s, t, by rw [n1], by rw [n2], h⟩
      · simp only [if_neg c1]
        by_cases c2 : a = 2
        · simp only [if_pos c2]; exact ⟨nI d, s, t, by rw [e1], by rw [e3], h⟩
        · simp only [if_neg c2]
          by_cases c3 : a = 3
          · simp only [if_pos c3]; exact ⟨nI z, s, t, by rw [z1], by rw [z2], h⟩
          · simp only [if_neg c3]
            by_cases c4 : a = 4
            · simp only [if_pos c4]; exact ⟨nI b, s, t, by rw [b1], by rw [b2], h⟩
            · exfalso
              obtain ⟨j, hj, rfl⟩ := q_ix (x := a) (n := 4) (by omega)
              rcases (show j = 0 ∨ j = 1 ∨ j = 2 ∨ j = 3 ∨ j = 4 by omega) with rfl | rfl | rfl | rfl | rfl
              · exact c0 rfl
              · exact c1 rfl
              · exact c2 rfl
              · exact c3 rfl
              · exact c4 rfl
