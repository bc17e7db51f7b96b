/-! OPS 7: shelves: looked at, changed -/
theorem yRH1_cg {b c l : Int32} {e : Nat → Int64} {sh m : Int32} {f g : Nat → Int64} {bd : Int32} (h : yRH1 b c l e sh m f bd) (hg : ∀ k, k < 60 → g k = f k) : yRH1 b c l e sh m g bd := by
  rcases h with h | h | ⟨t, n, h1, h2, h3, h4, h5, h6, h7, h8, h9⟩
  · exact Or.inl h
  · exact Or.inr (Or.inl h)
  · exact Or.inr (Or.inr ⟨t, n, h1, h2, h3, h4, h5, h6, h7, fun j hj => by rw [hg j hj]; exact h8 j hj, fun ht j hj => by rw [hg j (by omega)]; exact h9 ht j hj⟩)
abbrev ySh (s t : zSt) (j : Nat) : Prop := yRH1 (s.1 (40 + 2 * j) 0) (s.1 (40 + 2 * j) 1) (s.1 (40 + 2 * j) 2) (s.2 (40 + 2 * j + 1)) (t.1 26 j) (t.1 27 j) (fun k => t.2 28 (60 * j + k)) (t.1 0 41)
theorem yR_get {s t : zSt} (h : yR s t) {j : Nat} (hj : j < 6) : ySh s t j := by
  obtain ⟨-, -, -, -, -, -, -, -, -, -, s0, s1, s2, s3, s4, s5⟩ := h
  match j, hj with
  | 0, _ => exact s0
  | 1, _ => exact s1
  | 2, _ => exact s2
  | 3, _ => exact s3
  | 4, _ => exact s4
  | 5, _ => exact s5
theorem yR_set {s t s' t' : zSt} (h : yR s t) {j : Nat} (hj : j < 6) (a1 : ∀ a, a ≠ 40 + 2 * j → s'.1 a = s.1 a) (a2 : ∀ a, a ≠ 40 + 2 * j + 1 → s'.2 a = s.2 a) (b1 : ∀ a, a ≠ 26 → a ≠ 27 → t'.1 a = t.1 a) (b2 : ∀ d, d ≠ j → t'.1 26 d = t.1 26 d ∧ t'.1 27 d = t.1 27 d) (b3 : ∀ k, (k < 60 * j ∨ 60 * j + 60 ≤ k) → t'.2 28 k = t.2 28 k) (hn : ySh s' t' j) : yR s' t' := by
  obtain ⟨h1, h2, h3, h4, h5, h6, h7, h8, h9, h10, s0, s1, s2, s3, s4, s5⟩ := h
  have A0 := a1 0 (by omega)
  have A1 := a1 1 (by omega)
  have A2 := a1 2 (by omega)
  have A3 := a1 3 (by omega)
  have A4 := a1 4 (by omega)
  have A5 := a1 5 (by omega)
  have A6 := a1 6 (by omega)
  have A7 := a1 7 (by omega)
  have A8 := a1 8 (by omega)
  have A9 := a1 9 (by omega)
  have A10 := a1 10 (by omega)
  have A11 := a1 11 (by omega)
  have A13 := a1 13 (by omega)
  have A14 := a1 14 (by omega)
  have A17 := a1 17 (by omega)
  have A18 := a1 18 (by omega)
  have A20 := a1 20 (by omega)
  have A21 := a1 21 (by omega)
  have A25 := a1 25 (by omega)
  have A26 := a1 26 (by omega)
  have A30 := a1 30 (by omega)
  have A31 := a1 31 (by omega)
  have A33 := a1 33 (by omega)
  have A34 := a1 34 (by omega)
  have A35 := a1 35 (by omega)
  have A36 := a1 36 (by omega)
  have A37 := a1 37 (by omega)
  have A38 := a1 38 (by omega)
  have B0 := b1 0 (by omega) (by omega)
  have B1 := b1 1 (by omega) (by omega)
  have B2 := b1 2 (by omega) (by omega)
  have B3 := b1 3 (by omega) (by omega)
  have B4 := b1 4 (by omega) (by omega)
  have B5 := b1 5 (by omega) (by omega)
  have B6 := b1 6 (by omega) (by omega)
  have B7 := b1 7 (by omega) (by omega)
  have B8 := b1 8 (by omega) (by omega)
  have B9 := b1 9 (by omega) (by omega)
  have B10 := b1 10 (by omega) (by omega)
  have B13 := b1 13 (by omega) (by omega)
  have B14 := b1 14 (by omega) (by omega)
  have B17 := b1 17 (by omega) (by omega)
  have B18 := b1 18 (by omega) (by omega)
  have B19 := b1 19 (by omega) (by omega)
  have B22 := b1 22 (by omega) (by omega)
  have B23 := b1 23 (by omega) (by omega)
  have B24 := b1 24 (by omega) (by omega)
  have B25 := b1 25 (by omega) (by omega)
  refine ⟨(by rw [A2, A3, A4, A5, A1, B1, B2, B3, B4, B0]; exact h1), (by rw [A7, A8, A9, A6, B5, B6, B7, B0]; exact h2), (by rw [A10, A11, A6, B22, B23, B0]; exact h3), (by rw [A14, A13, B8, B0]; exact h4), (by rw [A17, A18, B10, B9]; exact h5), (by rw [A20, A21, B10, B9]; exact h6), (by rw [A0, A25, A26, B0, B13, B14]; exact h7), (by rw [A30, A31, B17, B18]; exact h8), (by rw [A33, A34, A35, B19]; exact h9), (by rw [A37, A38, A36, B24, B25, B0]; exact h10), ?_⟩
  match j, hj with
  | 0, _ =>
    exact ⟨hn, yRH1_cg (by rw [a1 42 (by omega), a2 43 (by omega), (b2 1 (by omega)).1, (b2 1 (by omega)).2, B0]; exact s1) (fun k hk => b3 (60 + k) (by omega)), yRH1_cg (by rw [a1 44 (by omega), a2 45 (by omega), (b2 2 (by omega)).1, (b2 2 (by omega)).2, B0]; exact s2) (fun k hk => b3 (120 + k) (by omega)), yRH1_cg (by rw [a1 46 (by omega), a2 47 (by omega), (b2 3 (by omega)).1, (b2 3 (by omega)).2, B0]; exact s3) (fun k hk => b3 (180 + k) (by omega)), yRH1_cg (by rw [a1 48 (by omega), a2 49 (by omega), (b2 4 (by omega)).1, (b2 4 (by omega)).2, B0]; exact s4) (fun k hk => b3 (240 + k) (by omega)), yRH1_cg (by rw [a1 50 (by omega), a2 51 (by omega), (b2 5 (by omega)).1, (b2 5 (by omega)).2, B0]; exact s5) (fun k hk => b3 (300 + k) (by omega))⟩
  | 1, _ =>
    exact ⟨yRH1_cg (by rw [a1 40 (by omega), a2 41 (by omega), (b2 0 (by omega)).1, (b2 0 (by omega)).2, B0]; exact s0) (fun k hk => b3 (0 + k) (by omega)), hn, yRH1_cg (by rw [a1 44 (by omega), a2 45 (by omega), (b2 2 (by omega)).1, (b2 2 (by omega)).2, B0]; exact s2) (fun k hk => b3 (120 + k) (by omega)), yRH1_cg (by rw [a1 46 (by omega), a2 47 (by omega), (b2 3 (by omega)).1, (b2 3 (by omega)).2, B0]; exact s3) (fun k hk => b3 (180 + k) (by omega)), yRH1_cg (by rw [a1 48 (by omega), a2 49 (by omega), (b2 4 (by omega)).1, (b2 4 (by omega)).2, B0]; exact s4) (fun k hk => b3 (240 + k) (by omega)), yRH1_cg (by rw [a1 50 (by omega), a2 51 (by omega), (b2 5 (by omega)).1, (b2 5 (by omega)).2, B0]; exact s5) (fun k hk => b3 (300 + k) (by omega))⟩
  | 2, _ =>
    exact ⟨yRH1_cg (by rw [a1 40 (by omega), a2 41 (by omega), (b2 0 (by omega)).1, (b2 0 (by omega)).2, B0]; exact s0) (fun k hk => b3 (0 + k) (by omega)), yRH1_cg (by rw [a1 42 (by omega), a2 43 (by omega), (b2 1 (by omega)).1, (b2 1 (by omega)).2, B0]; exact s1) (fun k hk => b3 (60 + k) (by omega)), hn, yRH1_cg (by rw [a1 46 (by omega), a2 47 (by omega), (b2 3 (by omega)).1, (b2 3 (by omega)).2, B0]; exact s3) (fun k hk => b3 (180 + k) (by omega)), yRH1_cg (by rw [a1 48 (by omega), a2 49 (by omega), (b2 4 (by omega)).1, (b2 4 (by omega)).2, B0]; exact s4) (fun k hk => b3 (240 + k) (by omega)), yRH1_cg (by rw [a1 50 (by omega), a2 51 (by omega), (b2 5 (by omega)).1, (b2 5 (by omega)).2, B0]; exact s5) (fun k hk => b3 (300 + k) (by omega))⟩
  | 3, _ =>
    exact ⟨yRH1_cg (by rw [a1 40 (by omega), a2 41 (by omega), (b2 0 (by omega)).1, (b2 0 (by omega)).2, B0]; exact s0) (fun k hk => b3 (0 + k) (by omega)), yRH1_cg (by rw [a1 42 (by omega), a2 43 (by omega), (b2 1 (by omega)).1, (b2 1 (by omega)).2, B0]; exact s1) (fun k hk => b3 (60 + k) (by omega)), yRH1_cg (by rw [a1 44 (by omega), a2 45 (by omega), (b2 2 (by omega)).1, (b2 2 (by omega)).2, B0]; exact s2) (fun k hk => b3 (120 + k) (by omega)), hn, yRH1_cg (by rw [a1 48 (by omega), a2 49 (by omega), (b2 4 (by omega)).1, (b2 4 (by omega)).2, B0]; exact s4) (fun k hk => b3 (240 + k) (by omega)), yRH1_cg (by rw [a1 50 (by omega), a2 51 (by omega), (b2 5 (by omega)).1, (b2 5 (by omega)).2, B0]; exact s5) (fun k hk => b3 (300 + k) (by omega))⟩
  | 4, _ =>
    exact ⟨yRH1_cg (by rw [a1 40 (by omega), a2 41 (by omega), (b2 0 (by omega)).1, (b2 0 (by omega)).2, B0]; exact s0) (fun k hk => b3 (0 + k) (by omega)), yRH1_cg (by rw [a1 42 (by omega), a2 43 (by omega), (b2 1 (by omega)).1, (b2 1 (by omega)).2, B0]; exact s1) (fun k hk => b3 (60 + k) (by omega)), yRH1_cg (by rw [a1 44 (by omega), a2 45 (by omega), (b2 2 (by omega)).1, (b2 2 (by omega)).2, B0]; exact s2) (fun k hk => b3 (120 + k) (by omega)), yRH1_cg (by rw [a1 46 (by omega), a2 47 (by omega), (b2 3 (by omega)).1, (b2 3 (by omega)).2, B0]; exact s3) (fun k hk => b3 (180 + k) (by omega)), hn, yRH1_cg (by rw [a1 50 (by omega), a2 51 (by omega), (b2 5 (by omega)).1, (b2 5 (by omega)).2, B0]; exact s5) (fun k hk => b3 (300 + k) (by omega))⟩
  | 5, _ =>
    exact ⟨yRH1_cg (by rw [a1 40 (by omega), a2 41 (by omega), (b2 0 (by omega)).1, (b2 0 (by omega)).2, B0]; exact s0) (fun k hk => b3 (0 + k) (by omega)), yRH1_cg (by rw [a1 42 (by omega), a2 43 (by omega), (b2 1 (by omega)).1, (b2 1 (by omega)).2, B0]; exact s1) (fun k hk => b3 (60 + k) (by omega)), yRH1_cg (by rw [a1 44 (by omega), a2 45 (by omega), (b2 2 (by omega)).1, (b2 2 (by omega)).2, B0]; exact s2) (fun k hk => b3 (120 + k) (by omega)), yRH1_cg (by rw [a1 46 (by omega), a2 47 (by omega), (b2 3 (by omega)).1, (b2 3 (by omega)).2, B0]; exact s3) (fun k hk => b3 (180 + k) (by omega)), yRH1_cg (by rw [a1 48 (by omega), a2 49 (by omega), (b2 4 (by omega)).1, (b2 4 (by omega)).2, B0]; exact s4) (fun k hk => b3 (240 + k) (by omega)), hn⟩
theorem q_nm1 {n : Nat} (h : n < 2147483648) : ¬ nI n = -1 := by
  rw [q_eq, q_nI h]
  show ¬ (n : Int) = -1
  omega
theorem p_mShelf (a : Int32) (t : zSt) : f_m_isShelf a t = some (q01 (0 ≤ a.toInt ∧ a.toInt ≤ 5), t) := by
  unfold f_m_isShelf
  simp only [p_within, Option.bind_some, q01_bo, Int32.toInt_toInt64]
  rfl
theorem e_empty {s : zSt} {o : Nat} (hb : s.1 o 0 = -1) (hs : s.1 o 1 = -1) : f_sh_isEmpty o s = some (1, s) := by
  unfold f_sh_isEmpty; rw [if_pos hb, if_pos hs]
theorem e_glass {s : zSt} {o w : Nat} (hw : w < 2147483648) (hb : s.1 o 0 = nI w) : f_sh_isEmpty o s = some (0, s) := by
  unfold f_sh_isEmpty; rw [hb, if_neg (q_nm1 hw)]
theorem e_row {s : zSt} {o k : Nat} (hk : k < 2147483648) (hb : s.1 o 0 = -1) (hs : s.1 o 1 = nI k) : f_sh_isEmpty o s = some (0, s) := by
  unfold f_sh_isEmpty; rw [if_pos hb, hs, if_neg (q_nm1 hk)]
theorem r_not {s : zSt} {o : Nat} {a : Int32} (hs : s.1 o 1 = -1) : f_sh_isRowOf o a s = some (0, s) := by
  unfold f_sh_isRowOf; rw [if_pos hs]
theorem r_is {s : zSt} {o k : Nat} {a : Int32} (hk : k < 2147483648) (hs : s.1 o 1 = nI k) : f_sh_isRowOf o a s = some (q01 (nI k = a), s) := by
  unfold f_sh_isRowOf
  rw [hs, if_neg (q_nm1 hk)]
  by_cases h : nI k = a
  · rw [if_pos h, q01_t h]
  · rw [if_neg h, q01_f h]
theorem p_has {s : zSt} {o n : Nat} (hn : n ≤ 60) (hl : s.1 o 2 = nI n) (a b : Int32) : f_sh_hasPlaces o a b s = some (q01 (0 ≤ a.toInt ∧ 0 ≤ b.toInt ∧ a.toInt + b.toInt ≤ (n : Int)), s) := by
  have ra := q_rng a
  have rb := q_rng b
  unfold f_sh_hasPlaces
  by_cases h1 : a < 0
  · rw [if_pos h1]
    rw [q_lt] at h1
    change a.toInt < 0 at h1
    rw [q01_f (by omega)]
  · rw [if_neg h1]
    rw [q_lt] at h1
    change ¬ a.toInt < 0 at h1
    by_cases h2 : b < 0
    · rw [if_pos h2]
      rw [q_lt] at h2
      change b.toInt < 0 at h2
      rw [q01_f (by omega)]
    · rw [if_neg h2]
      rw [q_lt] at h2
      change ¬ b.toInt < 0 at h2
      rw [hl]
      by_cases h3 : nI n < a
      · rw [if_pos h3]
        rw [q_lt, q_nI (by omega)] at h3
        rw [q01_f (by omega)]
      · rw [if_neg h3]
        rw [q_lt, q_nI (by omega)] at h3
        have e : (nI n - a).toInt = (n : Int) - a.toInt := by
          have := q_subI (a := nI n) (b := a) (by rw [q_nI (by omega)]; omega) (by rw [q_nI (by omega)]; omega)
          rw [this, q_nI (by omega)]
        by_cases h4 : nI n - a < b
        · rw [if_pos h4]
          rw [q_lt, e] at h4
          rw [q01_f (by omega)]
        · rw [if_neg h4]
          rw [q_lt, e] at h4
          rw [q01_t (by omega)]
/-- why a place of a shelf can't be had, by the class and by the reference -/
theorem p_refuse {s t : zSt} {j : Nat} (hj : j < 6) (h : ySh s t j) (i : Int32) :
    (∃ r : Int32, ¬ r = 0 ∧ f_sh_refusalOfPlaces (40 + 2 * j) i 1 s = some (r, s) ∧ f_m_refusal (nI j) i t = some (r, t)) ∨
    (∃ k n m : Nat, k < 5 ∧ n ≤ 60 ∧ m < n ∧ i = nI m ∧ f_sh_refusalOfPlaces (40 + 2 * j) i 1 s = some (0, s) ∧ f_m_refusal (nI j) i t = some (0, t) ∧ t.1 26 j = nI (50 + k) ∧ s.1 (40 + 2 * j) 0 = -1 ∧ s.1 (40 + 2 * j) 1 = nI k ∧ s.1 (40 + 2 * j) 2 = nI n ∧ t.1 27 j = nI n ∧ (∀ q, q < 60 → s.2 (40 + 2 * j + 1) q = t.2 28 (60 * j + q)) ∧ (k = 0 → ∀ q, q < n → -128 ≤ (t.2 28 (60 * j + q)).toInt ∧ (t.2 28 (60 * j + q)).toInt < 128)) := by
  have hji : 0 ≤ (nI j).toInt ∧ (nI j).toInt ≤ 5 := by rw [q_nI (by omega)]; omega
  have hM : f_m_refusal (nI j) i t = if 0 ≤ t.1 26 j then (if 50 ≤ t.1 26 j then (if i < 0 then some ((-13), t) else if t.1 27 j ≤ i then some ((-13), t) else some (0, t)) else some ((-12), t)) else some ((-11), t) := by
    unfold f_m_refusal
    rw [p_mShelf]
    simp only [Option.bind_some]
    rw [q01_t hji, if_neg (by decide : ¬ (1 : Int32) = 0), zld_at hj (by omega), zld_at hj (by omega)]
    rfl
  rcases h with ⟨h1, h2, h3, h4, h5⟩ | ⟨w, n, h1, h2, h3, h4, h5, h6, h7, h8⟩ | ⟨k, n, h1, h2, h3, h4, h5, h6, h7, h8, h9⟩
  · refine Or.inl ⟨-11, by decide, ?_, ?_⟩
    · unfold f_sh_refusalOfPlaces f_sh_refusalOfSort
      rw [e_empty h2 h3]
      rfl
    · rw [hM, h1, if_neg (by decide)]
  · refine Or.inl ⟨-12, by decide, ?_, ?_⟩
    · unfold f_sh_refusalOfPlaces f_sh_refusalOfSort
      rw [e_glass (by omega) h5]
      simp only [Option.bind_some, if_true]
      rw [r_not h6]
      rfl
    · rw [hM, h4, if_pos (nI_pos' (by omega)), if_neg (show ¬ (50 : Int32) ≤ nI w from nI_ge (b := 50) (by omega) (by omega))]
  · have hG : f_sh_refusalOfPlaces (40 + 2 * j) i 1 s = if 0 ≤ i.toInt ∧ 0 ≤ (1 : Int32).toInt ∧ i.toInt + (1 : Int32).toInt ≤ (n : Int) then some (0, s) else some (-13, s) := by
      unfold f_sh_refusalOfPlaces f_sh_refusalOfSort
      rw [e_row (by omega) h4 h5, h5]
      simp only [Option.bind_some, if_true]
      rw [r_is (by omega) h5, q01_t rfl]
      simp only [Option.bind_some]
      rw [if_neg (by decide : ¬ (1 : Int32) = 0)]
      simp only [Option.bind_some, if_true]
      rw [p_has h2 h6]
      simp only [Option.bind_some, q01_0]
      by_cases z : 0 ≤ i.toInt ∧ 0 ≤ (1 : Int32).toInt ∧ i.toInt + (1 : Int32).toInt ≤ (n : Int)
      · rw [if_neg (fun y => y z), if_pos z]
      · rw [if_pos z, if_neg z]
    rw [l1] at hG
    rw [h3, if_pos (nI_pos' (by omega)), if_pos (show (50 : Int32) ≤ nI (50 + k) from nI_le (a := 50) (by omega) (by omega)), h7] at hM
    by_cases c : 0 ≤ i.toInt ∧ i.toInt < (n : Int)
    · obtain ⟨m, hm, rfl⟩ := q_ixl c
      rw [q_nI (by omega)] at hG
      rw [if_pos (by omega)] at hG
      rw [if_neg (nI_pos (by omega)), if_neg (nI_ge hm (by omega))] at hM
      exact Or.inr ⟨k, n, m, h1, h2, hm, rfl, hG, hM, h3, h4, h5, h6, h7, h8, h9⟩
    · rw [if_neg (by omega)] at hG
      refine Or.inl ⟨-13, by decide, hG, ?_⟩
      rw [hM]
      by_cases c1 : i < 0
      · rw [if_pos c1]
      · rw [if_neg c1]
        have hl2 : ¬ i.toInt < 0 := fun z => c1 ((q_lt _ _).mpr z)
        obtain ⟨m, hm, rfl⟩ := q_pos hl2
        rw [q_nI hm] at c
        rw [if_pos (nI_le (by omega) hm)]
theorem yOpL_same {f g : zSt → Option (Int64 × zSt)} {s t : zSt} (r : Int64) (hf : f s = some (r, s)) (hg : g t = some (r, t)) (h : yR s t) : yOpL f g s t := ⟨r, s, t, hf, hg, h⟩
theorem shelf_ix {a : Int32} {j : Nat} (h : a = nI j) (hj : j < 6) : 0 ≤ a.toInt ∧ a.toInt < 6 := by rw [h, q_nI (by omega)]; omega
theorem p_mRefOut {a i : Int32} {t : zSt} (h : ¬ (0 ≤ a.toInt ∧ a.toInt ≤ 5)) : f_m_refusal a i t = some (-1, t) := by
  unfold f_m_refusal
  rw [p_mShelf]
  simp only [Option.bind_some]
  rw [q01_f h, if_pos rfl]
theorem op_element {s t : zSt} (h : yR s t) (a i : Int32) : yOpL (f_g_element a i) (f_m_element a i) s t := by
  by_cases ha : 0 ≤ a.toInt ∧ a.toInt < 6
  · obtain ⟨j, hj, rfl⟩ := q_ixl (n := 6) ha
    have hcl : (nI j).toNatClampNeg = j := nI_clamp (by omega)
    rcases p_refuse hj (yR_get h hj) i with ⟨r, hr, e1, e2⟩ | ⟨k, n, m, hk, hn, hm, rfl, e1, e2, e3, e4, e5, e6, e7, e8, e9⟩
    · refine yOpL_same (-9223372036854775808) ?_ ?_ h
      · unfold f_g_element
        rw [if_pos ha]
        simp only [Option.bind_some, hcl, e1]
        rw [if_neg hr]
      · unfold f_m_element
        rw [e2]
        simp only [Option.bind_some]
        rw [if_neg hr]
    · refine yOpL_same (t.2 28 (60 * j + m)) ?_ ?_ h
      · unfold f_g_element
        rw [if_pos ha]
        simp only [Option.bind_some, hcl, e1, if_true]
        rw [zldl_at (show m < 60 by omega) (by omega), e8 m (by omega)]; rfl
      · unfold f_m_element
        rw [e2]
        simp only [Option.bind_some, if_true]
        rw [show (60 : Int32) = nI 60 from rfl, pk_mul, nI_add, zldl_at (show 60 * j + m < 360 by omega) (by omega)]; rfl
  · refine yOpL_same (-9223372036854775808) ?_ ?_ h
    · unfold f_g_element
      rw [if_neg ha]
    · unfold f_m_element
      rw [p_mRefOut (by omega)]
      rfl
